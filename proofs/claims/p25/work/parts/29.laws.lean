def f_L_cell (x1 : Int32) (lng : Nat) (xs : (Nat → Int32)) : Option (Int32) := if (Int32.ofNat lng) ≤ x1 then some ((32452843 * x1) + 49979687) else zk_ck x1 lng (some (xs x1.toNatClampNeg))
theorem kL_cell_0 : Cond.constant RL 7 (32452843) ∈ wsL_cell := List.mem_of_getElem? (i := 1) rfl
theorem kL_cell_1 : Cond.constant RL 8 (49979687) ∈ wsL_cell := List.mem_of_getElem? (i := 2) rfl
theorem cd_L_cell : yL_cell.cls ≠ "java/lang/invoke/MethodHandle" ∧ yL_cell.cls ≠ "java/lang/invoke/VarHandle" ∧ (parseMethodDescriptor yL_cell.desc).map (fun d => d.parameters.length) = some 2 := by decide +kernel
set_option maxRecDepth 100000 in
set_option maxHeartbeats 4000000 in
theorem c_L_cell (E : zk_Env) (l : Launch) (x1 : Int32) : zk_Mc E l yL_cell wsL_cell ({ frames := 0, cells := 0, slots := 0, locals := 0 } : Room) [.ref E.2.2.1, .int x1] [] (f_L_cell x1 E.2.2.2.1 E.2.2.2.2) (fun r => some (.int r)) (fun r => []) := by
  refine zk_M (cc := cL_cell) (nL := 2) (ret := (some .int)) (by decide) rfl (Nat.le_of_ble_eq_true rfl) (fun X Q hQ => ?_)
  refine zk_eqv (w1 := []) (lv1 := [(0, .ref E.2.2.1), (1, .int x1)]) (st1 := []) (o1 := f_L_cell x1 E.2.2.2.1 E.2.2.2.2) rfl rfl rfl rfl ?_
  unfold f_L_cell
  refine zk_iload_n dL_cell_0 1 rfl 1 rfl ?_
  refine zk_aload_n dL_cell_1 0 rfl 2 rfl ?_
  refine zk_scrl dL_cell_2 3 rfl ?_
  refine zk_icmp_ge dL_cell_3 12 (by decide) 6 rfl (fun _ => ?_) (fun _ => ?_)
  · refine zk_ldcI dL_cell_12 kL_cell_0 14 rfl ?_
    refine zk_iload_n dL_cell_14 1 rfl 15 rfl ?_
    refine zk_imul dL_cell_15 16 rfl ?_
    refine zk_ldcI dL_cell_16 kL_cell_1 18 rfl ?_
    refine zk_iadd dL_cell_18 19 rfl ?_
    exact zk_iret hQ dL_cell_19 rfl rfl
  · refine zk_aload_n dL_cell_6 0 rfl 7 rfl ?_
    refine zk_iload_n dL_cell_7 1 rfl 8 rfl ?_
    refine zk_sld dL_cell_8 9 rfl ?_
    refine zk_goto dL_cell_9 19 (by decide) ?_
    exact zk_iret hQ dL_cell_19 rfl rfl
def f_L_low (x0 : Int32) (x1 : Int32) : Option (Int32) := zk_dv x1 (some (zk_rem (x0 &&& 2147483647) x1))
theorem kL_low_0 : Cond.constant RL 9 (2147483647) ∈ wsL_low := List.mem_of_getElem? (i := 1) rfl
theorem cd_L_low : yL_low.cls ≠ "java/lang/invoke/MethodHandle" ∧ yL_low.cls ≠ "java/lang/invoke/VarHandle" ∧ (parseMethodDescriptor yL_low.desc).map (fun d => d.parameters.length) = some 2 := by decide +kernel
set_option maxRecDepth 100000 in
set_option maxHeartbeats 4000000 in
theorem c_L_low (E : zk_Env) (l : Launch) (x0 : Int32) (x1 : Int32) : zk_Mc E l yL_low wsL_low ({ frames := 0, cells := 0, slots := 0, locals := 0 } : Room) [.int x0, .int x1] [] (f_L_low x0 x1) (fun r => some (.int r)) (fun r => []) := by
  refine zk_M (cc := cL_low) (nL := 2) (ret := (some .int)) (by decide) rfl (Nat.le_of_ble_eq_true rfl) (fun X Q hQ => ?_)
  refine zk_eqv (w1 := []) (lv1 := [(0, .int x0), (1, .int x1)]) (st1 := []) (o1 := f_L_low x0 x1) rfl rfl rfl rfl ?_
  unfold f_L_low
  refine zk_iload_n dL_low_0 0 rfl 1 rfl ?_
  refine zk_ldcI dL_low_1 kL_low_0 3 rfl ?_
  refine zk_iand dL_low_3 4 rfl ?_
  refine zk_iload_n dL_low_4 1 rfl 5 rfl ?_
  refine zk_irem dL_low_5 6 rfl ?_
  exact zk_iret hQ dL_low_6 rfl rfl
def f_L_first_56 (k4 : Int32 × Int32 → Option (Int32)) (s56_0 : Int32) (x2 : Int32) : Option (Int32) := k4 (s56_0, (x2 + 1))
def f_L_first_46 (k4 : Int32 × Int32 → Option (Int32)) (s46_0 : Int32) (x1 : Int32) (x2 : Int32) : Option (Int32) := if s46_0 = 0 then f_L_first_56 k4 x1 x2 else f_L_first_56 k4 x2 x2
def f_L_first_45 (k4 : Int32 × Int32 → Option (Int32)) (x1 : Int32) (x2 : Int32) : Option (Int32) := f_L_first_46 k4 0 x1 x2
def f_L_first_41 (k4 : Int32 × Int32 → Option (Int32)) (x1 : Int32) (x2 : Int32) : Option (Int32) := f_L_first_46 k4 1 x1 x2
def F_L_first_4 (v_state : VX6) (v_history : VX2) (v_program : VX4) (k4 : Int32 × Int32 → Option (Int32)) : Int32 × Int32 → Option (Int32) := fun s => match s with
  | (x1, x2) => (f_X9_count 1 v_state v_history v_program).bind fun r7 => if r7 ≤ x2 then some x1 else (f_X9_promise x2 0 v_state).bind fun r16 => if r16 = 0 then if x1 < 0 then f_L_first_41 k4 x1 x2 else (f_X9_promise x2 1 v_state).bind fun r29 => (f_X9_promise x1 1 v_state).bind fun r35 => if r35 ≤ r29 then f_L_first_45 k4 x1 x2 else f_L_first_41 k4 x1 x2 else f_L_first_45 k4 x1 x2
def f_L_first (v_state : VX6) (v_history : VX2) (v_program : VX4) : Option (Int32) := zk_fx (F_L_first_4 v_state v_history v_program ) zk_N ((-1), 0)
theorem cd_L_first : yL_first.cls ≠ "java/lang/invoke/MethodHandle" ∧ yL_first.cls ≠ "java/lang/invoke/VarHandle" ∧ (parseMethodDescriptor yL_first.desc).map (fun d => d.parameters.length) = some 1 := by decide +kernel
set_option maxRecDepth 100000 in
set_option maxHeartbeats 4000000 in
theorem c_L_first (E : zk_Env) (l : Launch) (b0 : aX9) (u0 : VX9)  : zk_Mc E l yL_first wsL_first ({ frames := 5, cells := 0, slots := 0, locals := 109 } : Room) [.ref b0.1] (gX9 E b0 u0) (f_L_first u0.1 u0.2.1 u0.2.2.1) (fun r => some (.int r)) (fun r => (gX9 E b0 u0)) := by
  obtain ⟨v_state, v_history, v_program, v_forecast⟩ := u0
  refine zk_M (cc := cL_first) (nL := 4) (ret := (some .int)) (by decide) rfl (Nat.le_of_ble_eq_true rfl) (fun X Q hQ => ?_)
  have J56 : ∀ (k4 : Int32 × Int32 → Option (Int32)) (hk4 : ∀ s : Int32 × Int32, zk_G E l X cL_first 4 (some .int) yL_first.cls wsL_first ({ frames := 5, cells := 0, slots := 0, locals := 109 } : Room) 0 0 Q (gX9 E b0 (v_state, v_history, v_program, v_forecast)) [(0, .ref b0.1), (1, .int s.1), (2, .int s.2)] 4 [] (k4 s)) (s56_0 : Int32) (x2 : Int32), zk_G E l X cL_first 4 (some .int) yL_first.cls wsL_first ({ frames := 5, cells := 0, slots := 0, locals := 109 } : Room) 0 0 Q (gX9 E b0 (v_state, v_history, v_program, v_forecast)) [(0, .ref b0.1), (2, .int x2)] 56 [.int s56_0] (f_L_first_56 k4 s56_0 x2) := by
    intro k4 hk4 s56_0 x2
    unfold f_L_first_56
    refine zk_istore_n [(1, .int s56_0), (0, .ref b0.1), (2, .int x2)] dL_first_56 (by decide) rfl 57 rfl ?_
    refine zk_iinc (x2 + 1) [(2, .int (x2 + 1)), (1, .int s56_0), (0, .ref b0.1)] dL_first_57 2 rfl rfl (by decide) rfl 60 rfl ?_
    refine zk_goto dL_first_60 4 (by decide) ?_
    refine zk_lv [2, 1, 0] rfl ?_
    exact hk4 (s56_0, (x2 + 1))
  have J46 : ∀ (k4 : Int32 × Int32 → Option (Int32)) (hk4 : ∀ s : Int32 × Int32, zk_G E l X cL_first 4 (some .int) yL_first.cls wsL_first ({ frames := 5, cells := 0, slots := 0, locals := 109 } : Room) 0 0 Q (gX9 E b0 (v_state, v_history, v_program, v_forecast)) [(0, .ref b0.1), (1, .int s.1), (2, .int s.2)] 4 [] (k4 s)) (s46_0 : Int32) (x1 : Int32) (x2 : Int32), zk_G E l X cL_first 4 (some .int) yL_first.cls wsL_first ({ frames := 5, cells := 0, slots := 0, locals := 109 } : Room) 0 0 Q (gX9 E b0 (v_state, v_history, v_program, v_forecast)) [(0, .ref b0.1), (1, .int x1), (2, .int x2)] 46 [.int s46_0] (f_L_first_46 k4 s46_0 x1 x2) := by
    intro k4 hk4 s46_0 x1 x2
    unfold f_L_first_46
    refine zk_istore_n [(3, .int s46_0), (0, .ref b0.1), (1, .int x1), (2, .int x2)] dL_first_46 (by decide) rfl 47 rfl ?_
    refine zk_iload_n dL_first_47 0 rfl 48 rfl ?_
    refine zk_if_eq dL_first_48 55 (by decide) 51 rfl (fun _ => ?_) (fun _ => ?_)
    · refine zk_iload_n dL_first_55 2 rfl 56 rfl ?_
      refine zk_lv [1, 3] rfl ?_
      exact J56  k4 hk4 x1 x2
    · refine zk_iload_n dL_first_51 3 rfl 52 rfl ?_
      refine zk_goto dL_first_52 56 (by decide) ?_
      refine zk_lv [1, 3] rfl ?_
      exact J56  k4 hk4 x2 x2
  have J45 : ∀ (k4 : Int32 × Int32 → Option (Int32)) (hk4 : ∀ s : Int32 × Int32, zk_G E l X cL_first 4 (some .int) yL_first.cls wsL_first ({ frames := 5, cells := 0, slots := 0, locals := 109 } : Room) 0 0 Q (gX9 E b0 (v_state, v_history, v_program, v_forecast)) [(0, .ref b0.1), (1, .int s.1), (2, .int s.2)] 4 [] (k4 s)) (x1 : Int32) (x2 : Int32), zk_G E l X cL_first 4 (some .int) yL_first.cls wsL_first ({ frames := 5, cells := 0, slots := 0, locals := 109 } : Room) 0 0 Q (gX9 E b0 (v_state, v_history, v_program, v_forecast)) [(0, .ref b0.1), (1, .int x1), (2, .int x2)] 45 [] (f_L_first_45 k4 x1 x2) := by
    intro k4 hk4 x1 x2
    unfold f_L_first_45
    refine zk_iconst 0 dL_first_45 (by decide) 46 rfl ?_
    exact J46  k4 hk4 0 x1 x2
  have J41 : ∀ (k4 : Int32 × Int32 → Option (Int32)) (hk4 : ∀ s : Int32 × Int32, zk_G E l X cL_first 4 (some .int) yL_first.cls wsL_first ({ frames := 5, cells := 0, slots := 0, locals := 109 } : Room) 0 0 Q (gX9 E b0 (v_state, v_history, v_program, v_forecast)) [(0, .ref b0.1), (1, .int s.1), (2, .int s.2)] 4 [] (k4 s)) (x1 : Int32) (x2 : Int32), zk_G E l X cL_first 4 (some .int) yL_first.cls wsL_first ({ frames := 5, cells := 0, slots := 0, locals := 109 } : Room) 0 0 Q (gX9 E b0 (v_state, v_history, v_program, v_forecast)) [(0, .ref b0.1), (1, .int x1), (2, .int x2)] 41 [] (f_L_first_41 k4 x1 x2) := by
    intro k4 hk4 x1 x2
    unfold f_L_first_41
    refine zk_iconst 1 dL_first_41 (by decide) 42 rfl ?_
    refine zk_goto dL_first_42 46 (by decide) ?_
    exact J46  k4 hk4 1 x1 x2
  have J4 : ∀ (n : Nat) (x1 : Int32) (x2 : Int32), zk_G E l X cL_first 4 (some .int) yL_first.cls wsL_first ({ frames := 5, cells := 0, slots := 0, locals := 109 } : Room) 0 0 Q (gX9 E b0 (v_state, v_history, v_program, v_forecast)) [(0, .ref b0.1), (1, .int x1), (2, .int x2)] 4 [] (zk_fx (F_L_first_4 v_state v_history v_program ) n (x1, x2)) := by
    intro n x1 x2
    refine zk_loop (S := Int32 × Int32) (F := F_L_first_4 v_state v_history v_program) (wS := fun s => (gX9 E b0 (v_state, v_history, v_program, v_forecast))) (lS := fun s => [(0, .ref b0.1), (1, .int s.1), (2, .int s.2)]) (sS := fun _ => []) (fun k4 hk4 s => ?_) n (x1, x2)
    obtain ⟨x1, x2⟩ := s
    unfold F_L_first_4
    try dsimp only
    refine zk_iload_n dL_first_4 2 rfl 5 rfl ?_
    refine zk_aload_n dL_first_5 0 rfl 6 rfl ?_
    refine zk_iconst 1 dL_first_6 (by decide) 7 rfl ?_
    refine zk_callV (ci := 9) (st := [.int x2]) (c_X9_count E l b0 (v_state, v_history, v_program, v_forecast) 1) dL_first_7 1 gL_first_X9_count rfl rfl rfl cd_X9_count ⟨Nat.le_of_ble_eq_true rfl, Nat.le_of_ble_eq_true rfl⟩ ⟨Nat.zero_le _, Nat.zero_le _⟩ _ (fun r7 => (gX9 E b0 (v_state, v_history, v_program, v_forecast))) zk_pa (fun r7 => zk_qa) rfl rfl rfl rfl (Nat.le_of_ble_eq_true rfl) (fun r7 => [.int r7, .int x2]) (fun _ => rfl) 10 rfl (fun r7 => ?_)
    refine zk_icmp_ge dL_first_10 63 (by decide) 13 rfl (fun _ => ?_) (fun _ => ?_)
    · refine zk_iload_n dL_first_63 1 rfl 64 rfl ?_
      exact zk_iret hQ dL_first_64 rfl rfl
    · refine zk_aload_n dL_first_13 0 rfl 14 rfl ?_
      refine zk_iload_n dL_first_14 2 rfl 15 rfl ?_
      refine zk_iconst 0 dL_first_15 (by decide) 16 rfl ?_
      refine zk_callV (ci := 9) (st := []) (c_X9_promise E l b0 (v_state, v_history, v_program, v_forecast) x2 0) dL_first_16 2 gL_first_X9_promise rfl rfl rfl cd_X9_promise ⟨Nat.le_of_ble_eq_true rfl, Nat.le_of_ble_eq_true rfl⟩ ⟨Nat.zero_le _, Nat.zero_le _⟩ _ (fun r16 => (gX9 E b0 (v_state, v_history, v_program, v_forecast))) zk_pa (fun r16 => zk_qa) rfl rfl rfl rfl (Nat.le_of_ble_eq_true rfl) (fun r16 => [.int r16]) (fun _ => rfl) 19 rfl (fun r16 => ?_)
      refine zk_if_ne dL_first_19 45 (by decide) 22 rfl (fun _ => ?_) (fun _ => ?_)
      · refine zk_iload_n dL_first_22 1 rfl 23 rfl ?_
        refine zk_if_lt dL_first_23 41 (by decide) 26 rfl (fun _ => ?_) (fun _ => ?_)
        · exact J41  k4 hk4 x1 x2
        · refine zk_aload_n dL_first_26 0 rfl 27 rfl ?_
          refine zk_iload_n dL_first_27 2 rfl 28 rfl ?_
          refine zk_iconst 1 dL_first_28 (by decide) 29 rfl ?_
          refine zk_callV (ci := 9) (st := []) (c_X9_promise E l b0 (v_state, v_history, v_program, v_forecast) x2 1) dL_first_29 2 gL_first_X9_promise rfl rfl rfl cd_X9_promise ⟨Nat.le_of_ble_eq_true rfl, Nat.le_of_ble_eq_true rfl⟩ ⟨Nat.zero_le _, Nat.zero_le _⟩ _ (fun r29 => (gX9 E b0 (v_state, v_history, v_program, v_forecast))) zk_pa (fun r29 => zk_qa) rfl rfl rfl rfl (Nat.le_of_ble_eq_true rfl) (fun r29 => [.int r29]) (fun _ => rfl) 32 rfl (fun r29 => ?_)
          refine zk_aload_n dL_first_32 0 rfl 33 rfl ?_
          refine zk_iload_n dL_first_33 1 rfl 34 rfl ?_
          refine zk_iconst 1 dL_first_34 (by decide) 35 rfl ?_
          refine zk_callV (ci := 9) (st := [.int r29]) (c_X9_promise E l b0 (v_state, v_history, v_program, v_forecast) x1 1) dL_first_35 2 gL_first_X9_promise rfl rfl rfl cd_X9_promise ⟨Nat.le_of_ble_eq_true rfl, Nat.le_of_ble_eq_true rfl⟩ ⟨Nat.zero_le _, Nat.zero_le _⟩ _ (fun r35 => (gX9 E b0 (v_state, v_history, v_program, v_forecast))) zk_pa (fun r35 => zk_qa) rfl rfl rfl rfl (Nat.le_of_ble_eq_true rfl) (fun r35 => [.int r35, .int r29]) (fun _ => rfl) 38 rfl (fun r35 => ?_)
          refine zk_icmp_ge dL_first_38 45 (by decide) 41 rfl (fun _ => ?_) (fun _ => ?_)
          · exact J45  k4 hk4 x1 x2
          · exact J41  k4 hk4 x1 x2
      · exact J45  k4 hk4 x1 x2
  refine zk_eqv (w1 := (gX9 E b0 (v_state, v_history, v_program, v_forecast))) (lv1 := [(0, .ref b0.1)]) (st1 := []) (o1 := f_L_first v_state v_history v_program) rfl rfl rfl rfl ?_
  unfold f_L_first
  refine zk_iconst (-1) dL_first_0 (by decide) 1 rfl ?_
  refine zk_istore_n [(1, .int (-1)), (0, .ref b0.1)] dL_first_1 (by decide) rfl 2 rfl ?_
  refine zk_iconst 0 dL_first_2 (by decide) 3 rfl ?_
  refine zk_istore_n [(2, .int 0), (1, .int (-1)), (0, .ref b0.1)] dL_first_3 (by decide) rfl 4 rfl ?_
  refine zk_lv [2, 1, 0] rfl ?_
  exact J4    zk_N (-1) 0
def F_L_areAlike_42 (v_state : VX6) (u_state : VX6) (x2 : Int32) (k31 : Int32 → Option (Int32)) (k42 : Int32 → Option (Int32)) : Int32 → Option (Int32) := fun x3 => if 9 ≤ x3 then k31 (x2 + 1) else (f_X9_promise x2 x3 v_state).bind fun r51 => (f_X9_promise x2 x3 u_state).bind fun r57 => if r51 = r57 then k42 (x3 + 1) else some 0
def F_L_areAlike_31 (v_state : VX6) (v_history : VX2) (v_program : VX4) (u_state : VX6) (k31 : Int32 → Option (Int32)) : Int32 → Option (Int32) := fun x2 => (f_X9_count 1 v_state v_history v_program).bind fun r34 => if r34 ≤ x2 then some 1 else zk_fx (F_L_areAlike_42 v_state u_state x2 k31) zk_N 0
def F_L_areAlike_2 (v_state : VX6) (v_history : VX2) (v_program : VX4) (u_state : VX6) (u_history : VX2) (u_program : VX4) (k2 : Int32 → Option (Int32)) : Int32 → Option (Int32) := fun x2 => if 11 ≤ x2 then zk_fx (F_L_areAlike_31 v_state v_history v_program u_state ) zk_N 0 else (f_X9_count x2 v_state v_history v_program).bind fun r10 => (f_X9_count x2 u_state u_history u_program).bind fun r15 => if r10 = r15 then k2 (x2 + 1) else some 0
def f_L_areAlike (v_state : VX6) (v_history : VX2) (v_program : VX4) (u_state : VX6) (u_history : VX2) (u_program : VX4) : Option (Int32) := zk_fx (F_L_areAlike_2 v_state v_history v_program u_state u_history u_program ) zk_N 0
theorem cd_L_areAlike : yL_areAlike.cls ≠ "java/lang/invoke/MethodHandle" ∧ yL_areAlike.cls ≠ "java/lang/invoke/VarHandle" ∧ (parseMethodDescriptor yL_areAlike.desc).map (fun d => d.parameters.length) = some 2 := by decide +kernel
set_option maxRecDepth 100000 in
set_option maxHeartbeats 4000000 in
theorem c_L_areAlike (E : zk_Env) (l : Launch) (b0 : aX9) (u0 : VX9) (b1 : aX9) (u1 : VX9)  : zk_Mc E l yL_areAlike wsL_areAlike ({ frames := 5, cells := 0, slots := 0, locals := 109 } : Room) [.ref b0.1, .ref b1.1] (zk_j [gX9 E b0 u0, gX9 E b1 u1]) (f_L_areAlike u0.1 u0.2.1 u0.2.2.1 u1.1 u1.2.1 u1.2.2.1) (fun r => some (.int r)) (fun r => (zk_j [gX9 E b0 u0, gX9 E b1 u1])) := by
  obtain ⟨v_state, v_history, v_program, v_forecast⟩ := u0
  obtain ⟨u_state, u_history, u_program, u_forecast⟩ := u1
  refine zk_M (cc := cL_areAlike) (nL := 4) (ret := (some .boolean)) (by decide) rfl (Nat.le_of_ble_eq_true rfl) (fun X Q hQ => ?_)
  have J42 : ∀ (k31 : Int32 → Option (Int32)) (hk31 : ∀ s : Int32, zk_G E l X cL_areAlike 4 (some .boolean) yL_areAlike.cls wsL_areAlike ({ frames := 5, cells := 0, slots := 0, locals := 109 } : Room) 0 0 Q (zk_j [gX9 E b0 (v_state, v_history, v_program, v_forecast), gX9 E b1 (u_state, u_history, u_program, u_forecast)]) [(0, .ref b0.1), (1, .ref b1.1), (2, .int s)] 31 [] (k31 s)) (x2 : Int32) (n : Nat) (x3 : Int32), zk_G E l X cL_areAlike 4 (some .boolean) yL_areAlike.cls wsL_areAlike ({ frames := 5, cells := 0, slots := 0, locals := 109 } : Room) 0 0 Q (zk_j [gX9 E b0 (v_state, v_history, v_program, v_forecast), gX9 E b1 (u_state, u_history, u_program, u_forecast)]) [(0, .ref b0.1), (1, .ref b1.1), (2, .int x2), (3, .int x3)] 42 [] (zk_fx (F_L_areAlike_42 v_state u_state x2 k31) n x3) := by
    intro k31 hk31 x2 n x3
    refine zk_loop (S := Int32) (F := F_L_areAlike_42 v_state u_state x2 k31) (wS := fun s => (zk_j [gX9 E b0 (v_state, v_history, v_program, v_forecast), gX9 E b1 (u_state, u_history, u_program, u_forecast)])) (lS := fun s => [(0, .ref b0.1), (1, .ref b1.1), (2, .int x2), (3, .int s)]) (sS := fun _ => []) (fun k42 hk42 x3 => ?_) n x3
    unfold F_L_areAlike_42
    try dsimp only
    refine zk_iload_n dL_areAlike_42 3 rfl 43 rfl ?_
    refine zk_bipush 9 dL_areAlike_43 (by decide) 45 rfl ?_
    refine zk_icmp_ge dL_areAlike_45 71 (by decide) 48 rfl (fun _ => ?_) (fun _ => ?_)
    · refine zk_iinc (x2 + 1) [(2, .int (x2 + 1)), (0, .ref b0.1), (1, .ref b1.1), (3, .int x3)] dL_areAlike_71 2 rfl rfl (by decide) rfl 74 rfl ?_
      refine zk_goto dL_areAlike_74 31 (by decide) ?_
      refine zk_lv [1, 2, 0] rfl ?_
      exact hk31 (x2 + 1)
    · refine zk_aload_n dL_areAlike_48 0 rfl 49 rfl ?_
      refine zk_iload_n dL_areAlike_49 2 rfl 50 rfl ?_
      refine zk_iload_n dL_areAlike_50 3 rfl 51 rfl ?_
      refine zk_callV (ci := 9) (st := []) (c_X9_promise E l b0 (v_state, v_history, v_program, v_forecast) x2 x3) dL_areAlike_51 2 gL_areAlike_X9_promise rfl rfl rfl cd_X9_promise ⟨Nat.le_of_ble_eq_true rfl, Nat.le_of_ble_eq_true rfl⟩ ⟨Nat.zero_le _, Nat.zero_le _⟩ _ (fun r51 => (zk_j [gX9 E b0 (v_state, v_history, v_program, v_forecast), gX9 E b1 (u_state, u_history, u_program, u_forecast)])) (zk_p1 (gs := [gX9 E b0 (v_state, v_history, v_program, v_forecast), gX9 E b1 (u_state, u_history, u_program, u_forecast)]) (i := 0) rfl) (fun r51 => (zk_q1 (gs := [gX9 E b0 (v_state, v_history, v_program, v_forecast), gX9 E b1 (u_state, u_history, u_program, u_forecast)]) (i := 0) rfl rfl)) rfl rfl rfl rfl (Nat.le_of_ble_eq_true rfl) (fun r51 => [.int r51]) (fun _ => rfl) 54 rfl (fun r51 => ?_)
      refine zk_aload_n dL_areAlike_54 1 rfl 55 rfl ?_
      refine zk_iload_n dL_areAlike_55 2 rfl 56 rfl ?_
      refine zk_iload_n dL_areAlike_56 3 rfl 57 rfl ?_
      refine zk_callV (ci := 9) (st := [.int r51]) (c_X9_promise E l b1 (u_state, u_history, u_program, u_forecast) x2 x3) dL_areAlike_57 2 gL_areAlike_X9_promise rfl rfl rfl cd_X9_promise ⟨Nat.le_of_ble_eq_true rfl, Nat.le_of_ble_eq_true rfl⟩ ⟨Nat.zero_le _, Nat.zero_le _⟩ _ (fun r57 => (zk_j [gX9 E b0 (v_state, v_history, v_program, v_forecast), gX9 E b1 (u_state, u_history, u_program, u_forecast)])) (zk_p1 (gs := [gX9 E b0 (v_state, v_history, v_program, v_forecast), gX9 E b1 (u_state, u_history, u_program, u_forecast)]) (i := 1) rfl) (fun r57 => (zk_q1 (gs := [gX9 E b0 (v_state, v_history, v_program, v_forecast), gX9 E b1 (u_state, u_history, u_program, u_forecast)]) (i := 1) rfl rfl)) rfl rfl rfl rfl (Nat.le_of_ble_eq_true rfl) (fun r57 => [.int r57, .int r51]) (fun _ => rfl) 60 rfl (fun r57 => ?_)
      refine zk_icmp_eq dL_areAlike_60 65 (by decide) 63 rfl (fun _ => ?_) (fun _ => ?_)
      · refine zk_iinc (x3 + 1) [(3, .int (x3 + 1)), (0, .ref b0.1), (1, .ref b1.1), (2, .int x2)] dL_areAlike_65 3 rfl rfl (by decide) rfl 68 rfl ?_
        refine zk_goto dL_areAlike_68 42 (by decide) ?_
        refine zk_lv [1, 2, 3, 0] rfl ?_
        exact hk42 (x3 + 1)
      · refine zk_iconst 0 dL_areAlike_63 (by decide) 64 rfl ?_
        exact zk_zretL hQ dL_areAlike_64 (Or.inl rfl) rfl rfl
  have J31 : ∀ (n : Nat) (x2 : Int32), zk_G E l X cL_areAlike 4 (some .boolean) yL_areAlike.cls wsL_areAlike ({ frames := 5, cells := 0, slots := 0, locals := 109 } : Room) 0 0 Q (zk_j [gX9 E b0 (v_state, v_history, v_program, v_forecast), gX9 E b1 (u_state, u_history, u_program, u_forecast)]) [(0, .ref b0.1), (1, .ref b1.1), (2, .int x2)] 31 [] (zk_fx (F_L_areAlike_31 v_state v_history v_program u_state ) n x2) := by
    intro n x2
    refine zk_loop (S := Int32) (F := F_L_areAlike_31 v_state v_history v_program u_state) (wS := fun s => (zk_j [gX9 E b0 (v_state, v_history, v_program, v_forecast), gX9 E b1 (u_state, u_history, u_program, u_forecast)])) (lS := fun s => [(0, .ref b0.1), (1, .ref b1.1), (2, .int s)]) (sS := fun _ => []) (fun k31 hk31 x2 => ?_) n x2
    unfold F_L_areAlike_31
    try dsimp only
    refine zk_iload_n dL_areAlike_31 2 rfl 32 rfl ?_
    refine zk_aload_n dL_areAlike_32 0 rfl 33 rfl ?_
    refine zk_iconst 1 dL_areAlike_33 (by decide) 34 rfl ?_
    refine zk_callV (ci := 9) (st := [.int x2]) (c_X9_count E l b0 (v_state, v_history, v_program, v_forecast) 1) dL_areAlike_34 1 gL_areAlike_X9_count rfl rfl rfl cd_X9_count ⟨Nat.le_of_ble_eq_true rfl, Nat.le_of_ble_eq_true rfl⟩ ⟨Nat.zero_le _, Nat.zero_le _⟩ _ (fun r34 => (zk_j [gX9 E b0 (v_state, v_history, v_program, v_forecast), gX9 E b1 (u_state, u_history, u_program, u_forecast)])) (zk_p1 (gs := [gX9 E b0 (v_state, v_history, v_program, v_forecast), gX9 E b1 (u_state, u_history, u_program, u_forecast)]) (i := 0) rfl) (fun r34 => (zk_q1 (gs := [gX9 E b0 (v_state, v_history, v_program, v_forecast), gX9 E b1 (u_state, u_history, u_program, u_forecast)]) (i := 0) rfl rfl)) rfl rfl rfl rfl (Nat.le_of_ble_eq_true rfl) (fun r34 => [.int r34, .int x2]) (fun _ => rfl) 37 rfl (fun r34 => ?_)
    refine zk_icmp_ge dL_areAlike_37 77 (by decide) 40 rfl (fun _ => ?_) (fun _ => ?_)
    · refine zk_iconst 1 dL_areAlike_77 (by decide) 78 rfl ?_
      exact zk_zretL hQ dL_areAlike_78 (Or.inr rfl) rfl rfl
    · refine zk_iconst 0 dL_areAlike_40 (by decide) 41 rfl ?_
      refine zk_istore_n [(3, .int 0), (0, .ref b0.1), (1, .ref b1.1), (2, .int x2)] dL_areAlike_41 (by decide) rfl 42 rfl ?_
      refine zk_lv [1, 2, 3, 0] rfl ?_
      exact J42  k31 hk31 x2 zk_N 0
  have J2 : ∀ (n : Nat) (x2 : Int32), zk_G E l X cL_areAlike 4 (some .boolean) yL_areAlike.cls wsL_areAlike ({ frames := 5, cells := 0, slots := 0, locals := 109 } : Room) 0 0 Q (zk_j [gX9 E b0 (v_state, v_history, v_program, v_forecast), gX9 E b1 (u_state, u_history, u_program, u_forecast)]) [(0, .ref b0.1), (1, .ref b1.1), (2, .int x2)] 2 [] (zk_fx (F_L_areAlike_2 v_state v_history v_program u_state u_history u_program ) n x2) := by
    intro n x2
    refine zk_loop (S := Int32) (F := F_L_areAlike_2 v_state v_history v_program u_state u_history u_program) (wS := fun s => (zk_j [gX9 E b0 (v_state, v_history, v_program, v_forecast), gX9 E b1 (u_state, u_history, u_program, u_forecast)])) (lS := fun s => [(0, .ref b0.1), (1, .ref b1.1), (2, .int s)]) (sS := fun _ => []) (fun k2 hk2 x2 => ?_) n x2
    unfold F_L_areAlike_2
    try dsimp only
    refine zk_iload_n dL_areAlike_2 2 rfl 3 rfl ?_
    refine zk_bipush 11 dL_areAlike_3 (by decide) 5 rfl ?_
    refine zk_icmp_ge dL_areAlike_5 29 (by decide) 8 rfl (fun _ => ?_) (fun _ => ?_)
    · refine zk_iconst 0 dL_areAlike_29 (by decide) 30 rfl ?_
      refine zk_istore_n [(2, .int 0), (0, .ref b0.1), (1, .ref b1.1)] dL_areAlike_30 (by decide) rfl 31 rfl ?_
      refine zk_lv [1, 2, 0] rfl ?_
      exact J31    zk_N 0
    · refine zk_aload_n dL_areAlike_8 0 rfl 9 rfl ?_
      refine zk_iload_n dL_areAlike_9 2 rfl 10 rfl ?_
      refine zk_callV (ci := 9) (st := []) (c_X9_count E l b0 (v_state, v_history, v_program, v_forecast) x2) dL_areAlike_10 1 gL_areAlike_X9_count rfl rfl rfl cd_X9_count ⟨Nat.le_of_ble_eq_true rfl, Nat.le_of_ble_eq_true rfl⟩ ⟨Nat.zero_le _, Nat.zero_le _⟩ _ (fun r10 => (zk_j [gX9 E b0 (v_state, v_history, v_program, v_forecast), gX9 E b1 (u_state, u_history, u_program, u_forecast)])) (zk_p1 (gs := [gX9 E b0 (v_state, v_history, v_program, v_forecast), gX9 E b1 (u_state, u_history, u_program, u_forecast)]) (i := 0) rfl) (fun r10 => (zk_q1 (gs := [gX9 E b0 (v_state, v_history, v_program, v_forecast), gX9 E b1 (u_state, u_history, u_program, u_forecast)]) (i := 0) rfl rfl)) rfl rfl rfl rfl (Nat.le_of_ble_eq_true rfl) (fun r10 => [.int r10]) (fun _ => rfl) 13 rfl (fun r10 => ?_)
      refine zk_aload_n dL_areAlike_13 1 rfl 14 rfl ?_
      refine zk_iload_n dL_areAlike_14 2 rfl 15 rfl ?_
      refine zk_callV (ci := 9) (st := [.int r10]) (c_X9_count E l b1 (u_state, u_history, u_program, u_forecast) x2) dL_areAlike_15 1 gL_areAlike_X9_count rfl rfl rfl cd_X9_count ⟨Nat.le_of_ble_eq_true rfl, Nat.le_of_ble_eq_true rfl⟩ ⟨Nat.zero_le _, Nat.zero_le _⟩ _ (fun r15 => (zk_j [gX9 E b0 (v_state, v_history, v_program, v_forecast), gX9 E b1 (u_state, u_history, u_program, u_forecast)])) (zk_p1 (gs := [gX9 E b0 (v_state, v_history, v_program, v_forecast), gX9 E b1 (u_state, u_history, u_program, u_forecast)]) (i := 1) rfl) (fun r15 => (zk_q1 (gs := [gX9 E b0 (v_state, v_history, v_program, v_forecast), gX9 E b1 (u_state, u_history, u_program, u_forecast)]) (i := 1) rfl rfl)) rfl rfl rfl rfl (Nat.le_of_ble_eq_true rfl) (fun r15 => [.int r15, .int r10]) (fun _ => rfl) 18 rfl (fun r15 => ?_)
      refine zk_icmp_eq dL_areAlike_18 23 (by decide) 21 rfl (fun _ => ?_) (fun _ => ?_)
      · refine zk_iinc (x2 + 1) [(2, .int (x2 + 1)), (0, .ref b0.1), (1, .ref b1.1)] dL_areAlike_23 2 rfl rfl (by decide) rfl 26 rfl ?_
        refine zk_goto dL_areAlike_26 2 (by decide) ?_
        refine zk_lv [1, 2, 0] rfl ?_
        exact hk2 (x2 + 1)
      · refine zk_iconst 0 dL_areAlike_21 (by decide) 22 rfl ?_
        exact zk_zretL hQ dL_areAlike_22 (Or.inl rfl) rfl rfl
  refine zk_eqv (w1 := (zk_j [gX9 E b0 (v_state, v_history, v_program, v_forecast), gX9 E b1 (u_state, u_history, u_program, u_forecast)])) (lv1 := [(0, .ref b0.1), (1, .ref b1.1)]) (st1 := []) (o1 := f_L_areAlike v_state v_history v_program u_state u_history u_program) rfl rfl rfl rfl ?_
  unfold f_L_areAlike
  refine zk_iconst 0 dL_areAlike_0 (by decide) 1 rfl ?_
  refine zk_istore_n [(2, .int 0), (0, .ref b0.1), (1, .ref b1.1)] dL_areAlike_1 (by decide) rfl 2 rfl ?_
  refine zk_lv [1, 2, 0] rfl ?_
  exact J2    zk_N 0
def f_L_areNext_31 (v_state : VX6) (s31_0 : Int32) (x2 : Int32) : Option (Int32) := (f_X9_next 0 0 v_state).bind fun r35 => if r35 = s31_0 then (f_X9_next 1 0 v_state).bind fun r45 => if r45 = s31_0 then (f_X9_next 0 1 v_state).bind fun r55 => if r55 = x2 then (f_X9_next 1 1 v_state).bind fun r65 => if r65 = x2 then some 1 else some 0 else some 0 else some 0 else some 0
def f_L_areNext_20 (v_state : VX6) (s20_0 : Int32) (x1 : Int32) : Option (Int32) := if 0 ≤ x1 then f_L_areNext_31 v_state x1 s20_0 else f_L_areNext_31 v_state (-9) s20_0
def f_L_areNext (v_state : VX6) (v_history : VX2) (v_program : VX4) : Option (Int32) := (f_L_first v_state v_history v_program).bind fun r1 => if 0 ≤ r1 then (f_X9_promise r1 1 v_state).bind fun r17 => f_L_areNext_20 v_state r17 r1 else f_L_areNext_20 v_state (-9) r1
theorem cd_L_areNext : yL_areNext.cls ≠ "java/lang/invoke/MethodHandle" ∧ yL_areNext.cls ≠ "java/lang/invoke/VarHandle" ∧ (parseMethodDescriptor yL_areNext.desc).map (fun d => d.parameters.length) = some 1 := by decide +kernel
set_option maxRecDepth 100000 in
set_option maxHeartbeats 4000000 in
theorem c_L_areNext (E : zk_Env) (l : Launch) (b0 : aX9) (u0 : VX9)  : zk_Mc E l yL_areNext wsL_areNext ({ frames := 6, cells := 0, slots := 0, locals := 141 } : Room) [.ref b0.1] (gX9 E b0 u0) (f_L_areNext u0.1 u0.2.1 u0.2.2.1) (fun r => some (.int r)) (fun r => (gX9 E b0 u0)) := by
  obtain ⟨v_state, v_history, v_program, v_forecast⟩ := u0
  refine zk_M (cc := cL_areNext) (nL := 4) (ret := (some .boolean)) (by decide) rfl (Nat.le_of_ble_eq_true rfl) (fun X Q hQ => ?_)
  have J31 : ∀ (s31_0 : Int32) (x2 : Int32), zk_G E l X cL_areNext 4 (some .boolean) yL_areNext.cls wsL_areNext ({ frames := 6, cells := 0, slots := 0, locals := 141 } : Room) 0 0 Q (gX9 E b0 (v_state, v_history, v_program, v_forecast)) [(0, .ref b0.1), (2, .int x2)] 31 [.int s31_0] (f_L_areNext_31 v_state s31_0 x2) := by
    intro s31_0 x2
    unfold f_L_areNext_31
    refine zk_istore_n [(3, .int s31_0), (0, .ref b0.1), (2, .int x2)] dL_areNext_31 (by decide) rfl 32 rfl ?_
    refine zk_aload_n dL_areNext_32 1 rfl 33 rfl ?_
    refine zk_iconst 0 dL_areNext_33 (by decide) 34 rfl ?_
    refine zk_iconst 0 dL_areNext_34 (by decide) 35 rfl ?_
    refine zk_callV (ci := 9) (st := []) (c_X9_next E l b0 (v_state, v_history, v_program, v_forecast) 0 0) dL_areNext_35 2 gL_areNext_X9_next rfl rfl rfl cd_X9_next ⟨Nat.le_of_ble_eq_true rfl, Nat.le_of_ble_eq_true rfl⟩ ⟨Nat.zero_le _, Nat.zero_le _⟩ _ (fun r35 => (gX9 E b0 (v_state, v_history, v_program, v_forecast))) zk_pa (fun r35 => zk_qa) rfl rfl rfl rfl (Nat.le_of_ble_eq_true rfl) (fun r35 => [.int r35]) (fun _ => rfl) 38 rfl (fun r35 => ?_)
    refine zk_iload_n dL_areNext_38 0 rfl 39 rfl ?_
    refine zk_icmp_ne dL_areNext_39 76 (by decide) 42 rfl (fun _ => ?_) (fun _ => ?_)
    · refine zk_aload_n dL_areNext_42 1 rfl 43 rfl ?_
      refine zk_iconst 1 dL_areNext_43 (by decide) 44 rfl ?_
      refine zk_iconst 0 dL_areNext_44 (by decide) 45 rfl ?_
      refine zk_callV (ci := 9) (st := []) (c_X9_next E l b0 (v_state, v_history, v_program, v_forecast) 1 0) dL_areNext_45 2 gL_areNext_X9_next rfl rfl rfl cd_X9_next ⟨Nat.le_of_ble_eq_true rfl, Nat.le_of_ble_eq_true rfl⟩ ⟨Nat.zero_le _, Nat.zero_le _⟩ _ (fun r45 => (gX9 E b0 (v_state, v_history, v_program, v_forecast))) zk_pa (fun r45 => zk_qa) rfl rfl rfl rfl (Nat.le_of_ble_eq_true rfl) (fun r45 => [.int r45]) (fun _ => rfl) 48 rfl (fun r45 => ?_)
      refine zk_iload_n dL_areNext_48 0 rfl 49 rfl ?_
      refine zk_icmp_ne dL_areNext_49 76 (by decide) 52 rfl (fun _ => ?_) (fun _ => ?_)
      · refine zk_aload_n dL_areNext_52 1 rfl 53 rfl ?_
        refine zk_iconst 0 dL_areNext_53 (by decide) 54 rfl ?_
        refine zk_iconst 1 dL_areNext_54 (by decide) 55 rfl ?_
        refine zk_callV (ci := 9) (st := []) (c_X9_next E l b0 (v_state, v_history, v_program, v_forecast) 0 1) dL_areNext_55 2 gL_areNext_X9_next rfl rfl rfl cd_X9_next ⟨Nat.le_of_ble_eq_true rfl, Nat.le_of_ble_eq_true rfl⟩ ⟨Nat.zero_le _, Nat.zero_le _⟩ _ (fun r55 => (gX9 E b0 (v_state, v_history, v_program, v_forecast))) zk_pa (fun r55 => zk_qa) rfl rfl rfl rfl (Nat.le_of_ble_eq_true rfl) (fun r55 => [.int r55]) (fun _ => rfl) 58 rfl (fun r55 => ?_)
        refine zk_iload_n dL_areNext_58 2 rfl 59 rfl ?_
        refine zk_icmp_ne dL_areNext_59 76 (by decide) 62 rfl (fun _ => ?_) (fun _ => ?_)
        · refine zk_aload_n dL_areNext_62 1 rfl 63 rfl ?_
          refine zk_iconst 1 dL_areNext_63 (by decide) 64 rfl ?_
          refine zk_iconst 1 dL_areNext_64 (by decide) 65 rfl ?_
          refine zk_callV (ci := 9) (st := []) (c_X9_next E l b0 (v_state, v_history, v_program, v_forecast) 1 1) dL_areNext_65 2 gL_areNext_X9_next rfl rfl rfl cd_X9_next ⟨Nat.le_of_ble_eq_true rfl, Nat.le_of_ble_eq_true rfl⟩ ⟨Nat.zero_le _, Nat.zero_le _⟩ _ (fun r65 => (gX9 E b0 (v_state, v_history, v_program, v_forecast))) zk_pa (fun r65 => zk_qa) rfl rfl rfl rfl (Nat.le_of_ble_eq_true rfl) (fun r65 => [.int r65]) (fun _ => rfl) 68 rfl (fun r65 => ?_)
          refine zk_iload_n dL_areNext_68 2 rfl 69 rfl ?_
          refine zk_icmp_ne dL_areNext_69 76 (by decide) 72 rfl (fun _ => ?_) (fun _ => ?_)
          · refine zk_iconst 1 dL_areNext_72 (by decide) 73 rfl ?_
            refine zk_goto dL_areNext_73 77 (by decide) ?_
            exact zk_zretL hQ dL_areNext_77 (Or.inr rfl) rfl rfl
          · refine zk_iconst 0 dL_areNext_76 (by decide) 77 rfl ?_
            exact zk_zretL hQ dL_areNext_77 (Or.inl rfl) rfl rfl
        · refine zk_iconst 0 dL_areNext_76 (by decide) 77 rfl ?_
          exact zk_zretL hQ dL_areNext_77 (Or.inl rfl) rfl rfl
      · refine zk_iconst 0 dL_areNext_76 (by decide) 77 rfl ?_
        exact zk_zretL hQ dL_areNext_77 (Or.inl rfl) rfl rfl
    · refine zk_iconst 0 dL_areNext_76 (by decide) 77 rfl ?_
      exact zk_zretL hQ dL_areNext_77 (Or.inl rfl) rfl rfl
  have J20 : ∀ (s20_0 : Int32) (x1 : Int32), zk_G E l X cL_areNext 4 (some .boolean) yL_areNext.cls wsL_areNext ({ frames := 6, cells := 0, slots := 0, locals := 141 } : Room) 0 0 Q (gX9 E b0 (v_state, v_history, v_program, v_forecast)) [(0, .ref b0.1), (1, .int x1)] 20 [.int s20_0] (f_L_areNext_20 v_state s20_0 x1) := by
    intro s20_0 x1
    unfold f_L_areNext_20
    refine zk_istore_n [(2, .int s20_0), (0, .ref b0.1), (1, .int x1)] dL_areNext_20 (by decide) rfl 21 rfl ?_
    refine zk_iload_n dL_areNext_21 2 rfl 22 rfl ?_
    refine zk_if_ge dL_areNext_22 30 (by decide) 25 rfl (fun _ => ?_) (fun _ => ?_)
    · refine zk_iload_n dL_areNext_30 2 rfl 31 rfl ?_
      refine zk_lv [1, 0] rfl ?_
      exact J31   x1 s20_0
    · refine zk_bipush (-9) dL_areNext_25 (by decide) 27 rfl ?_
      refine zk_goto dL_areNext_27 31 (by decide) ?_
      refine zk_lv [1, 0] rfl ?_
      exact J31   (-9) s20_0
  refine zk_eqv (w1 := (gX9 E b0 (v_state, v_history, v_program, v_forecast))) (lv1 := [(0, .ref b0.1)]) (st1 := []) (o1 := f_L_areNext v_state v_history v_program) rfl rfl rfl rfl ?_
  unfold f_L_areNext
  refine zk_aload_n dL_areNext_0 0 rfl 1 rfl ?_
  refine zk_callS (st := []) (c_L_first E l b0 (v_state, v_history, v_program, v_forecast)) dL_areNext_1 1 gL_areNext_L_first rfl rfl rfl cd_L_first ⟨Nat.le_of_ble_eq_true rfl, Nat.le_of_ble_eq_true rfl⟩ ⟨Nat.zero_le _, Nat.zero_le _⟩ _ (fun r1 => (gX9 E b0 (v_state, v_history, v_program, v_forecast))) zk_pa (fun r1 => zk_qa) rfl rfl (Nat.le_of_ble_eq_true rfl) (fun r1 => [.int r1]) (fun _ => rfl) 4 rfl (fun r1 => ?_)
  refine zk_istore_n [(1, .int r1), (0, .ref b0.1)] dL_areNext_4 (by decide) rfl 5 rfl ?_
  refine zk_iload_n dL_areNext_5 0 rfl 6 rfl ?_
  refine zk_if_ge dL_areNext_6 14 (by decide) 9 rfl (fun _ => ?_) (fun _ => ?_)
  · refine zk_aload_n dL_areNext_14 1 rfl 15 rfl ?_
    refine zk_iload_n dL_areNext_15 0 rfl 16 rfl ?_
    refine zk_iconst 1 dL_areNext_16 (by decide) 17 rfl ?_
    refine zk_callV (ci := 9) (st := []) (c_X9_promise E l b0 (v_state, v_history, v_program, v_forecast) r1 1) dL_areNext_17 2 gL_areNext_X9_promise rfl rfl rfl cd_X9_promise ⟨Nat.le_of_ble_eq_true rfl, Nat.le_of_ble_eq_true rfl⟩ ⟨Nat.zero_le _, Nat.zero_le _⟩ _ (fun r17 => (gX9 E b0 (v_state, v_history, v_program, v_forecast))) zk_pa (fun r17 => zk_qa) rfl rfl rfl rfl (Nat.le_of_ble_eq_true rfl) (fun r17 => [.int r17]) (fun _ => rfl) 20 rfl (fun r17 => ?_)
    refine zk_lv [1, 0] rfl ?_
    exact J20   r17 r1
  · refine zk_bipush (-9) dL_areNext_9 (by decide) 11 rfl ?_
    refine zk_goto dL_areNext_11 20 (by decide) ?_
    refine zk_lv [1, 0] rfl ?_
    exact J20   (-9) r1
def f_L_change_214 (v_program : VX4) (s214_0 : Int32) (x5 : Int32) (x7 : Int32) (x8 : Int32) (v_state : VX6) (v_history : VX2) (u_state : VX6) (u_history : VX2) : Option (Int32 × VX6 × VX2 × VX6 × VX2) := if s214_0 = 0 then some (0, v_state, v_history, u_state, u_history) else if x8 < 0 then some (1, v_state, v_history, u_state, u_history) else (f_X9_promise x8 0 v_state).bind fun r230 => if r230 = 0 then (f_X9_promise x8 1 v_state).bind fun r240 => (f_X9_count 0 v_state v_history v_program).bind fun r245 => if r240 = (r245 + x5) then (f_X9_promise x8 3 v_state).bind fun r258 => if r258 = x7 then some (1, v_state, v_history, u_state, u_history) else some (0, v_state, v_history, u_state, u_history) else some (0, v_state, v_history, u_state, u_history) else some (0, v_state, v_history, u_state, u_history)
def f_L_change_213 (v_program : VX4) (x5 : Int32) (x7 : Int32) (x8 : Int32) (v_state : VX6) (v_history : VX2) (u_state : VX6) (u_history : VX2) : Option (Int32 × VX6 × VX2 × VX6 × VX2) := f_L_change_214 v_program 0 x5 x7 x8 v_state v_history u_state u_history
def f_L_change_191 (v_program : VX4) (s191_0 : Int32) (s191_1 : Int32) (x5 : Int32) (x6 : Int32) (x7 : Int32) (x8 : Int32) (v_state : VX6) (v_history : VX2) (u_state : VX6) (u_history : VX2) : Option (Int32 × VX6 × VX2 × VX6 × VX2) := if s191_0 = s191_1 then (f_X9_give x5 x6 x7 u_state u_history).bind fun r201 => if r201.1 = x8 then f_L_change_214 v_program 1 x5 x7 x8 v_state v_history r201.2.1 r201.2.2 else f_L_change_213 v_program x5 x7 x8 v_state v_history r201.2.1 r201.2.2 else f_L_change_213 v_program x5 x7 x8 v_state v_history u_state u_history
def f_L_change_163 (v_program : VX4) (s163_0 : Int32) (x3 : Int32) (x5 : Int32) (x6 : Int32) (v_state : VX6) (v_history : VX2) (u_state : VX6) (u_history : VX2) : Option (Int32 × VX6 × VX2 × VX6 × VX2) := (f_X9_give x5 x6 s163_0 v_state v_history).bind fun r172 => if 40 ≤ x3 then f_L_change_191 v_program r172.1 (-3) x5 x6 s163_0 r172.1 r172.2.1 r172.2.2 u_state u_history else f_L_change_191 v_program r172.1 x3 x5 x6 s163_0 r172.1 r172.2.1 r172.2.2 u_state u_history
def f_L_change_143 (x2 : Int32) (v_program : VX4) (s143_0 : Int32) (x3 : Int32) (x5 : Int32) (v_state : VX6) (v_history : VX2) (u_state : VX6) (u_history : VX2) : Option (Int32 × VX6 × VX2 × VX6 × VX2) := if s143_0 = 0 then f_L_change_163 v_program 0 x3 x5 s143_0 v_state v_history u_state u_history else (f_L_low (x2 >>> (23 &&& 31)) 9).bind fun r160 => f_L_change_163 v_program r160 x3 x5 s143_0 v_state v_history u_state u_history
def f_L_change_139 (x2 : Int32) (v_program : VX4) (s139_0 : Int32) (s139_1 : Int32) (s139_2 : Int32) (x3 : Int32) (x5 : Int32) (v_state : VX6) (v_history : VX2) (u_state : VX6) (u_history : VX2) : Option (Int32 × VX6 × VX2 × VX6 × VX2) := (f_L_low s139_1 s139_2).bind fun r139 => f_L_change_143 x2 v_program (s139_0 + r139) x3 x5 v_state v_history u_state u_history
def f_L_change_335 (s335_0 : Int32) (s335_1 : Int32) (x4 : Int32) (x8 : Int32) (v_state : VX6) (v_history : VX2) (u_state : VX6) (u_history : VX2) : Option (Int32 × VX6 × VX2 × VX6 × VX2) := if s335_0 = s335_1 then (f_X9_breakOff x4 u_state u_history).bind fun r341 => if r341.1 = x8 then some (1, v_state, v_history, r341.2.1, r341.2.2) else some (0, v_state, v_history, r341.2.1, r341.2.2) else some (0, v_state, v_history, u_state, u_history)
def f_L_change_290 (v_program : VX4) (s290_0 : Int32) (x4 : Int32) (v_state : VX6) (v_history : VX2) (u_state : VX6) (u_history : VX2) : Option (Int32 × VX6 × VX2 × VX6 × VX2) := (f_X9_count 4 v_state v_history v_program).bind fun r294 => (f_X9_breakOff x4 v_state v_history).bind fun r302 => if s290_0 = 9 then f_L_change_335 r302.1 (-1) x4 r302.1 r302.2.1 r302.2.2 u_state u_history else if 2 ≤ s290_0 then f_L_change_335 r302.1 (-2) x4 r302.1 r302.2.1 r302.2.2 u_state u_history else f_L_change_335 r302.1 (r294 + 1) x4 r302.1 r302.2.1 r302.2.2 u_state u_history
def f_L_change_428 (s428_0 : Int32) (s428_1 : Int32) (x4 : Int32) (x5 : Int32) (x8 : Int32) (v_state : VX6) (v_history : VX2) (u_state : VX6) (u_history : VX2) : Option (Int32 × VX6 × VX2 × VX6 × VX2) := if s428_0 = s428_1 then (f_X9_move x4 x5 u_state u_history).bind fun r436 => if r436.1 = x8 then some (1, v_state, v_history, r436.2.1, r436.2.2) else some (0, v_state, v_history, r436.2.1, r436.2.2) else some (0, v_state, v_history, u_state, u_history)
def f_L_change_391 (s391_0 : Int32) (x4 : Int32) (x5 : Int32) (x6 : Int32) (v_state : VX6) (v_history : VX2) (u_state : VX6) (u_history : VX2) : Option (Int32 × VX6 × VX2 × VX6 × VX2) := (f_X9_move x4 x5 v_state v_history).bind fun r398 => if x6 = 9 then f_L_change_428 r398.1 (-1) x4 x5 r398.1 r398.2.1 r398.2.2 u_state u_history else if x6 = 0 then f_L_change_428 r398.1 s391_0 x4 x5 r398.1 r398.2.1 r398.2.2 u_state u_history else f_L_change_428 r398.1 (-2) x4 x5 r398.1 r398.2.1 r398.2.2 u_state u_history
def f_L_change_373 (s373_0 : Int32) (x4 : Int32) (x5 : Int32) (v_state : VX6) (v_history : VX2) (u_state : VX6) (u_history : VX2) : Option (Int32 × VX6 × VX2 × VX6 × VX2) := if s373_0 = 0 then (f_X9_promise x4 1 v_state).bind fun r384 => f_L_change_391 r384 x4 x5 s373_0 v_state v_history u_state u_history else f_L_change_391 0 x4 x5 s373_0 v_state v_history u_state u_history
def f_L_change_550 (v_program : VX4) (s550_0 : Int32) (x6 : Int32) (v_state : VX6) (v_history : VX2) (u_state : VX6) (u_history : VX2) : Option (Int32 × VX6 × VX2 × VX6 × VX2) := (f_X9_count (14 + x6) v_state v_history v_program).bind fun r558 => (f_X9_set x6 s550_0 v_state v_history).bind fun r568 => if r568.1 = r558 then (f_X9_set x6 s550_0 u_state u_history).bind fun r581 => if r581.1 = r558 then some (1, r568.2.1, r568.2.2, r581.2.1, r581.2.2) else some (0, r568.2.1, r568.2.2, r581.2.1, r581.2.2) else some (0, r568.2.1, r568.2.2, u_state, u_history)
def f_L_change_41 (x2 : Int32) (v_program : VX4) (s41_0 : Int32) (s41_1 : Int32) (s41_2 : Int32) (x3 : Int32) (x4 : Int32) (v_state : VX6) (v_history : VX2) (u_state : VX6) (u_history : VX2) : Option (Int32 × VX6 × VX2 × VX6 × VX2) := (f_L_low s41_1 s41_2).bind fun r41 => zk_let (s41_0 + r41) fun x5_1 => (f_L_low x2 9).bind fun r50 => if r50 = 0 then (f_L_low (x2 >>> (18 &&& 31)) 3).bind fun r105 => if r105 = 0 then f_L_change_143 x2 v_program 0 x3 x5_1 v_state v_history u_state u_history else (f_L_low (x2 >>> (21 &&& 31)) 2).bind fun r125 => if r125 = 0 then f_L_change_139 x2 v_program 1 (x2 >>> (13 &&& 31)) 9 x3 x5_1 v_state v_history u_state u_history else f_L_change_139 x2 v_program 1 (x2 >>> (13 &&& 31)) 200 x3 x5_1 v_state v_history u_state u_history else if r50 = 1 then (f_L_low (x2 >>> (18 &&& 31)) 3).bind fun r105 => if r105 = 0 then f_L_change_143 x2 v_program 0 x3 x5_1 v_state v_history u_state u_history else (f_L_low (x2 >>> (21 &&& 31)) 2).bind fun r125 => if r125 = 0 then f_L_change_139 x2 v_program 1 (x2 >>> (13 &&& 31)) 9 x3 x5_1 v_state v_history u_state u_history else f_L_change_139 x2 v_program 1 (x2 >>> (13 &&& 31)) 200 x3 x5_1 v_state v_history u_state u_history else if r50 = 2 then (f_L_low (x2 >>> (18 &&& 31)) 3).bind fun r105 => if r105 = 0 then f_L_change_143 x2 v_program 0 x3 x5_1 v_state v_history u_state u_history else (f_L_low (x2 >>> (21 &&& 31)) 2).bind fun r125 => if r125 = 0 then f_L_change_139 x2 v_program 1 (x2 >>> (13 &&& 31)) 9 x3 x5_1 v_state v_history u_state u_history else f_L_change_139 x2 v_program 1 (x2 >>> (13 &&& 31)) 200 x3 x5_1 v_state v_history u_state u_history else if r50 = 3 then (f_L_low (x2 >>> (18 &&& 31)) 3).bind fun r105 => if r105 = 0 then f_L_change_143 x2 v_program 0 x3 x5_1 v_state v_history u_state u_history else (f_L_low (x2 >>> (21 &&& 31)) 2).bind fun r125 => if r125 = 0 then f_L_change_139 x2 v_program 1 (x2 >>> (13 &&& 31)) 9 x3 x5_1 v_state v_history u_state u_history else f_L_change_139 x2 v_program 1 (x2 >>> (13 &&& 31)) 200 x3 x5_1 v_state v_history u_state u_history else if r50 = 4 then if x3 ≤ x4 then f_L_change_290 v_program 9 x4 v_state v_history u_state u_history else (f_X9_promise x4 0 v_state).bind fun r282 => f_L_change_290 v_program r282 x4 v_state v_history u_state u_history else if r50 = 5 then if x3 ≤ x4 then f_L_change_373 9 x4 x5_1 v_state v_history u_state u_history else (f_X9_promise x4 0 v_state).bind fun r365 => f_L_change_373 r365 x4 x5_1 v_state v_history u_state u_history else if r50 = 6 then (f_X9_count 14 v_state v_history v_program).bind fun r453 => (f_L_low (x2 >>> (8 &&& 31)) 12).bind fun r465 => zk_let (1 + r465) fun x7_2 => (f_X9_set 0 x7_2 v_state v_history).bind fun r475 => if r475.1 = r453 then (f_X9_set 0 x7_2 u_state u_history).bind fun r487 => if r487.1 = r453 then (f_X9_count 14 r475.2.1 r475.2.2 v_program).bind fun r498 => if r498 = x7_2 then some (1, r475.2.1, r475.2.2, r487.2.1, r487.2.2) else some (0, r475.2.1, r475.2.2, r487.2.1, r487.2.2) else some (0, r475.2.1, r475.2.2, r487.2.1, r487.2.2) else some (0, r475.2.1, r475.2.2, u_state, u_history) else if r50 = 7 then (f_L_low (x2 >>> (6 &&& 31)) 2).bind fun r518 => zk_let (1 + r518) fun x6_3 => if x6_3 = 1 then (f_L_low (x2 >>> (8 &&& 31)) 41).bind fun r536 => f_L_change_550 v_program r536 x6_3 v_state v_history u_state u_history else (f_L_low (x2 >>> (8 &&& 31)) 2).bind fun r547 => f_L_change_550 v_program r547 x6_3 v_state v_history u_state u_history else (f_X9_count 4 v_state v_history v_program).bind fun r597 => (f_X9_sweep v_state v_history).bind fun r603 => if r603.1 = r597 then (f_X9_sweep u_state u_history).bind fun r612 => if r612.1 = r597 then (f_X9_count 4 r603.2.1 r603.2.2 v_program).bind fun r622 => if r622 = 0 then some (1, r603.2.1, r603.2.2, r612.2.1, r612.2.2) else some (0, r603.2.1, r603.2.2, r612.2.1, r612.2.2) else some (0, r603.2.1, r603.2.2, r612.2.1, r612.2.2) else some (0, r603.2.1, r603.2.2, u_state, u_history)
def f_L_change (x2 : Int32) (v_state : VX6) (v_history : VX2) (v_program : VX4) (u_state : VX6) (u_history : VX2) : Option (Int32 × VX6 × VX2 × VX6 × VX2) := (f_X9_count 1 v_state v_history v_program).bind fun r2 => (f_L_low (x2 >>> (4 &&& 31)) (r2 + 1)).bind fun r12 => (f_L_low (x2 >>> (20 &&& 31)) 2).bind fun r27 => if r27 = 0 then f_L_change_41 x2 v_program 1 (x2 >>> (8 &&& 31)) 12 r2 r12 v_state v_history u_state u_history else f_L_change_41 x2 v_program 1 (x2 >>> (8 &&& 31)) 511 r2 r12 v_state v_history u_state u_history
theorem cd_L_change : yL_change.cls ≠ "java/lang/invoke/MethodHandle" ∧ yL_change.cls ≠ "java/lang/invoke/VarHandle" ∧ (parseMethodDescriptor yL_change.desc).map (fun d => d.parameters.length) = some 3 := by decide +kernel
set_option maxRecDepth 100000 in
set_option maxHeartbeats 4000000 in
theorem c_L_change (E : zk_Env) (l : Launch) (b0 : aX9) (u0 : VX9) (b1 : aX9) (u1 : VX9) (x2 : Int32) : zk_Mc E l yL_change wsL_change ({ frames := 6, cells := 0, slots := 0, locals := 129 } : Room) [.ref b0.1, .ref b1.1, .int x2] (zk_j [gX9 E b0 u0, gX9 E b1 u1]) (f_L_change x2 u0.1 u0.2.1 u0.2.2.1 u1.1 u1.2.1) (fun r => some (.int r.1)) (fun r => (zk_j [gX9 E b0 (r.2.1, r.2.2.1, u0.2.2), gX9 E b1 (r.2.2.2.1, r.2.2.2.2, u1.2.2)])) := by
  obtain ⟨v_state, v_history, v_program, v_forecast⟩ := u0
  obtain ⟨u_state, u_history, u_program, u_forecast⟩ := u1
  refine zk_M (cc := cL_change) (nL := 10) (ret := (some .boolean)) (by decide) rfl (Nat.le_of_ble_eq_true rfl) (fun X Q hQ => ?_)
  have J214 : ∀ (s214_0 : Int32) (x5 : Int32) (x7 : Int32) (x8 : Int32) (v_state : VX6) (v_history : VX2) (u_state : VX6) (u_history : VX2), zk_G E l X cL_change 10 (some .boolean) yL_change.cls wsL_change ({ frames := 6, cells := 0, slots := 0, locals := 129 } : Room) 0 0 Q (zk_j [gX9 E b0 (v_state, v_history, v_program, v_forecast), gX9 E b1 (u_state, u_history, u_program, u_forecast)]) [(0, .ref b0.1), (5, .int x5), (7, .int x7), (8, .int x8)] 214 [.int s214_0] (f_L_change_214 v_program s214_0 x5 x7 x8 v_state v_history u_state u_history) := by
    intro s214_0 x5 x7 x8 v_state v_history u_state u_history
    unfold f_L_change_214
    refine zk_istore [(9, .int s214_0), (0, .ref b0.1), (5, .int x5), (7, .int x7), (8, .int x8)] dL_change_214 (by decide) rfl 216 rfl ?_
    refine zk_iload dL_change_216 0 rfl 218 rfl ?_
    refine zk_if_eq dL_change_218 270 (by decide) 221 rfl (fun _ => ?_) (fun _ => ?_)
    · refine zk_iconst 0 dL_change_270 (by decide) 271 rfl ?_
      exact zk_zretL hQ dL_change_271 (Or.inl rfl) rfl rfl
    · refine zk_iload dL_change_221 4 rfl 223 rfl ?_
      refine zk_if_lt dL_change_223 266 (by decide) 226 rfl (fun _ => ?_) (fun _ => ?_)
      · refine zk_iconst 1 dL_change_266 (by decide) 267 rfl ?_
        refine zk_goto dL_change_267 271 (by decide) ?_
        exact zk_zretL hQ dL_change_271 (Or.inr rfl) rfl rfl
      · refine zk_aload_n dL_change_226 1 rfl 227 rfl ?_
        refine zk_iload dL_change_227 4 rfl 229 rfl ?_
        refine zk_iconst 0 dL_change_229 (by decide) 230 rfl ?_
        refine zk_callV (ci := 9) (st := []) (c_X9_promise E l b0 (v_state, v_history, v_program, v_forecast) x8 0) dL_change_230 2 gL_change_X9_promise rfl rfl rfl cd_X9_promise ⟨Nat.le_of_ble_eq_true rfl, Nat.le_of_ble_eq_true rfl⟩ ⟨Nat.zero_le _, Nat.zero_le _⟩ _ (fun r230 => (zk_j [gX9 E b0 (v_state, v_history, v_program, v_forecast), gX9 E b1 (u_state, u_history, u_program, u_forecast)])) (zk_p1 (gs := [gX9 E b0 (v_state, v_history, v_program, v_forecast), gX9 E b1 (u_state, u_history, u_program, u_forecast)]) (i := 0) rfl) (fun r230 => (zk_q1 (gs := [gX9 E b0 (v_state, v_history, v_program, v_forecast), gX9 E b1 (u_state, u_history, u_program, u_forecast)]) (i := 0) rfl rfl)) rfl rfl rfl rfl (Nat.le_of_ble_eq_true rfl) (fun r230 => [.int r230]) (fun _ => rfl) 233 rfl (fun r230 => ?_)
        refine zk_if_ne dL_change_233 270 (by decide) 236 rfl (fun _ => ?_) (fun _ => ?_)
        · refine zk_aload_n dL_change_236 1 rfl 237 rfl ?_
          refine zk_iload dL_change_237 4 rfl 239 rfl ?_
          refine zk_iconst 1 dL_change_239 (by decide) 240 rfl ?_
          refine zk_callV (ci := 9) (st := []) (c_X9_promise E l b0 (v_state, v_history, v_program, v_forecast) x8 1) dL_change_240 2 gL_change_X9_promise rfl rfl rfl cd_X9_promise ⟨Nat.le_of_ble_eq_true rfl, Nat.le_of_ble_eq_true rfl⟩ ⟨Nat.zero_le _, Nat.zero_le _⟩ _ (fun r240 => (zk_j [gX9 E b0 (v_state, v_history, v_program, v_forecast), gX9 E b1 (u_state, u_history, u_program, u_forecast)])) (zk_p1 (gs := [gX9 E b0 (v_state, v_history, v_program, v_forecast), gX9 E b1 (u_state, u_history, u_program, u_forecast)]) (i := 0) rfl) (fun r240 => (zk_q1 (gs := [gX9 E b0 (v_state, v_history, v_program, v_forecast), gX9 E b1 (u_state, u_history, u_program, u_forecast)]) (i := 0) rfl rfl)) rfl rfl rfl rfl (Nat.le_of_ble_eq_true rfl) (fun r240 => [.int r240]) (fun _ => rfl) 243 rfl (fun r240 => ?_)
          refine zk_aload_n dL_change_243 1 rfl 244 rfl ?_
          refine zk_iconst 0 dL_change_244 (by decide) 245 rfl ?_
          refine zk_callV (ci := 9) (st := [.int r240]) (c_X9_count E l b0 (v_state, v_history, v_program, v_forecast) 0) dL_change_245 1 gL_change_X9_count rfl rfl rfl cd_X9_count ⟨Nat.le_of_ble_eq_true rfl, Nat.le_of_ble_eq_true rfl⟩ ⟨Nat.zero_le _, Nat.zero_le _⟩ _ (fun r245 => (zk_j [gX9 E b0 (v_state, v_history, v_program, v_forecast), gX9 E b1 (u_state, u_history, u_program, u_forecast)])) (zk_p1 (gs := [gX9 E b0 (v_state, v_history, v_program, v_forecast), gX9 E b1 (u_state, u_history, u_program, u_forecast)]) (i := 0) rfl) (fun r245 => (zk_q1 (gs := [gX9 E b0 (v_state, v_history, v_program, v_forecast), gX9 E b1 (u_state, u_history, u_program, u_forecast)]) (i := 0) rfl rfl)) rfl rfl rfl rfl (Nat.le_of_ble_eq_true rfl) (fun r245 => [.int r245, .int r240]) (fun _ => rfl) 248 rfl (fun r245 => ?_)
          refine zk_iload dL_change_248 2 rfl 250 rfl ?_
          refine zk_iadd dL_change_250 251 rfl ?_
          refine zk_icmp_ne dL_change_251 270 (by decide) 254 rfl (fun _ => ?_) (fun _ => ?_)
          · refine zk_aload_n dL_change_254 1 rfl 255 rfl ?_
            refine zk_iload dL_change_255 4 rfl 257 rfl ?_
            refine zk_iconst 3 dL_change_257 (by decide) 258 rfl ?_
            refine zk_callV (ci := 9) (st := []) (c_X9_promise E l b0 (v_state, v_history, v_program, v_forecast) x8 3) dL_change_258 2 gL_change_X9_promise rfl rfl rfl cd_X9_promise ⟨Nat.le_of_ble_eq_true rfl, Nat.le_of_ble_eq_true rfl⟩ ⟨Nat.zero_le _, Nat.zero_le _⟩ _ (fun r258 => (zk_j [gX9 E b0 (v_state, v_history, v_program, v_forecast), gX9 E b1 (u_state, u_history, u_program, u_forecast)])) (zk_p1 (gs := [gX9 E b0 (v_state, v_history, v_program, v_forecast), gX9 E b1 (u_state, u_history, u_program, u_forecast)]) (i := 0) rfl) (fun r258 => (zk_q1 (gs := [gX9 E b0 (v_state, v_history, v_program, v_forecast), gX9 E b1 (u_state, u_history, u_program, u_forecast)]) (i := 0) rfl rfl)) rfl rfl rfl rfl (Nat.le_of_ble_eq_true rfl) (fun r258 => [.int r258]) (fun _ => rfl) 261 rfl (fun r258 => ?_)
            refine zk_iload dL_change_261 3 rfl 263 rfl ?_
            refine zk_icmp_ne dL_change_263 270 (by decide) 266 rfl (fun _ => ?_) (fun _ => ?_)
            · refine zk_iconst 1 dL_change_266 (by decide) 267 rfl ?_
              refine zk_goto dL_change_267 271 (by decide) ?_
              exact zk_zretL hQ dL_change_271 (Or.inr rfl) rfl rfl
            · refine zk_iconst 0 dL_change_270 (by decide) 271 rfl ?_
              exact zk_zretL hQ dL_change_271 (Or.inl rfl) rfl rfl
          · refine zk_iconst 0 dL_change_270 (by decide) 271 rfl ?_
            exact zk_zretL hQ dL_change_271 (Or.inl rfl) rfl rfl
        · refine zk_iconst 0 dL_change_270 (by decide) 271 rfl ?_
          exact zk_zretL hQ dL_change_271 (Or.inl rfl) rfl rfl
  have J213 : ∀ (x5 : Int32) (x7 : Int32) (x8 : Int32) (v_state : VX6) (v_history : VX2) (u_state : VX6) (u_history : VX2), zk_G E l X cL_change 10 (some .boolean) yL_change.cls wsL_change ({ frames := 6, cells := 0, slots := 0, locals := 129 } : Room) 0 0 Q (zk_j [gX9 E b0 (v_state, v_history, v_program, v_forecast), gX9 E b1 (u_state, u_history, u_program, u_forecast)]) [(0, .ref b0.1), (5, .int x5), (7, .int x7), (8, .int x8)] 213 [] (f_L_change_213 v_program x5 x7 x8 v_state v_history u_state u_history) := by
    intro x5 x7 x8 v_state v_history u_state u_history
    unfold f_L_change_213
    refine zk_iconst 0 dL_change_213 (by decide) 214 rfl ?_
    exact J214   0 x5 x7 x8 v_state v_history u_state u_history
  have J191 : ∀ (s191_0 : Int32) (s191_1 : Int32) (x5 : Int32) (x6 : Int32) (x7 : Int32) (x8 : Int32) (v_state : VX6) (v_history : VX2) (u_state : VX6) (u_history : VX2), zk_G E l X cL_change 10 (some .boolean) yL_change.cls wsL_change ({ frames := 6, cells := 0, slots := 0, locals := 129 } : Room) 0 0 Q (zk_j [gX9 E b0 (v_state, v_history, v_program, v_forecast), gX9 E b1 (u_state, u_history, u_program, u_forecast)]) [(0, .ref b0.1), (1, .ref b1.1), (5, .int x5), (6, .int x6), (7, .int x7), (8, .int x8)] 191 [.int s191_1, .int s191_0] (f_L_change_191 v_program s191_0 s191_1 x5 x6 x7 x8 v_state v_history u_state u_history) := by
    intro s191_0 s191_1 x5 x6 x7 x8 v_state v_history u_state u_history
    unfold f_L_change_191
    refine zk_icmp_ne dL_change_191 213 (by decide) 194 rfl (fun _ => ?_) (fun _ => ?_)
    · refine zk_aload_n dL_change_194 1 rfl 195 rfl ?_
      refine zk_iload dL_change_195 2 rfl 197 rfl ?_
      refine zk_iload dL_change_197 3 rfl 199 rfl ?_
      refine zk_iload dL_change_199 4 rfl 201 rfl ?_
      refine zk_callV (ci := 9) (st := []) (c_X9_give E l b1 (u_state, u_history, u_program, u_forecast) x5 x6 x7) dL_change_201 3 gL_change_X9_give rfl rfl rfl cd_X9_give ⟨Nat.le_of_ble_eq_true rfl, Nat.le_of_ble_eq_true rfl⟩ ⟨Nat.zero_le _, Nat.zero_le _⟩ _ (fun r201 => (zk_j [gX9 E b0 (v_state, v_history, v_program, v_forecast), gX9 E b1 (r201.2.1, r201.2.2, u_program, u_forecast)])) (zk_p1 (gs := [gX9 E b0 (v_state, v_history, v_program, v_forecast), gX9 E b1 (u_state, u_history, u_program, u_forecast)]) (i := 1) rfl) (fun r201 => (zk_q1 (gs := [gX9 E b0 (v_state, v_history, v_program, v_forecast), gX9 E b1 (u_state, u_history, u_program, u_forecast)]) (i := 1) rfl rfl)) rfl rfl rfl rfl (Nat.le_of_ble_eq_true rfl) (fun r201 => [.int r201.1]) (fun _ => rfl) 204 rfl (fun r201 => ?_)
      refine zk_iload dL_change_204 5 rfl 206 rfl ?_
      refine zk_icmp_ne dL_change_206 213 (by decide) 209 rfl (fun _ => ?_) (fun _ => ?_)
      · refine zk_iconst 1 dL_change_209 (by decide) 210 rfl ?_
        refine zk_goto dL_change_210 214 (by decide) ?_
        refine zk_lv [0, 2, 4, 5] rfl ?_
        exact J214   1 x5 x7 x8 v_state v_history r201.2.1 r201.2.2
      · refine zk_lv [0, 2, 4, 5] rfl ?_
        exact J213   x5 x7 x8 v_state v_history r201.2.1 r201.2.2
    · refine zk_lv [0, 2, 4, 5] rfl ?_
      exact J213   x5 x7 x8 v_state v_history u_state u_history
  have J163 : ∀ (s163_0 : Int32) (x3 : Int32) (x5 : Int32) (x6 : Int32) (v_state : VX6) (v_history : VX2) (u_state : VX6) (u_history : VX2), zk_G E l X cL_change 10 (some .boolean) yL_change.cls wsL_change ({ frames := 6, cells := 0, slots := 0, locals := 129 } : Room) 0 0 Q (zk_j [gX9 E b0 (v_state, v_history, v_program, v_forecast), gX9 E b1 (u_state, u_history, u_program, u_forecast)]) [(0, .ref b0.1), (1, .ref b1.1), (3, .int x3), (5, .int x5), (6, .int x6)] 163 [.int s163_0] (f_L_change_163 v_program s163_0 x3 x5 x6 v_state v_history u_state u_history) := by
    intro s163_0 x3 x5 x6 v_state v_history u_state u_history
    unfold f_L_change_163
    refine zk_istore [(7, .int s163_0), (0, .ref b0.1), (1, .ref b1.1), (3, .int x3), (5, .int x5), (6, .int x6)] dL_change_163 (by decide) rfl 165 rfl ?_
    refine zk_aload_n dL_change_165 1 rfl 166 rfl ?_
    refine zk_iload dL_change_166 4 rfl 168 rfl ?_
    refine zk_iload dL_change_168 5 rfl 170 rfl ?_
    refine zk_iload dL_change_170 0 rfl 172 rfl ?_
    refine zk_callV (ci := 9) (st := []) (c_X9_give E l b0 (v_state, v_history, v_program, v_forecast) x5 x6 s163_0) dL_change_172 3 gL_change_X9_give rfl rfl rfl cd_X9_give ⟨Nat.le_of_ble_eq_true rfl, Nat.le_of_ble_eq_true rfl⟩ ⟨Nat.zero_le _, Nat.zero_le _⟩ _ (fun r172 => (zk_j [gX9 E b0 (r172.2.1, r172.2.2, v_program, v_forecast), gX9 E b1 (u_state, u_history, u_program, u_forecast)])) (zk_p1 (gs := [gX9 E b0 (v_state, v_history, v_program, v_forecast), gX9 E b1 (u_state, u_history, u_program, u_forecast)]) (i := 0) rfl) (fun r172 => (zk_q1 (gs := [gX9 E b0 (v_state, v_history, v_program, v_forecast), gX9 E b1 (u_state, u_history, u_program, u_forecast)]) (i := 0) rfl rfl)) rfl rfl rfl rfl (Nat.le_of_ble_eq_true rfl) (fun r172 => [.int r172.1]) (fun _ => rfl) 175 rfl (fun r172 => ?_)
    refine zk_istore [(8, .int r172.1), (7, .int s163_0), (0, .ref b0.1), (1, .ref b1.1), (3, .int x3), (5, .int x5), (6, .int x6)] dL_change_175 (by decide) rfl 177 rfl ?_
    refine zk_iload dL_change_177 0 rfl 179 rfl ?_
    refine zk_iload_n dL_change_179 4 rfl 180 rfl ?_
    refine zk_bipush 40 dL_change_180 (by decide) 182 rfl ?_
    refine zk_icmp_ge dL_change_182 189 (by decide) 185 rfl (fun _ => ?_) (fun _ => ?_)
    · refine zk_bipush (-3) dL_change_189 (by decide) 191 rfl ?_
      refine zk_lv [2, 3, 5, 6, 1, 0] rfl ?_
      exact J191   r172.1 (-3) x5 x6 s163_0 r172.1 r172.2.1 r172.2.2 u_state u_history
    · refine zk_iload_n dL_change_185 4 rfl 186 rfl ?_
      refine zk_goto dL_change_186 191 (by decide) ?_
      refine zk_lv [2, 3, 5, 6, 1, 0] rfl ?_
      exact J191   r172.1 x3 x5 x6 s163_0 r172.1 r172.2.1 r172.2.2 u_state u_history
  have J143 : ∀ (s143_0 : Int32) (x3 : Int32) (x5 : Int32) (v_state : VX6) (v_history : VX2) (u_state : VX6) (u_history : VX2), zk_G E l X cL_change 10 (some .boolean) yL_change.cls wsL_change ({ frames := 6, cells := 0, slots := 0, locals := 129 } : Room) 0 0 Q (zk_j [gX9 E b0 (v_state, v_history, v_program, v_forecast), gX9 E b1 (u_state, u_history, u_program, u_forecast)]) [(0, .ref b0.1), (1, .ref b1.1), (2, .int x2), (3, .int x3), (5, .int x5)] 143 [.int s143_0] (f_L_change_143 x2 v_program s143_0 x3 x5 v_state v_history u_state u_history) := by
    intro s143_0 x3 x5 v_state v_history u_state u_history
    unfold f_L_change_143
    refine zk_istore [(6, .int s143_0), (0, .ref b0.1), (1, .ref b1.1), (2, .int x2), (3, .int x3), (5, .int x5)] dL_change_143 (by decide) rfl 145 rfl ?_
    refine zk_iload dL_change_145 0 rfl 147 rfl ?_
    refine zk_if_ne dL_change_147 154 (by decide) 150 rfl (fun _ => ?_) (fun _ => ?_)
    · refine zk_iconst 0 dL_change_150 (by decide) 151 rfl ?_
      refine zk_goto dL_change_151 163 (by decide) ?_
      refine zk_lv [1, 2, 4, 5, 0] rfl ?_
      exact J163   0 x3 x5 s143_0 v_state v_history u_state u_history
    · refine zk_iload_n dL_change_154 3 rfl 155 rfl ?_
      refine zk_bipush 23 dL_change_155 (by decide) 157 rfl ?_
      refine zk_ishr dL_change_157 158 rfl ?_
      refine zk_bipush 9 dL_change_158 (by decide) 160 rfl ?_
      refine zk_callS (st := []) (c_L_low E l (x2 >>> (23 &&& 31)) 9) dL_change_160 2 gL_change_L_low rfl rfl rfl cd_L_low ⟨Nat.le_of_ble_eq_true rfl, Nat.le_of_ble_eq_true rfl⟩ ⟨Nat.zero_le _, Nat.zero_le _⟩ _ (fun r160 => (zk_j [gX9 E b0 (v_state, v_history, v_program, v_forecast), gX9 E b1 (u_state, u_history, u_program, u_forecast)])) zk_pn (fun r160 => (List.Perm.refl _)) rfl rfl (Nat.le_of_ble_eq_true rfl) (fun r160 => [.int r160]) (fun _ => rfl) 163 rfl (fun r160 => ?_)
      refine zk_lv [1, 2, 4, 5, 0] rfl ?_
      exact J163   r160 x3 x5 s143_0 v_state v_history u_state u_history
  have J139 : ∀ (s139_0 : Int32) (s139_1 : Int32) (s139_2 : Int32) (x3 : Int32) (x5 : Int32) (v_state : VX6) (v_history : VX2) (u_state : VX6) (u_history : VX2), zk_G E l X cL_change 10 (some .boolean) yL_change.cls wsL_change ({ frames := 6, cells := 0, slots := 0, locals := 129 } : Room) 0 0 Q (zk_j [gX9 E b0 (v_state, v_history, v_program, v_forecast), gX9 E b1 (u_state, u_history, u_program, u_forecast)]) [(0, .ref b0.1), (1, .ref b1.1), (2, .int x2), (3, .int x3), (5, .int x5)] 139 [.int s139_2, .int s139_1, .int s139_0] (f_L_change_139 x2 v_program s139_0 s139_1 s139_2 x3 x5 v_state v_history u_state u_history) := by
    intro s139_0 s139_1 s139_2 x3 x5 v_state v_history u_state u_history
    unfold f_L_change_139
    refine zk_callS (st := [.int s139_0]) (c_L_low E l s139_1 s139_2) dL_change_139 2 gL_change_L_low rfl rfl rfl cd_L_low ⟨Nat.le_of_ble_eq_true rfl, Nat.le_of_ble_eq_true rfl⟩ ⟨Nat.zero_le _, Nat.zero_le _⟩ _ (fun r139 => (zk_j [gX9 E b0 (v_state, v_history, v_program, v_forecast), gX9 E b1 (u_state, u_history, u_program, u_forecast)])) zk_pn (fun r139 => (List.Perm.refl _)) rfl rfl (Nat.le_of_ble_eq_true rfl) (fun r139 => [.int r139, .int s139_0]) (fun _ => rfl) 142 rfl (fun r139 => ?_)
    refine zk_iadd dL_change_142 143 rfl ?_
    exact J143   (s139_0 + r139) x3 x5 v_state v_history u_state u_history
  have J335 : ∀ (s335_0 : Int32) (s335_1 : Int32) (x4 : Int32) (x8 : Int32) (v_state : VX6) (v_history : VX2) (u_state : VX6) (u_history : VX2), zk_G E l X cL_change 10 (some .boolean) yL_change.cls wsL_change ({ frames := 6, cells := 0, slots := 0, locals := 129 } : Room) 0 0 Q (zk_j [gX9 E b0 (v_state, v_history, v_program, v_forecast), gX9 E b1 (u_state, u_history, u_program, u_forecast)]) [(1, .ref b1.1), (4, .int x4), (8, .int x8)] 335 [.int s335_1, .int s335_0] (f_L_change_335 s335_0 s335_1 x4 x8 v_state v_history u_state u_history) := by
    intro s335_0 s335_1 x4 x8 v_state v_history u_state u_history
    unfold f_L_change_335
    refine zk_icmp_ne dL_change_335 353 (by decide) 338 rfl (fun _ => ?_) (fun _ => ?_)
    · refine zk_aload_n dL_change_338 0 rfl 339 rfl ?_
      refine zk_iload dL_change_339 1 rfl 341 rfl ?_
      refine zk_callV (ci := 9) (st := []) (c_X9_breakOff E l b1 (u_state, u_history, u_program, u_forecast) x4) dL_change_341 1 gL_change_X9_breakOff rfl rfl rfl cd_X9_breakOff ⟨Nat.le_of_ble_eq_true rfl, Nat.le_of_ble_eq_true rfl⟩ ⟨Nat.zero_le _, Nat.zero_le _⟩ _ (fun r341 => (zk_j [gX9 E b0 (v_state, v_history, v_program, v_forecast), gX9 E b1 (r341.2.1, r341.2.2, u_program, u_forecast)])) (zk_p1 (gs := [gX9 E b0 (v_state, v_history, v_program, v_forecast), gX9 E b1 (u_state, u_history, u_program, u_forecast)]) (i := 1) rfl) (fun r341 => (zk_q1 (gs := [gX9 E b0 (v_state, v_history, v_program, v_forecast), gX9 E b1 (u_state, u_history, u_program, u_forecast)]) (i := 1) rfl rfl)) rfl rfl rfl rfl (Nat.le_of_ble_eq_true rfl) (fun r341 => [.int r341.1]) (fun _ => rfl) 344 rfl (fun r341 => ?_)
      refine zk_iload dL_change_344 2 rfl 346 rfl ?_
      refine zk_icmp_ne dL_change_346 353 (by decide) 349 rfl (fun _ => ?_) (fun _ => ?_)
      · refine zk_iconst 1 dL_change_349 (by decide) 350 rfl ?_
        refine zk_goto dL_change_350 354 (by decide) ?_
        exact zk_zretL hQ dL_change_354 (Or.inr rfl) rfl rfl
      · refine zk_iconst 0 dL_change_353 (by decide) 354 rfl ?_
        exact zk_zretL hQ dL_change_354 (Or.inl rfl) rfl rfl
    · refine zk_iconst 0 dL_change_353 (by decide) 354 rfl ?_
      exact zk_zretL hQ dL_change_354 (Or.inl rfl) rfl rfl
  have J290 : ∀ (s290_0 : Int32) (x4 : Int32) (v_state : VX6) (v_history : VX2) (u_state : VX6) (u_history : VX2), zk_G E l X cL_change 10 (some .boolean) yL_change.cls wsL_change ({ frames := 6, cells := 0, slots := 0, locals := 129 } : Room) 0 0 Q (zk_j [gX9 E b0 (v_state, v_history, v_program, v_forecast), gX9 E b1 (u_state, u_history, u_program, u_forecast)]) [(0, .ref b0.1), (1, .ref b1.1), (4, .int x4)] 290 [.int s290_0] (f_L_change_290 v_program s290_0 x4 v_state v_history u_state u_history) := by
    intro s290_0 x4 v_state v_history u_state u_history
    unfold f_L_change_290
    refine zk_istore [(6, .int s290_0), (0, .ref b0.1), (1, .ref b1.1), (4, .int x4)] dL_change_290 (by decide) rfl 292 rfl ?_
    refine zk_aload_n dL_change_292 1 rfl 293 rfl ?_
    refine zk_iconst 4 dL_change_293 (by decide) 294 rfl ?_
    refine zk_callV (ci := 9) (st := []) (c_X9_count E l b0 (v_state, v_history, v_program, v_forecast) 4) dL_change_294 1 gL_change_X9_count rfl rfl rfl cd_X9_count ⟨Nat.le_of_ble_eq_true rfl, Nat.le_of_ble_eq_true rfl⟩ ⟨Nat.zero_le _, Nat.zero_le _⟩ _ (fun r294 => (zk_j [gX9 E b0 (v_state, v_history, v_program, v_forecast), gX9 E b1 (u_state, u_history, u_program, u_forecast)])) (zk_p1 (gs := [gX9 E b0 (v_state, v_history, v_program, v_forecast), gX9 E b1 (u_state, u_history, u_program, u_forecast)]) (i := 0) rfl) (fun r294 => (zk_q1 (gs := [gX9 E b0 (v_state, v_history, v_program, v_forecast), gX9 E b1 (u_state, u_history, u_program, u_forecast)]) (i := 0) rfl rfl)) rfl rfl rfl rfl (Nat.le_of_ble_eq_true rfl) (fun r294 => [.int r294]) (fun _ => rfl) 297 rfl (fun r294 => ?_)
    refine zk_istore [(7, .int r294), (6, .int s290_0), (0, .ref b0.1), (1, .ref b1.1), (4, .int x4)] dL_change_297 (by decide) rfl 299 rfl ?_
    refine zk_aload_n dL_change_299 2 rfl 300 rfl ?_
    refine zk_iload dL_change_300 4 rfl 302 rfl ?_
    refine zk_callV (ci := 9) (st := []) (c_X9_breakOff E l b0 (v_state, v_history, v_program, v_forecast) x4) dL_change_302 1 gL_change_X9_breakOff rfl rfl rfl cd_X9_breakOff ⟨Nat.le_of_ble_eq_true rfl, Nat.le_of_ble_eq_true rfl⟩ ⟨Nat.zero_le _, Nat.zero_le _⟩ _ (fun r302 => (zk_j [gX9 E b0 (r302.2.1, r302.2.2, v_program, v_forecast), gX9 E b1 (u_state, u_history, u_program, u_forecast)])) (zk_p1 (gs := [gX9 E b0 (v_state, v_history, v_program, v_forecast), gX9 E b1 (u_state, u_history, u_program, u_forecast)]) (i := 0) rfl) (fun r302 => (zk_q1 (gs := [gX9 E b0 (v_state, v_history, v_program, v_forecast), gX9 E b1 (u_state, u_history, u_program, u_forecast)]) (i := 0) rfl rfl)) rfl rfl rfl rfl (Nat.le_of_ble_eq_true rfl) (fun r302 => [.int r302.1]) (fun _ => rfl) 305 rfl (fun r302 => ?_)
    refine zk_istore [(8, .int r302.1), (7, .int r294), (6, .int s290_0), (0, .ref b0.1), (1, .ref b1.1), (4, .int x4)] dL_change_305 (by decide) rfl 307 rfl ?_
    refine zk_iload dL_change_307 0 rfl 309 rfl ?_
    refine zk_iload dL_change_309 2 rfl 311 rfl ?_
    refine zk_bipush 9 dL_change_311 (by decide) 313 rfl ?_
    refine zk_icmp_ne dL_change_313 320 (by decide) 316 rfl (fun _ => ?_) (fun _ => ?_)
    · refine zk_iconst (-1) dL_change_316 (by decide) 317 rfl ?_
      refine zk_goto dL_change_317 335 (by decide) ?_
      refine zk_lv [4, 5, 0] rfl ?_
      exact J335   r302.1 (-1) x4 r302.1 r302.2.1 r302.2.2 u_state u_history
    · refine zk_iload dL_change_320 2 rfl 322 rfl ?_
      refine zk_iconst 2 dL_change_322 (by decide) 323 rfl ?_
      refine zk_icmp_ge dL_change_323 333 (by decide) 326 rfl (fun _ => ?_) (fun _ => ?_)
      · refine zk_bipush (-2) dL_change_333 (by decide) 335 rfl ?_
        refine zk_lv [4, 5, 0] rfl ?_
        exact J335   r302.1 (-2) x4 r302.1 r302.2.1 r302.2.2 u_state u_history
      · refine zk_iload dL_change_326 1 rfl 328 rfl ?_
        refine zk_iconst 1 dL_change_328 (by decide) 329 rfl ?_
        refine zk_iadd dL_change_329 330 rfl ?_
        refine zk_goto dL_change_330 335 (by decide) ?_
        refine zk_lv [4, 5, 0] rfl ?_
        exact J335   r302.1 (r294 + 1) x4 r302.1 r302.2.1 r302.2.2 u_state u_history
  have J428 : ∀ (s428_0 : Int32) (s428_1 : Int32) (x4 : Int32) (x5 : Int32) (x8 : Int32) (v_state : VX6) (v_history : VX2) (u_state : VX6) (u_history : VX2), zk_G E l X cL_change 10 (some .boolean) yL_change.cls wsL_change ({ frames := 6, cells := 0, slots := 0, locals := 129 } : Room) 0 0 Q (zk_j [gX9 E b0 (v_state, v_history, v_program, v_forecast), gX9 E b1 (u_state, u_history, u_program, u_forecast)]) [(1, .ref b1.1), (4, .int x4), (5, .int x5), (8, .int x8)] 428 [.int s428_1, .int s428_0] (f_L_change_428 s428_0 s428_1 x4 x5 x8 v_state v_history u_state u_history) := by
    intro s428_0 s428_1 x4 x5 x8 v_state v_history u_state u_history
    unfold f_L_change_428
    refine zk_icmp_ne dL_change_428 448 (by decide) 431 rfl (fun _ => ?_) (fun _ => ?_)
    · refine zk_aload_n dL_change_431 0 rfl 432 rfl ?_
      refine zk_iload dL_change_432 1 rfl 434 rfl ?_
      refine zk_iload dL_change_434 2 rfl 436 rfl ?_
      refine zk_callV (ci := 9) (st := []) (c_X9_move E l b1 (u_state, u_history, u_program, u_forecast) x4 x5) dL_change_436 2 gL_change_X9_move rfl rfl rfl cd_X9_move ⟨Nat.le_of_ble_eq_true rfl, Nat.le_of_ble_eq_true rfl⟩ ⟨Nat.zero_le _, Nat.zero_le _⟩ _ (fun r436 => (zk_j [gX9 E b0 (v_state, v_history, v_program, v_forecast), gX9 E b1 (r436.2.1, r436.2.2, u_program, u_forecast)])) (zk_p1 (gs := [gX9 E b0 (v_state, v_history, v_program, v_forecast), gX9 E b1 (u_state, u_history, u_program, u_forecast)]) (i := 1) rfl) (fun r436 => (zk_q1 (gs := [gX9 E b0 (v_state, v_history, v_program, v_forecast), gX9 E b1 (u_state, u_history, u_program, u_forecast)]) (i := 1) rfl rfl)) rfl rfl rfl rfl (Nat.le_of_ble_eq_true rfl) (fun r436 => [.int r436.1]) (fun _ => rfl) 439 rfl (fun r436 => ?_)
      refine zk_iload dL_change_439 3 rfl 441 rfl ?_
      refine zk_icmp_ne dL_change_441 448 (by decide) 444 rfl (fun _ => ?_) (fun _ => ?_)
      · refine zk_iconst 1 dL_change_444 (by decide) 445 rfl ?_
        refine zk_goto dL_change_445 449 (by decide) ?_
        exact zk_zretL hQ dL_change_449 (Or.inr rfl) rfl rfl
      · refine zk_iconst 0 dL_change_448 (by decide) 449 rfl ?_
        exact zk_zretL hQ dL_change_449 (Or.inl rfl) rfl rfl
    · refine zk_iconst 0 dL_change_448 (by decide) 449 rfl ?_
      exact zk_zretL hQ dL_change_449 (Or.inl rfl) rfl rfl
  have J391 : ∀ (s391_0 : Int32) (x4 : Int32) (x5 : Int32) (x6 : Int32) (v_state : VX6) (v_history : VX2) (u_state : VX6) (u_history : VX2), zk_G E l X cL_change 10 (some .boolean) yL_change.cls wsL_change ({ frames := 6, cells := 0, slots := 0, locals := 129 } : Room) 0 0 Q (zk_j [gX9 E b0 (v_state, v_history, v_program, v_forecast), gX9 E b1 (u_state, u_history, u_program, u_forecast)]) [(0, .ref b0.1), (1, .ref b1.1), (4, .int x4), (5, .int x5), (6, .int x6)] 391 [.int s391_0] (f_L_change_391 s391_0 x4 x5 x6 v_state v_history u_state u_history) := by
    intro s391_0 x4 x5 x6 v_state v_history u_state u_history
    unfold f_L_change_391
    refine zk_istore [(7, .int s391_0), (0, .ref b0.1), (1, .ref b1.1), (4, .int x4), (5, .int x5), (6, .int x6)] dL_change_391 (by decide) rfl 393 rfl ?_
    refine zk_aload_n dL_change_393 1 rfl 394 rfl ?_
    refine zk_iload dL_change_394 3 rfl 396 rfl ?_
    refine zk_iload dL_change_396 4 rfl 398 rfl ?_
    refine zk_callV (ci := 9) (st := []) (c_X9_move E l b0 (v_state, v_history, v_program, v_forecast) x4 x5) dL_change_398 2 gL_change_X9_move rfl rfl rfl cd_X9_move ⟨Nat.le_of_ble_eq_true rfl, Nat.le_of_ble_eq_true rfl⟩ ⟨Nat.zero_le _, Nat.zero_le _⟩ _ (fun r398 => (zk_j [gX9 E b0 (r398.2.1, r398.2.2, v_program, v_forecast), gX9 E b1 (u_state, u_history, u_program, u_forecast)])) (zk_p1 (gs := [gX9 E b0 (v_state, v_history, v_program, v_forecast), gX9 E b1 (u_state, u_history, u_program, u_forecast)]) (i := 0) rfl) (fun r398 => (zk_q1 (gs := [gX9 E b0 (v_state, v_history, v_program, v_forecast), gX9 E b1 (u_state, u_history, u_program, u_forecast)]) (i := 0) rfl rfl)) rfl rfl rfl rfl (Nat.le_of_ble_eq_true rfl) (fun r398 => [.int r398.1]) (fun _ => rfl) 401 rfl (fun r398 => ?_)
    refine zk_istore [(8, .int r398.1), (7, .int s391_0), (0, .ref b0.1), (1, .ref b1.1), (4, .int x4), (5, .int x5), (6, .int x6)] dL_change_401 (by decide) rfl 403 rfl ?_
    refine zk_iload dL_change_403 0 rfl 405 rfl ?_
    refine zk_iload dL_change_405 6 rfl 407 rfl ?_
    refine zk_bipush 9 dL_change_407 (by decide) 409 rfl ?_
    refine zk_icmp_ne dL_change_409 416 (by decide) 412 rfl (fun _ => ?_) (fun _ => ?_)
    · refine zk_iconst (-1) dL_change_412 (by decide) 413 rfl ?_
      refine zk_goto dL_change_413 428 (by decide) ?_
      refine zk_lv [3, 4, 5, 0] rfl ?_
      exact J428   r398.1 (-1) x4 x5 r398.1 r398.2.1 r398.2.2 u_state u_history
    · refine zk_iload dL_change_416 6 rfl 418 rfl ?_
      refine zk_if_ne dL_change_418 426 (by decide) 421 rfl (fun _ => ?_) (fun _ => ?_)
      · refine zk_iload dL_change_421 1 rfl 423 rfl ?_
        refine zk_goto dL_change_423 428 (by decide) ?_
        refine zk_lv [3, 4, 5, 0] rfl ?_
        exact J428   r398.1 s391_0 x4 x5 r398.1 r398.2.1 r398.2.2 u_state u_history
      · refine zk_bipush (-2) dL_change_426 (by decide) 428 rfl ?_
        refine zk_lv [3, 4, 5, 0] rfl ?_
        exact J428   r398.1 (-2) x4 x5 r398.1 r398.2.1 r398.2.2 u_state u_history
  have J373 : ∀ (s373_0 : Int32) (x4 : Int32) (x5 : Int32) (v_state : VX6) (v_history : VX2) (u_state : VX6) (u_history : VX2), zk_G E l X cL_change 10 (some .boolean) yL_change.cls wsL_change ({ frames := 6, cells := 0, slots := 0, locals := 129 } : Room) 0 0 Q (zk_j [gX9 E b0 (v_state, v_history, v_program, v_forecast), gX9 E b1 (u_state, u_history, u_program, u_forecast)]) [(0, .ref b0.1), (1, .ref b1.1), (4, .int x4), (5, .int x5)] 373 [.int s373_0] (f_L_change_373 s373_0 x4 x5 v_state v_history u_state u_history) := by
    intro s373_0 x4 x5 v_state v_history u_state u_history
    unfold f_L_change_373
    refine zk_istore [(6, .int s373_0), (0, .ref b0.1), (1, .ref b1.1), (4, .int x4), (5, .int x5)] dL_change_373 (by decide) rfl 375 rfl ?_
    refine zk_iload dL_change_375 0 rfl 377 rfl ?_
    refine zk_if_ne dL_change_377 390 (by decide) 380 rfl (fun _ => ?_) (fun _ => ?_)
    · refine zk_aload_n dL_change_380 1 rfl 381 rfl ?_
      refine zk_iload dL_change_381 3 rfl 383 rfl ?_
      refine zk_iconst 1 dL_change_383 (by decide) 384 rfl ?_
      refine zk_callV (ci := 9) (st := []) (c_X9_promise E l b0 (v_state, v_history, v_program, v_forecast) x4 1) dL_change_384 2 gL_change_X9_promise rfl rfl rfl cd_X9_promise ⟨Nat.le_of_ble_eq_true rfl, Nat.le_of_ble_eq_true rfl⟩ ⟨Nat.zero_le _, Nat.zero_le _⟩ _ (fun r384 => (zk_j [gX9 E b0 (v_state, v_history, v_program, v_forecast), gX9 E b1 (u_state, u_history, u_program, u_forecast)])) (zk_p1 (gs := [gX9 E b0 (v_state, v_history, v_program, v_forecast), gX9 E b1 (u_state, u_history, u_program, u_forecast)]) (i := 0) rfl) (fun r384 => (zk_q1 (gs := [gX9 E b0 (v_state, v_history, v_program, v_forecast), gX9 E b1 (u_state, u_history, u_program, u_forecast)]) (i := 0) rfl rfl)) rfl rfl rfl rfl (Nat.le_of_ble_eq_true rfl) (fun r384 => [.int r384]) (fun _ => rfl) 387 rfl (fun r384 => ?_)
      refine zk_goto dL_change_387 391 (by decide) ?_
      refine zk_lv [1, 2, 3, 4, 0] rfl ?_
      exact J391   r384 x4 x5 s373_0 v_state v_history u_state u_history
    · refine zk_iconst 0 dL_change_390 (by decide) 391 rfl ?_
      refine zk_lv [1, 2, 3, 4, 0] rfl ?_
      exact J391   0 x4 x5 s373_0 v_state v_history u_state u_history
  have J550 : ∀ (s550_0 : Int32) (x6 : Int32) (v_state : VX6) (v_history : VX2) (u_state : VX6) (u_history : VX2), zk_G E l X cL_change 10 (some .boolean) yL_change.cls wsL_change ({ frames := 6, cells := 0, slots := 0, locals := 129 } : Room) 0 0 Q (zk_j [gX9 E b0 (v_state, v_history, v_program, v_forecast), gX9 E b1 (u_state, u_history, u_program, u_forecast)]) [(0, .ref b0.1), (1, .ref b1.1), (6, .int x6)] 550 [.int s550_0] (f_L_change_550 v_program s550_0 x6 v_state v_history u_state u_history) := by
    intro s550_0 x6 v_state v_history u_state u_history
    unfold f_L_change_550
    refine zk_istore [(7, .int s550_0), (0, .ref b0.1), (1, .ref b1.1), (6, .int x6)] dL_change_550 (by decide) rfl 552 rfl ?_
    refine zk_aload_n dL_change_552 1 rfl 553 rfl ?_
    refine zk_bipush 14 dL_change_553 (by decide) 555 rfl ?_
    refine zk_iload dL_change_555 3 rfl 557 rfl ?_
    refine zk_iadd dL_change_557 558 rfl ?_
    refine zk_callV (ci := 9) (st := []) (c_X9_count E l b0 (v_state, v_history, v_program, v_forecast) (14 + x6)) dL_change_558 1 gL_change_X9_count rfl rfl rfl cd_X9_count ⟨Nat.le_of_ble_eq_true rfl, Nat.le_of_ble_eq_true rfl⟩ ⟨Nat.zero_le _, Nat.zero_le _⟩ _ (fun r558 => (zk_j [gX9 E b0 (v_state, v_history, v_program, v_forecast), gX9 E b1 (u_state, u_history, u_program, u_forecast)])) (zk_p1 (gs := [gX9 E b0 (v_state, v_history, v_program, v_forecast), gX9 E b1 (u_state, u_history, u_program, u_forecast)]) (i := 0) rfl) (fun r558 => (zk_q1 (gs := [gX9 E b0 (v_state, v_history, v_program, v_forecast), gX9 E b1 (u_state, u_history, u_program, u_forecast)]) (i := 0) rfl rfl)) rfl rfl rfl rfl (Nat.le_of_ble_eq_true rfl) (fun r558 => [.int r558]) (fun _ => rfl) 561 rfl (fun r558 => ?_)
    refine zk_istore [(8, .int r558), (7, .int s550_0), (0, .ref b0.1), (1, .ref b1.1), (6, .int x6)] dL_change_561 (by decide) rfl 563 rfl ?_
    refine zk_aload_n dL_change_563 2 rfl 564 rfl ?_
    refine zk_iload dL_change_564 4 rfl 566 rfl ?_
    refine zk_iload dL_change_566 1 rfl 568 rfl ?_
    refine zk_callV (ci := 9) (st := []) (c_X9_set E l b0 (v_state, v_history, v_program, v_forecast) x6 s550_0) dL_change_568 2 gL_change_X9_set rfl rfl rfl cd_X9_set ⟨Nat.le_of_ble_eq_true rfl, Nat.le_of_ble_eq_true rfl⟩ ⟨Nat.zero_le _, Nat.zero_le _⟩ _ (fun r568 => (zk_j [gX9 E b0 (r568.2.1, r568.2.2, v_program, v_forecast), gX9 E b1 (u_state, u_history, u_program, u_forecast)])) (zk_p1 (gs := [gX9 E b0 (v_state, v_history, v_program, v_forecast), gX9 E b1 (u_state, u_history, u_program, u_forecast)]) (i := 0) rfl) (fun r568 => (zk_q1 (gs := [gX9 E b0 (v_state, v_history, v_program, v_forecast), gX9 E b1 (u_state, u_history, u_program, u_forecast)]) (i := 0) rfl rfl)) rfl rfl rfl rfl (Nat.le_of_ble_eq_true rfl) (fun r568 => [.int r568.1]) (fun _ => rfl) 571 rfl (fun r568 => ?_)
    refine zk_iload dL_change_571 0 rfl 573 rfl ?_
    refine zk_icmp_ne dL_change_573 593 (by decide) 576 rfl (fun _ => ?_) (fun _ => ?_)
    · refine zk_aload_n dL_change_576 3 rfl 577 rfl ?_
      refine zk_iload dL_change_577 4 rfl 579 rfl ?_
      refine zk_iload dL_change_579 1 rfl 581 rfl ?_
      refine zk_callV (ci := 9) (st := []) (c_X9_set E l b1 (u_state, u_history, u_program, u_forecast) x6 s550_0) dL_change_581 2 gL_change_X9_set rfl rfl rfl cd_X9_set ⟨Nat.le_of_ble_eq_true rfl, Nat.le_of_ble_eq_true rfl⟩ ⟨Nat.zero_le _, Nat.zero_le _⟩ _ (fun r581 => (zk_j [gX9 E b0 (r568.2.1, r568.2.2, v_program, v_forecast), gX9 E b1 (r581.2.1, r581.2.2, u_program, u_forecast)])) (zk_p1 (gs := [gX9 E b0 (r568.2.1, r568.2.2, v_program, v_forecast), gX9 E b1 (u_state, u_history, u_program, u_forecast)]) (i := 1) rfl) (fun r581 => (zk_q1 (gs := [gX9 E b0 (r568.2.1, r568.2.2, v_program, v_forecast), gX9 E b1 (u_state, u_history, u_program, u_forecast)]) (i := 1) rfl rfl)) rfl rfl rfl rfl (Nat.le_of_ble_eq_true rfl) (fun r581 => [.int r581.1]) (fun _ => rfl) 584 rfl (fun r581 => ?_)
      refine zk_iload dL_change_584 0 rfl 586 rfl ?_
      refine zk_icmp_ne dL_change_586 593 (by decide) 589 rfl (fun _ => ?_) (fun _ => ?_)
      · refine zk_iconst 1 dL_change_589 (by decide) 590 rfl ?_
        refine zk_goto dL_change_590 594 (by decide) ?_
        exact zk_zretL hQ dL_change_594 (Or.inr rfl) rfl rfl
      · refine zk_iconst 0 dL_change_593 (by decide) 594 rfl ?_
        exact zk_zretL hQ dL_change_594 (Or.inl rfl) rfl rfl
    · refine zk_iconst 0 dL_change_593 (by decide) 594 rfl ?_
      exact zk_zretL hQ dL_change_594 (Or.inl rfl) rfl rfl
  have J41 : ∀ (s41_0 : Int32) (s41_1 : Int32) (s41_2 : Int32) (x3 : Int32) (x4 : Int32) (v_state : VX6) (v_history : VX2) (u_state : VX6) (u_history : VX2), zk_G E l X cL_change 10 (some .boolean) yL_change.cls wsL_change ({ frames := 6, cells := 0, slots := 0, locals := 129 } : Room) 0 0 Q (zk_j [gX9 E b0 (v_state, v_history, v_program, v_forecast), gX9 E b1 (u_state, u_history, u_program, u_forecast)]) [(0, .ref b0.1), (1, .ref b1.1), (2, .int x2), (3, .int x3), (4, .int x4)] 41 [.int s41_2, .int s41_1, .int s41_0] (f_L_change_41 x2 v_program s41_0 s41_1 s41_2 x3 x4 v_state v_history u_state u_history) := by
    intro s41_0 s41_1 s41_2 x3 x4 v_state v_history u_state u_history
    unfold f_L_change_41
    refine zk_callS (st := [.int s41_0]) (c_L_low E l s41_1 s41_2) dL_change_41 2 gL_change_L_low rfl rfl rfl cd_L_low ⟨Nat.le_of_ble_eq_true rfl, Nat.le_of_ble_eq_true rfl⟩ ⟨Nat.zero_le _, Nat.zero_le _⟩ _ (fun r41 => (zk_j [gX9 E b0 (v_state, v_history, v_program, v_forecast), gX9 E b1 (u_state, u_history, u_program, u_forecast)])) zk_pn (fun r41 => (List.Perm.refl _)) rfl rfl (Nat.le_of_ble_eq_true rfl) (fun r41 => [.int r41, .int s41_0]) (fun _ => rfl) 44 rfl (fun r41 => ?_)
    refine zk_iadd dL_change_44 45 rfl ?_
    refine zk_nm (fun x5_1 => ?_)
    refine zk_istore [(5, .int x5_1), (0, .ref b0.1), (1, .ref b1.1), (2, .int x2), (3, .int x3), (4, .int x4)] dL_change_45 (by decide) rfl 47 rfl ?_
    refine zk_iload_n dL_change_47 3 rfl 48 rfl ?_
    refine zk_bipush 9 dL_change_48 (by decide) 50 rfl ?_
    refine zk_callS (st := []) (c_L_low E l x2 9) dL_change_50 2 gL_change_L_low rfl rfl rfl cd_L_low ⟨Nat.le_of_ble_eq_true rfl, Nat.le_of_ble_eq_true rfl⟩ ⟨Nat.zero_le _, Nat.zero_le _⟩ _ (fun r50 => (zk_j [gX9 E b0 (v_state, v_history, v_program, v_forecast), gX9 E b1 (u_state, u_history, u_program, u_forecast)])) zk_pn (fun r50 => (List.Perm.refl _)) rfl rfl (Nat.le_of_ble_eq_true rfl) (fun r50 => [.int r50]) (fun _ => rfl) 53 rfl (fun r50 => ?_)
    refine zk_if (c := r50 = 0) (fun h53_0 => ?_) (fun h53_0 => ?_)
    · refine zk_tableIn (off := 47) dL_change_53 100 (by rw [h53_0]; decide) (by rw [h53_0]; decide) (by rw [h53_0]; rfl) (by decide) ?_
      refine zk_iload_n dL_change_100 3 rfl 101 rfl ?_
      refine zk_bipush 18 dL_change_101 (by decide) 103 rfl ?_
      refine zk_ishr dL_change_103 104 rfl ?_
      refine zk_iconst 3 dL_change_104 (by decide) 105 rfl ?_
      refine zk_callS (st := []) (c_L_low E l (x2 >>> (18 &&& 31)) 3) dL_change_105 2 gL_change_L_low rfl rfl rfl cd_L_low ⟨Nat.le_of_ble_eq_true rfl, Nat.le_of_ble_eq_true rfl⟩ ⟨Nat.zero_le _, Nat.zero_le _⟩ _ (fun r105 => (zk_j [gX9 E b0 (v_state, v_history, v_program, v_forecast), gX9 E b1 (u_state, u_history, u_program, u_forecast)])) zk_pn (fun r105 => (List.Perm.refl _)) rfl rfl (Nat.le_of_ble_eq_true rfl) (fun r105 => [.int r105]) (fun _ => rfl) 108 rfl (fun r105 => ?_)
      refine zk_if_ne dL_change_108 115 (by decide) 111 rfl (fun _ => ?_) (fun _ => ?_)
      · refine zk_iconst 0 dL_change_111 (by decide) 112 rfl ?_
        refine zk_goto dL_change_112 143 (by decide) ?_
        refine zk_lv [1, 2, 3, 4, 0] rfl ?_
        exact J143   0 x3 x5_1 v_state v_history u_state u_history
      · refine zk_iconst 1 dL_change_115 (by decide) 116 rfl ?_
        refine zk_iload_n dL_change_116 3 rfl 117 rfl ?_
        refine zk_bipush 13 dL_change_117 (by decide) 119 rfl ?_
        refine zk_ishr dL_change_119 120 rfl ?_
        refine zk_iload_n dL_change_120 3 rfl 121 rfl ?_
        refine zk_bipush 21 dL_change_121 (by decide) 123 rfl ?_
        refine zk_ishr dL_change_123 124 rfl ?_
        refine zk_iconst 2 dL_change_124 (by decide) 125 rfl ?_
        refine zk_callS (st := [.int (x2 >>> (13 &&& 31)), .int 1]) (c_L_low E l (x2 >>> (21 &&& 31)) 2) dL_change_125 2 gL_change_L_low rfl rfl rfl cd_L_low ⟨Nat.le_of_ble_eq_true rfl, Nat.le_of_ble_eq_true rfl⟩ ⟨Nat.zero_le _, Nat.zero_le _⟩ _ (fun r125 => (zk_j [gX9 E b0 (v_state, v_history, v_program, v_forecast), gX9 E b1 (u_state, u_history, u_program, u_forecast)])) zk_pn (fun r125 => (List.Perm.refl _)) rfl rfl (Nat.le_of_ble_eq_true rfl) (fun r125 => [.int r125, .int (x2 >>> (13 &&& 31)), .int 1]) (fun _ => rfl) 128 rfl (fun r125 => ?_)
        refine zk_if_ne dL_change_128 136 (by decide) 131 rfl (fun _ => ?_) (fun _ => ?_)
        · refine zk_bipush 9 dL_change_131 (by decide) 133 rfl ?_
          refine zk_goto dL_change_133 139 (by decide) ?_
          refine zk_lv [1, 2, 3, 4, 0] rfl ?_
          exact J139   1 (x2 >>> (13 &&& 31)) 9 x3 x5_1 v_state v_history u_state u_history
        · refine zk_sipush 200 dL_change_136 (by decide) 139 rfl ?_
          refine zk_lv [1, 2, 3, 4, 0] rfl ?_
          exact J139   1 (x2 >>> (13 &&& 31)) 200 x3 x5_1 v_state v_history u_state u_history
    refine zk_if (c := r50 = 1) (fun h53_1 => ?_) (fun h53_1 => ?_)
    · refine zk_tableIn (off := 47) dL_change_53 100 (by rw [h53_1]; decide) (by rw [h53_1]; decide) (by rw [h53_1]; rfl) (by decide) ?_
      refine zk_iload_n dL_change_100 3 rfl 101 rfl ?_
      refine zk_bipush 18 dL_change_101 (by decide) 103 rfl ?_
      refine zk_ishr dL_change_103 104 rfl ?_
      refine zk_iconst 3 dL_change_104 (by decide) 105 rfl ?_
      refine zk_callS (st := []) (c_L_low E l (x2 >>> (18 &&& 31)) 3) dL_change_105 2 gL_change_L_low rfl rfl rfl cd_L_low ⟨Nat.le_of_ble_eq_true rfl, Nat.le_of_ble_eq_true rfl⟩ ⟨Nat.zero_le _, Nat.zero_le _⟩ _ (fun r105 => (zk_j [gX9 E b0 (v_state, v_history, v_program, v_forecast), gX9 E b1 (u_state, u_history, u_program, u_forecast)])) zk_pn (fun r105 => (List.Perm.refl _)) rfl rfl (Nat.le_of_ble_eq_true rfl) (fun r105 => [.int r105]) (fun _ => rfl) 108 rfl (fun r105 => ?_)
      refine zk_if_ne dL_change_108 115 (by decide) 111 rfl (fun _ => ?_) (fun _ => ?_)
      · refine zk_iconst 0 dL_change_111 (by decide) 112 rfl ?_
        refine zk_goto dL_change_112 143 (by decide) ?_
        refine zk_lv [1, 2, 3, 4, 0] rfl ?_
        exact J143   0 x3 x5_1 v_state v_history u_state u_history
      · refine zk_iconst 1 dL_change_115 (by decide) 116 rfl ?_
        refine zk_iload_n dL_change_116 3 rfl 117 rfl ?_
        refine zk_bipush 13 dL_change_117 (by decide) 119 rfl ?_
        refine zk_ishr dL_change_119 120 rfl ?_
        refine zk_iload_n dL_change_120 3 rfl 121 rfl ?_
        refine zk_bipush 21 dL_change_121 (by decide) 123 rfl ?_
        refine zk_ishr dL_change_123 124 rfl ?_
        refine zk_iconst 2 dL_change_124 (by decide) 125 rfl ?_
        refine zk_callS (st := [.int (x2 >>> (13 &&& 31)), .int 1]) (c_L_low E l (x2 >>> (21 &&& 31)) 2) dL_change_125 2 gL_change_L_low rfl rfl rfl cd_L_low ⟨Nat.le_of_ble_eq_true rfl, Nat.le_of_ble_eq_true rfl⟩ ⟨Nat.zero_le _, Nat.zero_le _⟩ _ (fun r125 => (zk_j [gX9 E b0 (v_state, v_history, v_program, v_forecast), gX9 E b1 (u_state, u_history, u_program, u_forecast)])) zk_pn (fun r125 => (List.Perm.refl _)) rfl rfl (Nat.le_of_ble_eq_true rfl) (fun r125 => [.int r125, .int (x2 >>> (13 &&& 31)), .int 1]) (fun _ => rfl) 128 rfl (fun r125 => ?_)
        refine zk_if_ne dL_change_128 136 (by decide) 131 rfl (fun _ => ?_) (fun _ => ?_)
        · refine zk_bipush 9 dL_change_131 (by decide) 133 rfl ?_
          refine zk_goto dL_change_133 139 (by decide) ?_
          refine zk_lv [1, 2, 3, 4, 0] rfl ?_
          exact J139   1 (x2 >>> (13 &&& 31)) 9 x3 x5_1 v_state v_history u_state u_history
        · refine zk_sipush 200 dL_change_136 (by decide) 139 rfl ?_
          refine zk_lv [1, 2, 3, 4, 0] rfl ?_
          exact J139   1 (x2 >>> (13 &&& 31)) 200 x3 x5_1 v_state v_history u_state u_history
    refine zk_if (c := r50 = 2) (fun h53_2 => ?_) (fun h53_2 => ?_)
    · refine zk_tableIn (off := 47) dL_change_53 100 (by rw [h53_2]; decide) (by rw [h53_2]; decide) (by rw [h53_2]; rfl) (by decide) ?_
      refine zk_iload_n dL_change_100 3 rfl 101 rfl ?_
      refine zk_bipush 18 dL_change_101 (by decide) 103 rfl ?_
      refine zk_ishr dL_change_103 104 rfl ?_
      refine zk_iconst 3 dL_change_104 (by decide) 105 rfl ?_
      refine zk_callS (st := []) (c_L_low E l (x2 >>> (18 &&& 31)) 3) dL_change_105 2 gL_change_L_low rfl rfl rfl cd_L_low ⟨Nat.le_of_ble_eq_true rfl, Nat.le_of_ble_eq_true rfl⟩ ⟨Nat.zero_le _, Nat.zero_le _⟩ _ (fun r105 => (zk_j [gX9 E b0 (v_state, v_history, v_program, v_forecast), gX9 E b1 (u_state, u_history, u_program, u_forecast)])) zk_pn (fun r105 => (List.Perm.refl _)) rfl rfl (Nat.le_of_ble_eq_true rfl) (fun r105 => [.int r105]) (fun _ => rfl) 108 rfl (fun r105 => ?_)
      refine zk_if_ne dL_change_108 115 (by decide) 111 rfl (fun _ => ?_) (fun _ => ?_)
      · refine zk_iconst 0 dL_change_111 (by decide) 112 rfl ?_
        refine zk_goto dL_change_112 143 (by decide) ?_
        refine zk_lv [1, 2, 3, 4, 0] rfl ?_
        exact J143   0 x3 x5_1 v_state v_history u_state u_history
      · refine zk_iconst 1 dL_change_115 (by decide) 116 rfl ?_
        refine zk_iload_n dL_change_116 3 rfl 117 rfl ?_
        refine zk_bipush 13 dL_change_117 (by decide) 119 rfl ?_
        refine zk_ishr dL_change_119 120 rfl ?_
        refine zk_iload_n dL_change_120 3 rfl 121 rfl ?_
        refine zk_bipush 21 dL_change_121 (by decide) 123 rfl ?_
        refine zk_ishr dL_change_123 124 rfl ?_
        refine zk_iconst 2 dL_change_124 (by decide) 125 rfl ?_
        refine zk_callS (st := [.int (x2 >>> (13 &&& 31)), .int 1]) (c_L_low E l (x2 >>> (21 &&& 31)) 2) dL_change_125 2 gL_change_L_low rfl rfl rfl cd_L_low ⟨Nat.le_of_ble_eq_true rfl, Nat.le_of_ble_eq_true rfl⟩ ⟨Nat.zero_le _, Nat.zero_le _⟩ _ (fun r125 => (zk_j [gX9 E b0 (v_state, v_history, v_program, v_forecast), gX9 E b1 (u_state, u_history, u_program, u_forecast)])) zk_pn (fun r125 => (List.Perm.refl _)) rfl rfl (Nat.le_of_ble_eq_true rfl) (fun r125 => [.int r125, .int (x2 >>> (13 &&& 31)), .int 1]) (fun _ => rfl) 128 rfl (fun r125 => ?_)
        refine zk_if_ne dL_change_128 136 (by decide) 131 rfl (fun _ => ?_) (fun _ => ?_)
        · refine zk_bipush 9 dL_change_131 (by decide) 133 rfl ?_
          refine zk_goto dL_change_133 139 (by decide) ?_
          refine zk_lv [1, 2, 3, 4, 0] rfl ?_
          exact J139   1 (x2 >>> (13 &&& 31)) 9 x3 x5_1 v_state v_history u_state u_history
        · refine zk_sipush 200 dL_change_136 (by decide) 139 rfl ?_
          refine zk_lv [1, 2, 3, 4, 0] rfl ?_
          exact J139   1 (x2 >>> (13 &&& 31)) 200 x3 x5_1 v_state v_history u_state u_history
    refine zk_if (c := r50 = 3) (fun h53_3 => ?_) (fun h53_3 => ?_)
    · refine zk_tableIn (off := 47) dL_change_53 100 (by rw [h53_3]; decide) (by rw [h53_3]; decide) (by rw [h53_3]; rfl) (by decide) ?_
      refine zk_iload_n dL_change_100 3 rfl 101 rfl ?_
      refine zk_bipush 18 dL_change_101 (by decide) 103 rfl ?_
      refine zk_ishr dL_change_103 104 rfl ?_
      refine zk_iconst 3 dL_change_104 (by decide) 105 rfl ?_
      refine zk_callS (st := []) (c_L_low E l (x2 >>> (18 &&& 31)) 3) dL_change_105 2 gL_change_L_low rfl rfl rfl cd_L_low ⟨Nat.le_of_ble_eq_true rfl, Nat.le_of_ble_eq_true rfl⟩ ⟨Nat.zero_le _, Nat.zero_le _⟩ _ (fun r105 => (zk_j [gX9 E b0 (v_state, v_history, v_program, v_forecast), gX9 E b1 (u_state, u_history, u_program, u_forecast)])) zk_pn (fun r105 => (List.Perm.refl _)) rfl rfl (Nat.le_of_ble_eq_true rfl) (fun r105 => [.int r105]) (fun _ => rfl) 108 rfl (fun r105 => ?_)
      refine zk_if_ne dL_change_108 115 (by decide) 111 rfl (fun _ => ?_) (fun _ => ?_)
      · refine zk_iconst 0 dL_change_111 (by decide) 112 rfl ?_
        refine zk_goto dL_change_112 143 (by decide) ?_
        refine zk_lv [1, 2, 3, 4, 0] rfl ?_
        exact J143   0 x3 x5_1 v_state v_history u_state u_history
      · refine zk_iconst 1 dL_change_115 (by decide) 116 rfl ?_
        refine zk_iload_n dL_change_116 3 rfl 117 rfl ?_
        refine zk_bipush 13 dL_change_117 (by decide) 119 rfl ?_
        refine zk_ishr dL_change_119 120 rfl ?_
        refine zk_iload_n dL_change_120 3 rfl 121 rfl ?_
        refine zk_bipush 21 dL_change_121 (by decide) 123 rfl ?_
        refine zk_ishr dL_change_123 124 rfl ?_
        refine zk_iconst 2 dL_change_124 (by decide) 125 rfl ?_
        refine zk_callS (st := [.int (x2 >>> (13 &&& 31)), .int 1]) (c_L_low E l (x2 >>> (21 &&& 31)) 2) dL_change_125 2 gL_change_L_low rfl rfl rfl cd_L_low ⟨Nat.le_of_ble_eq_true rfl, Nat.le_of_ble_eq_true rfl⟩ ⟨Nat.zero_le _, Nat.zero_le _⟩ _ (fun r125 => (zk_j [gX9 E b0 (v_state, v_history, v_program, v_forecast), gX9 E b1 (u_state, u_history, u_program, u_forecast)])) zk_pn (fun r125 => (List.Perm.refl _)) rfl rfl (Nat.le_of_ble_eq_true rfl) (fun r125 => [.int r125, .int (x2 >>> (13 &&& 31)), .int 1]) (fun _ => rfl) 128 rfl (fun r125 => ?_)
        refine zk_if_ne dL_change_128 136 (by decide) 131 rfl (fun _ => ?_) (fun _ => ?_)
        · refine zk_bipush 9 dL_change_131 (by decide) 133 rfl ?_
          refine zk_goto dL_change_133 139 (by decide) ?_
          refine zk_lv [1, 2, 3, 4, 0] rfl ?_
          exact J139   1 (x2 >>> (13 &&& 31)) 9 x3 x5_1 v_state v_history u_state u_history
        · refine zk_sipush 200 dL_change_136 (by decide) 139 rfl ?_
          refine zk_lv [1, 2, 3, 4, 0] rfl ?_
          exact J139   1 (x2 >>> (13 &&& 31)) 200 x3 x5_1 v_state v_history u_state u_history
    refine zk_if (c := r50 = 4) (fun h53_4 => ?_) (fun h53_4 => ?_)
    · refine zk_tableIn (off := 219) dL_change_53 272 (by rw [h53_4]; decide) (by rw [h53_4]; decide) (by rw [h53_4]; rfl) (by decide) ?_
      refine zk_iload dL_change_272 5 rfl 274 rfl ?_
      refine zk_iload_n dL_change_274 4 rfl 275 rfl ?_
      refine zk_icmp_ge dL_change_275 288 (by decide) 278 rfl (fun _ => ?_) (fun _ => ?_)
      · refine zk_bipush 9 dL_change_288 (by decide) 290 rfl ?_
        refine zk_lv [1, 2, 5] rfl ?_
        exact J290   9 x4 v_state v_history u_state u_history
      · refine zk_aload_n dL_change_278 1 rfl 279 rfl ?_
        refine zk_iload dL_change_279 5 rfl 281 rfl ?_
        refine zk_iconst 0 dL_change_281 (by decide) 282 rfl ?_
        refine zk_callV (ci := 9) (st := []) (c_X9_promise E l b0 (v_state, v_history, v_program, v_forecast) x4 0) dL_change_282 2 gL_change_X9_promise rfl rfl rfl cd_X9_promise ⟨Nat.le_of_ble_eq_true rfl, Nat.le_of_ble_eq_true rfl⟩ ⟨Nat.zero_le _, Nat.zero_le _⟩ _ (fun r282 => (zk_j [gX9 E b0 (v_state, v_history, v_program, v_forecast), gX9 E b1 (u_state, u_history, u_program, u_forecast)])) (zk_p1 (gs := [gX9 E b0 (v_state, v_history, v_program, v_forecast), gX9 E b1 (u_state, u_history, u_program, u_forecast)]) (i := 0) rfl) (fun r282 => (zk_q1 (gs := [gX9 E b0 (v_state, v_history, v_program, v_forecast), gX9 E b1 (u_state, u_history, u_program, u_forecast)]) (i := 0) rfl rfl)) rfl rfl rfl rfl (Nat.le_of_ble_eq_true rfl) (fun r282 => [.int r282]) (fun _ => rfl) 285 rfl (fun r282 => ?_)
        refine zk_goto dL_change_285 290 (by decide) ?_
        refine zk_lv [1, 2, 5] rfl ?_
        exact J290   r282 x4 v_state v_history u_state u_history
    refine zk_if (c := r50 = 5) (fun h53_5 => ?_) (fun h53_5 => ?_)
    · refine zk_tableIn (off := 302) dL_change_53 355 (by rw [h53_5]; decide) (by rw [h53_5]; decide) (by rw [h53_5]; rfl) (by decide) ?_
      refine zk_iload dL_change_355 5 rfl 357 rfl ?_
      refine zk_iload_n dL_change_357 4 rfl 358 rfl ?_
      refine zk_icmp_ge dL_change_358 371 (by decide) 361 rfl (fun _ => ?_) (fun _ => ?_)
      · refine zk_bipush 9 dL_change_371 (by decide) 373 rfl ?_
        refine zk_lv [1, 2, 5, 0] rfl ?_
        exact J373   9 x4 x5_1 v_state v_history u_state u_history
      · refine zk_aload_n dL_change_361 1 rfl 362 rfl ?_
        refine zk_iload dL_change_362 5 rfl 364 rfl ?_
        refine zk_iconst 0 dL_change_364 (by decide) 365 rfl ?_
        refine zk_callV (ci := 9) (st := []) (c_X9_promise E l b0 (v_state, v_history, v_program, v_forecast) x4 0) dL_change_365 2 gL_change_X9_promise rfl rfl rfl cd_X9_promise ⟨Nat.le_of_ble_eq_true rfl, Nat.le_of_ble_eq_true rfl⟩ ⟨Nat.zero_le _, Nat.zero_le _⟩ _ (fun r365 => (zk_j [gX9 E b0 (v_state, v_history, v_program, v_forecast), gX9 E b1 (u_state, u_history, u_program, u_forecast)])) (zk_p1 (gs := [gX9 E b0 (v_state, v_history, v_program, v_forecast), gX9 E b1 (u_state, u_history, u_program, u_forecast)]) (i := 0) rfl) (fun r365 => (zk_q1 (gs := [gX9 E b0 (v_state, v_history, v_program, v_forecast), gX9 E b1 (u_state, u_history, u_program, u_forecast)]) (i := 0) rfl rfl)) rfl rfl rfl rfl (Nat.le_of_ble_eq_true rfl) (fun r365 => [.int r365]) (fun _ => rfl) 368 rfl (fun r365 => ?_)
        refine zk_goto dL_change_368 373 (by decide) ?_
        refine zk_lv [1, 2, 5, 0] rfl ?_
        exact J373   r365 x4 x5_1 v_state v_history u_state u_history
    refine zk_if (c := r50 = 6) (fun h53_6 => ?_) (fun h53_6 => ?_)
    · refine zk_tableIn (off := 397) dL_change_53 450 (by rw [h53_6]; decide) (by rw [h53_6]; decide) (by rw [h53_6]; rfl) (by decide) ?_
      refine zk_aload_n dL_change_450 1 rfl 451 rfl ?_
      refine zk_bipush 14 dL_change_451 (by decide) 453 rfl ?_
      refine zk_callV (ci := 9) (st := []) (c_X9_count E l b0 (v_state, v_history, v_program, v_forecast) 14) dL_change_453 1 gL_change_X9_count rfl rfl rfl cd_X9_count ⟨Nat.le_of_ble_eq_true rfl, Nat.le_of_ble_eq_true rfl⟩ ⟨Nat.zero_le _, Nat.zero_le _⟩ _ (fun r453 => (zk_j [gX9 E b0 (v_state, v_history, v_program, v_forecast), gX9 E b1 (u_state, u_history, u_program, u_forecast)])) (zk_p1 (gs := [gX9 E b0 (v_state, v_history, v_program, v_forecast), gX9 E b1 (u_state, u_history, u_program, u_forecast)]) (i := 0) rfl) (fun r453 => (zk_q1 (gs := [gX9 E b0 (v_state, v_history, v_program, v_forecast), gX9 E b1 (u_state, u_history, u_program, u_forecast)]) (i := 0) rfl rfl)) rfl rfl rfl rfl (Nat.le_of_ble_eq_true rfl) (fun r453 => [.int r453]) (fun _ => rfl) 456 rfl (fun r453 => ?_)
      refine zk_istore [(6, .int r453), (5, .int x5_1), (0, .ref b0.1), (1, .ref b1.1), (2, .int x2), (3, .int x3), (4, .int x4)] dL_change_456 (by decide) rfl 458 rfl ?_
      refine zk_iconst 1 dL_change_458 (by decide) 459 rfl ?_
      refine zk_iload_n dL_change_459 4 rfl 460 rfl ?_
      refine zk_bipush 8 dL_change_460 (by decide) 462 rfl ?_
      refine zk_ishr dL_change_462 463 rfl ?_
      refine zk_bipush 12 dL_change_463 (by decide) 465 rfl ?_
      refine zk_callS (st := [.int 1]) (c_L_low E l (x2 >>> (8 &&& 31)) 12) dL_change_465 2 gL_change_L_low rfl rfl rfl cd_L_low ⟨Nat.le_of_ble_eq_true rfl, Nat.le_of_ble_eq_true rfl⟩ ⟨Nat.zero_le _, Nat.zero_le _⟩ _ (fun r465 => (zk_j [gX9 E b0 (v_state, v_history, v_program, v_forecast), gX9 E b1 (u_state, u_history, u_program, u_forecast)])) zk_pn (fun r465 => (List.Perm.refl _)) rfl rfl (Nat.le_of_ble_eq_true rfl) (fun r465 => [.int r465, .int 1]) (fun _ => rfl) 468 rfl (fun r465 => ?_)
      refine zk_iadd dL_change_468 469 rfl ?_
      refine zk_nm (fun x7_2 => ?_)
      refine zk_istore [(7, .int x7_2), (6, .int r453), (5, .int x5_1), (0, .ref b0.1), (1, .ref b1.1), (2, .int x2), (3, .int x3), (4, .int x4)] dL_change_469 (by decide) rfl 471 rfl ?_
      refine zk_aload_n dL_change_471 3 rfl 472 rfl ?_
      refine zk_iconst 0 dL_change_472 (by decide) 473 rfl ?_
      refine zk_iload dL_change_473 0 rfl 475 rfl ?_
      refine zk_callV (ci := 9) (st := []) (c_X9_set E l b0 (v_state, v_history, v_program, v_forecast) 0 x7_2) dL_change_475 2 gL_change_X9_set rfl rfl rfl cd_X9_set ⟨Nat.le_of_ble_eq_true rfl, Nat.le_of_ble_eq_true rfl⟩ ⟨Nat.zero_le _, Nat.zero_le _⟩ _ (fun r475 => (zk_j [gX9 E b0 (r475.2.1, r475.2.2, v_program, v_forecast), gX9 E b1 (u_state, u_history, u_program, u_forecast)])) (zk_p1 (gs := [gX9 E b0 (v_state, v_history, v_program, v_forecast), gX9 E b1 (u_state, u_history, u_program, u_forecast)]) (i := 0) rfl) (fun r475 => (zk_q1 (gs := [gX9 E b0 (v_state, v_history, v_program, v_forecast), gX9 E b1 (u_state, u_history, u_program, u_forecast)]) (i := 0) rfl rfl)) rfl rfl rfl rfl (Nat.le_of_ble_eq_true rfl) (fun r475 => [.int r475.1]) (fun _ => rfl) 478 rfl (fun r475 => ?_)
      refine zk_iload dL_change_478 1 rfl 480 rfl ?_
      refine zk_icmp_ne dL_change_480 510 (by decide) 483 rfl (fun _ => ?_) (fun _ => ?_)
      · refine zk_aload_n dL_change_483 4 rfl 484 rfl ?_
        refine zk_iconst 0 dL_change_484 (by decide) 485 rfl ?_
        refine zk_iload dL_change_485 0 rfl 487 rfl ?_
        refine zk_callV (ci := 9) (st := []) (c_X9_set E l b1 (u_state, u_history, u_program, u_forecast) 0 x7_2) dL_change_487 2 gL_change_X9_set rfl rfl rfl cd_X9_set ⟨Nat.le_of_ble_eq_true rfl, Nat.le_of_ble_eq_true rfl⟩ ⟨Nat.zero_le _, Nat.zero_le _⟩ _ (fun r487 => (zk_j [gX9 E b0 (r475.2.1, r475.2.2, v_program, v_forecast), gX9 E b1 (r487.2.1, r487.2.2, u_program, u_forecast)])) (zk_p1 (gs := [gX9 E b0 (r475.2.1, r475.2.2, v_program, v_forecast), gX9 E b1 (u_state, u_history, u_program, u_forecast)]) (i := 1) rfl) (fun r487 => (zk_q1 (gs := [gX9 E b0 (r475.2.1, r475.2.2, v_program, v_forecast), gX9 E b1 (u_state, u_history, u_program, u_forecast)]) (i := 1) rfl rfl)) rfl rfl rfl rfl (Nat.le_of_ble_eq_true rfl) (fun r487 => [.int r487.1]) (fun _ => rfl) 490 rfl (fun r487 => ?_)
        refine zk_iload dL_change_490 1 rfl 492 rfl ?_
        refine zk_icmp_ne dL_change_492 510 (by decide) 495 rfl (fun _ => ?_) (fun _ => ?_)
        · refine zk_aload_n dL_change_495 3 rfl 496 rfl ?_
          refine zk_bipush 14 dL_change_496 (by decide) 498 rfl ?_
          refine zk_callV (ci := 9) (st := []) (c_X9_count E l b0 (r475.2.1, r475.2.2, v_program, v_forecast) 14) dL_change_498 1 gL_change_X9_count rfl rfl rfl cd_X9_count ⟨Nat.le_of_ble_eq_true rfl, Nat.le_of_ble_eq_true rfl⟩ ⟨Nat.zero_le _, Nat.zero_le _⟩ _ (fun r498 => (zk_j [gX9 E b0 (r475.2.1, r475.2.2, v_program, v_forecast), gX9 E b1 (r487.2.1, r487.2.2, u_program, u_forecast)])) (zk_p1 (gs := [gX9 E b0 (r475.2.1, r475.2.2, v_program, v_forecast), gX9 E b1 (r487.2.1, r487.2.2, u_program, u_forecast)]) (i := 0) rfl) (fun r498 => (zk_q1 (gs := [gX9 E b0 (r475.2.1, r475.2.2, v_program, v_forecast), gX9 E b1 (r487.2.1, r487.2.2, u_program, u_forecast)]) (i := 0) rfl rfl)) rfl rfl rfl rfl (Nat.le_of_ble_eq_true rfl) (fun r498 => [.int r498]) (fun _ => rfl) 501 rfl (fun r498 => ?_)
          refine zk_iload dL_change_501 0 rfl 503 rfl ?_
          refine zk_icmp_ne dL_change_503 510 (by decide) 506 rfl (fun _ => ?_) (fun _ => ?_)
          · refine zk_iconst 1 dL_change_506 (by decide) 507 rfl ?_
            refine zk_goto dL_change_507 511 (by decide) ?_
            exact zk_zretL hQ dL_change_511 (Or.inr rfl) rfl rfl
          · refine zk_iconst 0 dL_change_510 (by decide) 511 rfl ?_
            exact zk_zretL hQ dL_change_511 (Or.inl rfl) rfl rfl
        · refine zk_iconst 0 dL_change_510 (by decide) 511 rfl ?_
          exact zk_zretL hQ dL_change_511 (Or.inl rfl) rfl rfl
      · refine zk_iconst 0 dL_change_510 (by decide) 511 rfl ?_
        exact zk_zretL hQ dL_change_511 (Or.inl rfl) rfl rfl
    refine zk_if (c := r50 = 7) (fun h53_7 => ?_) (fun h53_7 => ?_)
    · refine zk_tableIn (off := 459) dL_change_53 512 (by rw [h53_7]; decide) (by rw [h53_7]; decide) (by rw [h53_7]; rfl) (by decide) ?_
      refine zk_iconst 1 dL_change_512 (by decide) 513 rfl ?_
      refine zk_iload_n dL_change_513 3 rfl 514 rfl ?_
      refine zk_bipush 6 dL_change_514 (by decide) 516 rfl ?_
      refine zk_ishr dL_change_516 517 rfl ?_
      refine zk_iconst 2 dL_change_517 (by decide) 518 rfl ?_
      refine zk_callS (st := [.int 1]) (c_L_low E l (x2 >>> (6 &&& 31)) 2) dL_change_518 2 gL_change_L_low rfl rfl rfl cd_L_low ⟨Nat.le_of_ble_eq_true rfl, Nat.le_of_ble_eq_true rfl⟩ ⟨Nat.zero_le _, Nat.zero_le _⟩ _ (fun r518 => (zk_j [gX9 E b0 (v_state, v_history, v_program, v_forecast), gX9 E b1 (u_state, u_history, u_program, u_forecast)])) zk_pn (fun r518 => (List.Perm.refl _)) rfl rfl (Nat.le_of_ble_eq_true rfl) (fun r518 => [.int r518, .int 1]) (fun _ => rfl) 521 rfl (fun r518 => ?_)
      refine zk_iadd dL_change_521 522 rfl ?_
      refine zk_nm (fun x6_3 => ?_)
      refine zk_istore [(6, .int x6_3), (5, .int x5_1), (0, .ref b0.1), (1, .ref b1.1), (2, .int x2), (3, .int x3), (4, .int x4)] dL_change_522 (by decide) rfl 524 rfl ?_
      refine zk_iload dL_change_524 0 rfl 526 rfl ?_
      refine zk_iconst 1 dL_change_526 (by decide) 527 rfl ?_
      refine zk_icmp_ne dL_change_527 542 (by decide) 530 rfl (fun _ => ?_) (fun _ => ?_)
      · refine zk_iload_n dL_change_530 4 rfl 531 rfl ?_
        refine zk_bipush 8 dL_change_531 (by decide) 533 rfl ?_
        refine zk_ishr dL_change_533 534 rfl ?_
        refine zk_bipush 41 dL_change_534 (by decide) 536 rfl ?_
        refine zk_callS (st := []) (c_L_low E l (x2 >>> (8 &&& 31)) 41) dL_change_536 2 gL_change_L_low rfl rfl rfl cd_L_low ⟨Nat.le_of_ble_eq_true rfl, Nat.le_of_ble_eq_true rfl⟩ ⟨Nat.zero_le _, Nat.zero_le _⟩ _ (fun r536 => (zk_j [gX9 E b0 (v_state, v_history, v_program, v_forecast), gX9 E b1 (u_state, u_history, u_program, u_forecast)])) zk_pn (fun r536 => (List.Perm.refl _)) rfl rfl (Nat.le_of_ble_eq_true rfl) (fun r536 => [.int r536]) (fun _ => rfl) 539 rfl (fun r536 => ?_)
        refine zk_goto dL_change_539 550 (by decide) ?_
        refine zk_lv [2, 3, 0] rfl ?_
        exact J550   r536 x6_3 v_state v_history u_state u_history
      · refine zk_iload_n dL_change_542 4 rfl 543 rfl ?_
        refine zk_bipush 8 dL_change_543 (by decide) 545 rfl ?_
        refine zk_ishr dL_change_545 546 rfl ?_
        refine zk_iconst 2 dL_change_546 (by decide) 547 rfl ?_
        refine zk_callS (st := []) (c_L_low E l (x2 >>> (8 &&& 31)) 2) dL_change_547 2 gL_change_L_low rfl rfl rfl cd_L_low ⟨Nat.le_of_ble_eq_true rfl, Nat.le_of_ble_eq_true rfl⟩ ⟨Nat.zero_le _, Nat.zero_le _⟩ _ (fun r547 => (zk_j [gX9 E b0 (v_state, v_history, v_program, v_forecast), gX9 E b1 (u_state, u_history, u_program, u_forecast)])) zk_pn (fun r547 => (List.Perm.refl _)) rfl rfl (Nat.le_of_ble_eq_true rfl) (fun r547 => [.int r547]) (fun _ => rfl) 550 rfl (fun r547 => ?_)
        refine zk_lv [2, 3, 0] rfl ?_
        exact J550   r547 x6_3 v_state v_history u_state u_history
    refine zk_tableOut dL_change_53 595 (by have e0 : r50.toInt ≠ 0 := fun z => h53_0 (Int32.toInt_inj.mp z); have e1 : r50.toInt ≠ 1 := fun z => h53_1 (Int32.toInt_inj.mp z); have e2 : r50.toInt ≠ 2 := fun z => h53_2 (Int32.toInt_inj.mp z); have e3 : r50.toInt ≠ 3 := fun z => h53_3 (Int32.toInt_inj.mp z); have e4 : r50.toInt ≠ 4 := fun z => h53_4 (Int32.toInt_inj.mp z); have e5 : r50.toInt ≠ 5 := fun z => h53_5 (Int32.toInt_inj.mp z); have e6 : r50.toInt ≠ 6 := fun z => h53_6 (Int32.toInt_inj.mp z); have e7 : r50.toInt ≠ 7 := fun z => h53_7 (Int32.toInt_inj.mp z); omega) (by decide) ?_
    refine zk_aload_n dL_change_595 1 rfl 596 rfl ?_
    refine zk_iconst 4 dL_change_596 (by decide) 597 rfl ?_
    refine zk_callV (ci := 9) (st := []) (c_X9_count E l b0 (v_state, v_history, v_program, v_forecast) 4) dL_change_597 1 gL_change_X9_count rfl rfl rfl cd_X9_count ⟨Nat.le_of_ble_eq_true rfl, Nat.le_of_ble_eq_true rfl⟩ ⟨Nat.zero_le _, Nat.zero_le _⟩ _ (fun r597 => (zk_j [gX9 E b0 (v_state, v_history, v_program, v_forecast), gX9 E b1 (u_state, u_history, u_program, u_forecast)])) (zk_p1 (gs := [gX9 E b0 (v_state, v_history, v_program, v_forecast), gX9 E b1 (u_state, u_history, u_program, u_forecast)]) (i := 0) rfl) (fun r597 => (zk_q1 (gs := [gX9 E b0 (v_state, v_history, v_program, v_forecast), gX9 E b1 (u_state, u_history, u_program, u_forecast)]) (i := 0) rfl rfl)) rfl rfl rfl rfl (Nat.le_of_ble_eq_true rfl) (fun r597 => [.int r597]) (fun _ => rfl) 600 rfl (fun r597 => ?_)
    refine zk_istore [(6, .int r597), (5, .int x5_1), (0, .ref b0.1), (1, .ref b1.1), (2, .int x2), (3, .int x3), (4, .int x4)] dL_change_600 (by decide) rfl 602 rfl ?_
    refine zk_aload_n dL_change_602 2 rfl 603 rfl ?_
    refine zk_callV (ci := 9) (st := []) (c_X9_sweep E l b0 (v_state, v_history, v_program, v_forecast)) dL_change_603 0 gL_change_X9_sweep rfl rfl rfl cd_X9_sweep ⟨Nat.le_of_ble_eq_true rfl, Nat.le_of_ble_eq_true rfl⟩ ⟨Nat.zero_le _, Nat.zero_le _⟩ _ (fun r603 => (zk_j [gX9 E b0 (r603.2.1, r603.2.2, v_program, v_forecast), gX9 E b1 (u_state, u_history, u_program, u_forecast)])) (zk_p1 (gs := [gX9 E b0 (v_state, v_history, v_program, v_forecast), gX9 E b1 (u_state, u_history, u_program, u_forecast)]) (i := 0) rfl) (fun r603 => (zk_q1 (gs := [gX9 E b0 (v_state, v_history, v_program, v_forecast), gX9 E b1 (u_state, u_history, u_program, u_forecast)]) (i := 0) rfl rfl)) rfl rfl rfl rfl (Nat.le_of_ble_eq_true rfl) (fun r603 => [.int r603.1]) (fun _ => rfl) 606 rfl (fun r603 => ?_)
    refine zk_iload dL_change_606 0 rfl 608 rfl ?_
    refine zk_icmp_ne dL_change_608 632 (by decide) 611 rfl (fun _ => ?_) (fun _ => ?_)
    · refine zk_aload_n dL_change_611 3 rfl 612 rfl ?_
      refine zk_callV (ci := 9) (st := []) (c_X9_sweep E l b1 (u_state, u_history, u_program, u_forecast)) dL_change_612 0 gL_change_X9_sweep rfl rfl rfl cd_X9_sweep ⟨Nat.le_of_ble_eq_true rfl, Nat.le_of_ble_eq_true rfl⟩ ⟨Nat.zero_le _, Nat.zero_le _⟩ _ (fun r612 => (zk_j [gX9 E b0 (r603.2.1, r603.2.2, v_program, v_forecast), gX9 E b1 (r612.2.1, r612.2.2, u_program, u_forecast)])) (zk_p1 (gs := [gX9 E b0 (r603.2.1, r603.2.2, v_program, v_forecast), gX9 E b1 (u_state, u_history, u_program, u_forecast)]) (i := 1) rfl) (fun r612 => (zk_q1 (gs := [gX9 E b0 (r603.2.1, r603.2.2, v_program, v_forecast), gX9 E b1 (u_state, u_history, u_program, u_forecast)]) (i := 1) rfl rfl)) rfl rfl rfl rfl (Nat.le_of_ble_eq_true rfl) (fun r612 => [.int r612.1]) (fun _ => rfl) 615 rfl (fun r612 => ?_)
      refine zk_iload dL_change_615 0 rfl 617 rfl ?_
      refine zk_icmp_ne dL_change_617 632 (by decide) 620 rfl (fun _ => ?_) (fun _ => ?_)
      · refine zk_aload_n dL_change_620 2 rfl 621 rfl ?_
        refine zk_iconst 4 dL_change_621 (by decide) 622 rfl ?_
        refine zk_callV (ci := 9) (st := []) (c_X9_count E l b0 (r603.2.1, r603.2.2, v_program, v_forecast) 4) dL_change_622 1 gL_change_X9_count rfl rfl rfl cd_X9_count ⟨Nat.le_of_ble_eq_true rfl, Nat.le_of_ble_eq_true rfl⟩ ⟨Nat.zero_le _, Nat.zero_le _⟩ _ (fun r622 => (zk_j [gX9 E b0 (r603.2.1, r603.2.2, v_program, v_forecast), gX9 E b1 (r612.2.1, r612.2.2, u_program, u_forecast)])) (zk_p1 (gs := [gX9 E b0 (r603.2.1, r603.2.2, v_program, v_forecast), gX9 E b1 (r612.2.1, r612.2.2, u_program, u_forecast)]) (i := 0) rfl) (fun r622 => (zk_q1 (gs := [gX9 E b0 (r603.2.1, r603.2.2, v_program, v_forecast), gX9 E b1 (r612.2.1, r612.2.2, u_program, u_forecast)]) (i := 0) rfl rfl)) rfl rfl rfl rfl (Nat.le_of_ble_eq_true rfl) (fun r622 => [.int r622]) (fun _ => rfl) 625 rfl (fun r622 => ?_)
        refine zk_if_ne dL_change_625 632 (by decide) 628 rfl (fun _ => ?_) (fun _ => ?_)
        · refine zk_iconst 1 dL_change_628 (by decide) 629 rfl ?_
          refine zk_goto dL_change_629 633 (by decide) ?_
          exact zk_zretL hQ dL_change_633 (Or.inr rfl) rfl rfl
        · refine zk_iconst 0 dL_change_632 (by decide) 633 rfl ?_
          exact zk_zretL hQ dL_change_633 (Or.inl rfl) rfl rfl
      · refine zk_iconst 0 dL_change_632 (by decide) 633 rfl ?_
        exact zk_zretL hQ dL_change_633 (Or.inl rfl) rfl rfl
    · refine zk_iconst 0 dL_change_632 (by decide) 633 rfl ?_
      exact zk_zretL hQ dL_change_633 (Or.inl rfl) rfl rfl
  refine zk_eqv (w1 := (zk_j [gX9 E b0 (v_state, v_history, v_program, v_forecast), gX9 E b1 (u_state, u_history, u_program, u_forecast)])) (lv1 := [(0, .ref b0.1), (1, .ref b1.1), (2, .int x2)]) (st1 := []) (o1 := f_L_change x2 v_state v_history v_program u_state u_history) rfl rfl rfl rfl ?_
  unfold f_L_change
  refine zk_aload_n dL_change_0 0 rfl 1 rfl ?_
  refine zk_iconst 1 dL_change_1 (by decide) 2 rfl ?_
  refine zk_callV (ci := 9) (st := []) (c_X9_count E l b0 (v_state, v_history, v_program, v_forecast) 1) dL_change_2 1 gL_change_X9_count rfl rfl rfl cd_X9_count ⟨Nat.le_of_ble_eq_true rfl, Nat.le_of_ble_eq_true rfl⟩ ⟨Nat.zero_le _, Nat.zero_le _⟩ _ (fun r2 => (zk_j [gX9 E b0 (v_state, v_history, v_program, v_forecast), gX9 E b1 (u_state, u_history, u_program, u_forecast)])) (zk_p1 (gs := [gX9 E b0 (v_state, v_history, v_program, v_forecast), gX9 E b1 (u_state, u_history, u_program, u_forecast)]) (i := 0) rfl) (fun r2 => (zk_q1 (gs := [gX9 E b0 (v_state, v_history, v_program, v_forecast), gX9 E b1 (u_state, u_history, u_program, u_forecast)]) (i := 0) rfl rfl)) rfl rfl rfl rfl (Nat.le_of_ble_eq_true rfl) (fun r2 => [.int r2]) (fun _ => rfl) 5 rfl (fun r2 => ?_)
  refine zk_istore_n [(3, .int r2), (0, .ref b0.1), (1, .ref b1.1), (2, .int x2)] dL_change_5 (by decide) rfl 6 rfl ?_
  refine zk_iload_n dL_change_6 3 rfl 7 rfl ?_
  refine zk_iconst 4 dL_change_7 (by decide) 8 rfl ?_
  refine zk_ishr dL_change_8 9 rfl ?_
  refine zk_iload_n dL_change_9 0 rfl 10 rfl ?_
  refine zk_iconst 1 dL_change_10 (by decide) 11 rfl ?_
  refine zk_iadd dL_change_11 12 rfl ?_
  refine zk_callS (st := []) (c_L_low E l (x2 >>> (4 &&& 31)) (r2 + 1)) dL_change_12 2 gL_change_L_low rfl rfl rfl cd_L_low ⟨Nat.le_of_ble_eq_true rfl, Nat.le_of_ble_eq_true rfl⟩ ⟨Nat.zero_le _, Nat.zero_le _⟩ _ (fun r12 => (zk_j [gX9 E b0 (v_state, v_history, v_program, v_forecast), gX9 E b1 (u_state, u_history, u_program, u_forecast)])) zk_pn (fun r12 => (List.Perm.refl _)) rfl rfl (Nat.le_of_ble_eq_true rfl) (fun r12 => [.int r12]) (fun _ => rfl) 15 rfl (fun r12 => ?_)
  refine zk_istore [(4, .int r12), (3, .int r2), (0, .ref b0.1), (1, .ref b1.1), (2, .int x2)] dL_change_15 (by decide) rfl 17 rfl ?_
  refine zk_iconst 1 dL_change_17 (by decide) 18 rfl ?_
  refine zk_iload_n dL_change_18 4 rfl 19 rfl ?_
  refine zk_bipush 8 dL_change_19 (by decide) 21 rfl ?_
  refine zk_ishr dL_change_21 22 rfl ?_
  refine zk_iload_n dL_change_22 4 rfl 23 rfl ?_
  refine zk_bipush 20 dL_change_23 (by decide) 25 rfl ?_
  refine zk_ishr dL_change_25 26 rfl ?_
  refine zk_iconst 2 dL_change_26 (by decide) 27 rfl ?_
  refine zk_callS (st := [.int (x2 >>> (8 &&& 31)), .int 1]) (c_L_low E l (x2 >>> (20 &&& 31)) 2) dL_change_27 2 gL_change_L_low rfl rfl rfl cd_L_low ⟨Nat.le_of_ble_eq_true rfl, Nat.le_of_ble_eq_true rfl⟩ ⟨Nat.zero_le _, Nat.zero_le _⟩ _ (fun r27 => (zk_j [gX9 E b0 (v_state, v_history, v_program, v_forecast), gX9 E b1 (u_state, u_history, u_program, u_forecast)])) zk_pn (fun r27 => (List.Perm.refl _)) rfl rfl (Nat.le_of_ble_eq_true rfl) (fun r27 => [.int r27, .int (x2 >>> (8 &&& 31)), .int 1]) (fun _ => rfl) 30 rfl (fun r27 => ?_)
  refine zk_if_ne dL_change_30 38 (by decide) 33 rfl (fun _ => ?_) (fun _ => ?_)
  · refine zk_bipush 12 dL_change_33 (by decide) 35 rfl ?_
    refine zk_goto dL_change_35 41 (by decide) ?_
    refine zk_lv [2, 3, 4, 1, 0] rfl ?_
    exact J41   1 (x2 >>> (8 &&& 31)) 12 r2 r12 v_state v_history u_state u_history
  · refine zk_sipush 511 dL_change_38 (by decide) 41 rfl ?_
    refine zk_lv [2, 3, 4, 1, 0] rfl ?_
    exact J41   1 (x2 >>> (8 &&& 31)) 511 r2 r12 v_state v_history u_state u_history
def f_L_pass_353 (x4 : Int32) (x5 : Int32) (x6 : Int32) (x7 : Int32) (x8 : Int32) (x9 : Int32) (x10 : Int32) (v_state : VX6) (v_history : VX2) (v_forecast : VX1) (u_state : VX6) (u_history : VX2) (w_row : (Nat → Int32)) (k314 : Int32 → Option (Int32 × VX6 × VX2 × VX1 × VX6 × VX2 × (Nat → Int32))) (x11 : Int32) : Option (Int32 × VX6 × VX2 × VX1 × VX6 × VX2 × (Nat → Int32)) := k314 (x11 + 1)
def F_L_pass_314 (x2 : Int32) (u_program : VX4) (x4 : Int32) (x5 : Int32) (x6 : Int32) (x7 : Int32) (x8 : Int32) (x9 : Int32) (x10 : Int32) (v_state : VX6) (v_history : VX2) (v_forecast : VX1) (u_state : VX6) (u_history : VX2) (w_row : (Nat → Int32)) (k314 : Int32 → Option (Int32 × VX6 × VX2 × VX1 × VX6 × VX2 × (Nat → Int32))) : Int32 → Option (Int32 × VX6 × VX2 × VX1 × VX6 × VX2 × (Nat → Int32)) := fun x11 => if x7 ≤ x11 then if x9 = x4 then if x10 = x6 then (f_X9_count 6 u_state u_history u_program).bind fun r376 => if (r376 - x8) = x5 then (f_X9_pass x2 v_state v_history).bind fun r389 => if r389.1 = x4 then some (1, r389.2.1, r389.2.2, v_forecast, u_state, u_history, w_row) else some (0, r389.2.1, r389.2.2, v_forecast, u_state, u_history, w_row) else some (0, v_state, v_history, v_forecast, u_state, u_history, w_row) else some (0, v_state, v_history, v_forecast, u_state, u_history, w_row) else some (0, v_state, v_history, v_forecast, u_state, u_history, w_row) else zk_ck x11 40 (if (w_row x11.toNatClampNeg) < 0 then f_L_pass_353 x4 x5 x6 x7 x8 x9 x10 v_state v_history v_forecast u_state u_history w_row k314 x11 else zk_ck x11 40 ((f_X9_count 0 u_state u_history u_program).bind fun r334 => if r334 < (w_row x11.toNatClampNeg) then f_L_pass_353 x4 x5 x6 x7 x8 x9 x10 v_state v_history v_forecast u_state u_history w_row k314 x11 else (f_X9_count 14 u_state u_history u_program).bind fun r343 => if 12 < r343 then f_L_pass_353 x4 x5 x6 x7 x8 x9 x10 v_state v_history v_forecast u_state u_history w_row k314 x11 else some (0, v_state, v_history, v_forecast, u_state, u_history, w_row)))
def f_L_pass_303 (x4 : Int32) (x5 : Int32) (x6 : Int32) (x7 : Int32) (x8 : Int32) (v_state : VX6) (v_history : VX2) (v_forecast : VX1) (k114 : Int32 × Int32 × Int32 × VX6 × VX2 × (Nat → Int32) → Option (Int32 × VX6 × VX2 × VX1 × VX6 × VX2 × (Nat → Int32))) (s303_0 : Int32) (x9 : Int32) (x11 : Int32) (u_state : VX6) (u_history : VX2) (w_row : (Nat → Int32)) : Option (Int32 × VX6 × VX2 × VX1 × VX6 × VX2 × (Nat → Int32)) := k114 (x9, s303_0, (x11 + 1), u_state, u_history, w_row)
def f_L_pass_276 (u_program : VX4) (x4 : Int32) (x5 : Int32) (x6 : Int32) (x7 : Int32) (x8 : Int32) (v_state : VX6) (v_history : VX2) (v_forecast : VX1) (k114 : Int32 × Int32 × Int32 × VX6 × VX2 × (Nat → Int32) → Option (Int32 × VX6 × VX2 × VX1 × VX6 × VX2 × (Nat → Int32))) (x9 : Int32) (x10 : Int32) (x11 : Int32) (x12 : Int32) (u_state : VX6) (u_history : VX2) (w_row : (Nat → Int32)) : Option (Int32 × VX6 × VX2 × VX1 × VX6 × VX2 × (Nat → Int32)) := zk_let (x9 + x12) fun x9_3 => (f_X9_count 3 u_state u_history u_program).bind fun r285 => if r285 ≤ x10 then f_L_pass_303 x4 x5 x6 x7 x8 v_state v_history v_forecast k114 x10 x9_3 x11 u_state u_history w_row else (f_X9_count 3 u_state u_history u_program).bind fun r295 => f_L_pass_303 x4 x5 x6 x7 x8 v_state v_history v_forecast k114 r295 x9_3 x11 u_state u_history w_row
def F_L_pass_245 (u_program : VX4) (x4 : Int32) (x5 : Int32) (x6 : Int32) (x7 : Int32) (x8 : Int32) (v_state : VX6) (v_history : VX2) (v_forecast : VX1) (x9 : Int32) (x10 : Int32) (x11 : Int32) (x12 : Int32) (u_state : VX6) (u_history : VX2) (k114 : Int32 × Int32 × Int32 × VX6 × VX2 × (Nat → Int32) → Option (Int32 × VX6 × VX2 × VX1 × VX6 × VX2 × (Nat → Int32))) (k245 : Int32 × (Nat → Int32) → Option (Int32 × VX6 × VX2 × VX1 × VX6 × VX2 × (Nat → Int32))) : Int32 × (Nat → Int32) → Option (Int32 × VX6 × VX2 × VX1 × VX6 × VX2 × (Nat → Int32)) := fun s => match s with
  | (x13, w_row) => if x12 ≤ x13 then f_L_pass_276 u_program x4 x5 x6 x7 x8 v_state v_history v_forecast k114 x9 x10 x11 x12 u_state u_history w_row else if 12 ≤ x13 then f_L_pass_276 u_program x4 x5 x6 x7 x8 v_state v_history v_forecast k114 x9 x10 x11 x12 u_state u_history w_row else (f_X9_call x13 0 u_state).bind fun r264 => zk_ck r264 40 (zk_let (upd w_row r264.toNatClampNeg (-9)) fun v_row_2 => k245 ((x13 + 1), v_row_2))
def f_L_pass_242 (u_program : VX4) (x4 : Int32) (x5 : Int32) (x6 : Int32) (x7 : Int32) (x8 : Int32) (v_state : VX6) (v_history : VX2) (v_forecast : VX1) (k114 : Int32 × Int32 × Int32 × VX6 × VX2 × (Nat → Int32) → Option (Int32 × VX6 × VX2 × VX1 × VX6 × VX2 × (Nat → Int32))) (x9 : Int32) (x10 : Int32) (x11 : Int32) (x12 : Int32) (u_state : VX6) (u_history : VX2) (w_row : (Nat → Int32)) : Option (Int32 × VX6 × VX2 × VX1 × VX6 × VX2 × (Nat → Int32)) := zk_fx (F_L_pass_245 u_program x4 x5 x6 x7 x8 v_state v_history v_forecast x9 x10 x11 x12 u_state u_history k114) zk_N (0, w_row)
def f_L_pass_236 (x4 : Int32) (x5 : Int32) (x6 : Int32) (x7 : Int32) (x8 : Int32) (v_state : VX6) (v_history : VX2) (v_forecast : VX1) (x9 : Int32) (x10 : Int32) (x11 : Int32) (x12 : Int32) (u_state : VX6) (u_history : VX2) (w_row : (Nat → Int32)) (k114 : Int32 × Int32 × Int32 × VX6 × VX2 × (Nat → Int32) → Option (Int32 × VX6 × VX2 × VX1 × VX6 × VX2 × (Nat → Int32))) (k162 : Int32 → Option (Int32 × VX6 × VX2 × VX1 × VX6 × VX2 × (Nat → Int32))) (x13 : Int32) : Option (Int32 × VX6 × VX2 × VX1 × VX6 × VX2 × (Nat → Int32)) := k162 (x13 + 1)
def F_L_pass_162 (u_program : VX4) (x4 : Int32) (x5 : Int32) (x6 : Int32) (x7 : Int32) (x8 : Int32) (v_state : VX6) (v_history : VX2) (v_forecast : VX1) (x9 : Int32) (x10 : Int32) (x11 : Int32) (x12 : Int32) (u_state : VX6) (u_history : VX2) (w_row : (Nat → Int32)) (k114 : Int32 × Int32 × Int32 × VX6 × VX2 × (Nat → Int32) → Option (Int32 × VX6 × VX2 × VX1 × VX6 × VX2 × (Nat → Int32))) (k162 : Int32 → Option (Int32 × VX6 × VX2 × VX1 × VX6 × VX2 × (Nat → Int32))) : Int32 → Option (Int32 × VX6 × VX2 × VX1 × VX6 × VX2 × (Nat → Int32)) := fun x13 => if x12 ≤ x13 then f_L_pass_242 u_program x4 x5 x6 x7 x8 v_state v_history v_forecast k114 x9 x10 x11 x12 u_state u_history w_row else if 12 ≤ x13 then f_L_pass_242 u_program x4 x5 x6 x7 x8 v_state v_history v_forecast k114 x9 x10 x11 x12 u_state u_history w_row else (f_X9_call x13 0 u_state).bind fun r180 => (f_X9_call x13 2 u_state).bind fun r189 => (f_X9_count 0 u_state u_history u_program).bind fun r194 => if r189 = r194 then (f_X9_call x13 1 u_state).bind fun r204 => (f_X9_count 0 u_state u_history u_program).bind fun r209 => if r209 < r204 then some (0, v_state, v_history, v_forecast, u_state, u_history, w_row) else zk_ck r180 40 (if (w_row r180.toNatClampNeg) < 0 then f_L_pass_236 x4 x5 x6 x7 x8 v_state v_history v_forecast x9 x10 x11 x12 u_state u_history w_row k114 k162 x13 else zk_ck r180 40 ((f_X9_count 0 u_state u_history u_program).bind fun r228 => if (w_row r180.toNatClampNeg) = r228 then f_L_pass_236 x4 x5 x6 x7 x8 v_state v_history v_forecast x9 x10 x11 x12 u_state u_history w_row k114 k162 x13 else some (0, v_state, v_history, v_forecast, u_state, u_history, w_row))) else some (0, v_state, v_history, v_forecast, u_state, u_history, w_row)
def F_L_pass_114 (x2 : Int32) (u_program : VX4) (x4 : Int32) (x5 : Int32) (x6 : Int32) (x7 : Int32) (x8 : Int32) (v_state : VX6) (v_history : VX2) (v_forecast : VX1) (k114 : Int32 × Int32 × Int32 × VX6 × VX2 × (Nat → Int32) → Option (Int32 × VX6 × VX2 × VX1 × VX6 × VX2 × (Nat → Int32))) : Int32 × Int32 × Int32 × VX6 × VX2 × (Nat → Int32) → Option (Int32 × VX6 × VX2 × VX1 × VX6 × VX2 × (Nat → Int32)) := fun s => match s with
  | (x9, x10, x11, u_state, u_history, w_row) => if x2 ≤ x11 then zk_fx (F_L_pass_314 x2 u_program x4 x5 x6 x7 x8 x9 x10 v_state v_history v_forecast u_state u_history w_row ) zk_N 0 else (f_X9_pass 1 u_state u_history).bind fun r122 => if r122.1 < 0 then some (0, v_state, v_history, v_forecast, r122.2.1, r122.2.2, w_row) else (f_X9_count 14 r122.2.1 r122.2.2 u_program).bind fun r137 => if r137 < r122.1 then some (0, v_state, v_history, v_forecast, r122.2.1, r122.2.2, w_row) else (f_X9_count 4 r122.2.1 r122.2.2 u_program).bind fun r145 => (f_X9_count 15 r122.2.1 r122.2.2 u_program).bind fun r151 => if r145 ≤ r151 then zk_fx (F_L_pass_162 u_program x4 x5 x6 x7 x8 v_state v_history v_forecast x9 x10 x11 r122.1 r122.2.1 r122.2.2 w_row k114) zk_N 0 else some (0, v_state, v_history, v_forecast, r122.2.1, r122.2.2, w_row)
def f_L_pass_91 (x4 : Int32) (x5 : Int32) (x6 : Int32) (x7 : Int32) (v_state : VX6) (v_history : VX2) (u_state : VX6) (u_history : VX2) (k34 : Int32 × VX1 × (Nat → Int32) → Option (Int32 × VX6 × VX2 × VX1 × VX6 × VX2 × (Nat → Int32))) (x8 : Int32) (v_forecast : VX1) (w_row : (Nat → Int32)) : Option (Int32 × VX6 × VX2 × VX1 × VX6 × VX2 × (Nat → Int32)) := k34 ((x8 + 1), v_forecast, w_row)
def f_L_pass_66 (x4 : Int32) (x5 : Int32) (x6 : Int32) (x7 : Int32) (v_state : VX6) (v_history : VX2) (u_state : VX6) (u_history : VX2) (k34 : Int32 × VX1 × (Nat → Int32) → Option (Int32 × VX6 × VX2 × VX1 × VX6 × VX2 × (Nat → Int32))) (s66_1 : Int32) (s66_2 : Int32) (x8 : Int32) (v_forecast : VX1) (w_row : (Nat → Int32)) : Option (Int32 × VX6 × VX2 × VX1 × VX6 × VX2 × (Nat → Int32)) := zk_ck s66_1 40 (zk_let (upd w_row s66_1.toNatClampNeg s66_2) fun v_row_1 => (f_X9_promise x8 0 v_state).bind fun r71 => if r71 < 2 then f_L_pass_91 x4 x5 x6 x7 v_state v_history u_state u_history k34 x8 v_forecast v_row_1 else (f_X9_when x8 v_state v_forecast).bind fun r81 => if r81.1 = (-2) then f_L_pass_91 x4 x5 x6 x7 v_state v_history u_state u_history k34 x8 r81.2 v_row_1 else some (0, v_state, v_history, r81.2, u_state, u_history, v_row_1))
def F_L_pass_34 (x2 : Int32) (v_program : VX4) (u_program : VX4) (x4 : Int32) (x5 : Int32) (x6 : Int32) (x7 : Int32) (v_state : VX6) (v_history : VX2) (u_state : VX6) (u_history : VX2) (k34 : Int32 × VX1 × (Nat → Int32) → Option (Int32 × VX6 × VX2 × VX1 × VX6 × VX2 × (Nat → Int32))) : Int32 × VX1 × (Nat → Int32) → Option (Int32 × VX6 × VX2 × VX1 × VX6 × VX2 × (Nat → Int32)) := fun s => match s with
  | (x8, v_forecast, w_row) => if x7 ≤ x8 then (f_X9_count 6 v_state v_history v_program).bind fun r100 => zk_fx (F_L_pass_114 x2 u_program x4 x5 x6 x7 r100 v_state v_history v_forecast ) zk_N (0, 0, 0, u_state, u_history, w_row) else (f_X9_promise x8 0 v_state).bind fun r48 => if 2 ≤ r48 then f_L_pass_66 x4 x5 x6 x7 v_state v_history u_state u_history k34 x8 (-9) x8 v_forecast w_row else (f_X9_when x8 v_state v_forecast).bind fun r58 => f_L_pass_66 x4 x5 x6 x7 v_state v_history u_state u_history k34 x8 r58.1 x8 r58.2 w_row
def f_L_pass (x2 : Int32) (v_state : VX6) (v_history : VX2) (v_program : VX4) (v_forecast : VX1) (u_state : VX6) (u_history : VX2) (u_program : VX4) (w_row : (Nat → Int32)) : Option (Int32 × VX6 × VX2 × VX1 × VX6 × VX2 × (Nat → Int32)) := (f_X9_would x2 0 v_state v_forecast).bind fun r3 => (f_X9_would x2 1 v_state r3.2).bind fun r11 => (f_X9_would x2 2 v_state r11.2).bind fun r19 => (f_X9_count 1 v_state v_history v_program).bind fun r26 => zk_fx (F_L_pass_34 x2 v_program u_program r3.1 r11.1 r19.1 r26 v_state v_history u_state u_history ) zk_N (0, r19.2, w_row)
theorem cd_L_pass : yL_pass.cls ≠ "java/lang/invoke/MethodHandle" ∧ yL_pass.cls ≠ "java/lang/invoke/VarHandle" ∧ (parseMethodDescriptor yL_pass.desc).map (fun d => d.parameters.length) = some 4 := by decide +kernel
set_option maxRecDepth 100000 in
set_option maxHeartbeats 4000000 in
theorem c_L_pass (E : zk_Env) (l : Launch) (b0 : aX9) (u0 : VX9) (b1 : aX9) (u1 : VX9) (b3 : aA) (u3 : VA) (x2 : Int32) : zk_Mc E l yL_pass wsL_pass ({ frames := 7, cells := 0, slots := 0, locals := 162 } : Room) [.ref b0.1, .ref b1.1, .int x2, .ref b3] (zk_j [gX9 E b0 u0, gX9 E b1 u1, gA E b3 u3]) (f_L_pass x2 u0.1 u0.2.1 u0.2.2.1 u0.2.2.2 u1.1 u1.2.1 u1.2.2.1 u3) (fun r => some (.int r.1)) (fun r => (zk_j [gX9 E b0 (r.2.1, r.2.2.1, u0.2.2.1, r.2.2.2.1), gX9 E b1 (r.2.2.2.2.1, r.2.2.2.2.2.1, u1.2.2), gA E b3 r.2.2.2.2.2.2])) := by
  obtain ⟨v_state, v_history, v_program, v_forecast⟩ := u0
  obtain ⟨u_state, u_history, u_program, u_forecast⟩ := u1
  obtain ⟨w_row, rfl⟩ : ∃ z, z = u3 := ⟨_, rfl⟩
  refine zk_M (cc := cL_pass) (nL := 15) (ret := (some .boolean)) (by decide) rfl (Nat.le_of_ble_eq_true rfl) (fun X Q hQ => ?_)
  have J353 : ∀ (x4 : Int32) (x5 : Int32) (x6 : Int32) (x7 : Int32) (x8 : Int32) (x9 : Int32) (x10 : Int32) (v_state : VX6) (v_history : VX2) (v_forecast : VX1) (u_state : VX6) (u_history : VX2) (w_row : (Nat → Int32)) (k314 : Int32 → Option (Int32 × VX6 × VX2 × VX1 × VX6 × VX2 × (Nat → Int32))) (hk314 : ∀ s : Int32, zk_G E l X cL_pass 15 (some .boolean) yL_pass.cls wsL_pass ({ frames := 7, cells := 0, slots := 0, locals := 162 } : Room) 0 0 Q (zk_j [gX9 E b0 (v_state, v_history, v_program, v_forecast), gX9 E b1 (u_state, u_history, u_program, u_forecast), gA E b3 w_row]) [(0, .ref b0.1), (1, .ref b1.1), (2, .int x2), (3, .ref b3), (4, .int x4), (5, .int x5), (6, .int x6), (7, .int x7), (8, .int x8), (9, .int x9), (10, .int x10), (11, .int s)] 314 [] (k314 s)) (x11 : Int32), zk_G E l X cL_pass 15 (some .boolean) yL_pass.cls wsL_pass ({ frames := 7, cells := 0, slots := 0, locals := 162 } : Room) 0 0 Q (zk_j [gX9 E b0 (v_state, v_history, v_program, v_forecast), gX9 E b1 (u_state, u_history, u_program, u_forecast), gA E b3 w_row]) [(0, .ref b0.1), (1, .ref b1.1), (2, .int x2), (3, .ref b3), (4, .int x4), (5, .int x5), (6, .int x6), (7, .int x7), (8, .int x8), (9, .int x9), (10, .int x10), (11, .int x11)] 353 [] (f_L_pass_353 x4 x5 x6 x7 x8 x9 x10 v_state v_history v_forecast u_state u_history w_row k314 x11) := by
    intro x4 x5 x6 x7 x8 x9 x10 v_state v_history v_forecast u_state u_history w_row k314 hk314 x11
    unfold f_L_pass_353
    refine zk_iinc (x11 + 1) [(11, .int (x11 + 1)), (0, .ref b0.1), (1, .ref b1.1), (2, .int x2), (3, .ref b3), (4, .int x4), (5, .int x5), (6, .int x6), (7, .int x7), (8, .int x8), (9, .int x9), (10, .int x10)] dL_pass_353 11 rfl rfl (by decide) rfl 356 rfl ?_
    refine zk_goto dL_pass_356 314 (by decide) ?_
    refine zk_lv [1, 2, 3, 4, 5, 6, 7, 8, 9, 10, 11, 0] rfl ?_
    exact hk314 (x11 + 1)
  have J314 : ∀ (x4 : Int32) (x5 : Int32) (x6 : Int32) (x7 : Int32) (x8 : Int32) (x9 : Int32) (x10 : Int32) (v_state : VX6) (v_history : VX2) (v_forecast : VX1) (u_state : VX6) (u_history : VX2) (w_row : (Nat → Int32)) (n : Nat) (x11 : Int32), zk_G E l X cL_pass 15 (some .boolean) yL_pass.cls wsL_pass ({ frames := 7, cells := 0, slots := 0, locals := 162 } : Room) 0 0 Q (zk_j [gX9 E b0 (v_state, v_history, v_program, v_forecast), gX9 E b1 (u_state, u_history, u_program, u_forecast), gA E b3 w_row]) [(0, .ref b0.1), (1, .ref b1.1), (2, .int x2), (3, .ref b3), (4, .int x4), (5, .int x5), (6, .int x6), (7, .int x7), (8, .int x8), (9, .int x9), (10, .int x10), (11, .int x11)] 314 [] (zk_fx (F_L_pass_314 x2 u_program x4 x5 x6 x7 x8 x9 x10 v_state v_history v_forecast u_state u_history w_row ) n x11) := by
    intro x4 x5 x6 x7 x8 x9 x10 v_state v_history v_forecast u_state u_history w_row n x11
    refine zk_loop (S := Int32) (F := F_L_pass_314 x2 u_program x4 x5 x6 x7 x8 x9 x10 v_state v_history v_forecast u_state u_history w_row) (wS := fun s => (zk_j [gX9 E b0 (v_state, v_history, v_program, v_forecast), gX9 E b1 (u_state, u_history, u_program, u_forecast), gA E b3 w_row])) (lS := fun s => [(0, .ref b0.1), (1, .ref b1.1), (2, .int x2), (3, .ref b3), (4, .int x4), (5, .int x5), (6, .int x6), (7, .int x7), (8, .int x8), (9, .int x9), (10, .int x10), (11, .int s)]) (sS := fun _ => []) (fun k314 hk314 x11 => ?_) n x11
    unfold F_L_pass_314
    try dsimp only
    refine zk_iload dL_pass_314 11 rfl 316 rfl ?_
    refine zk_iload dL_pass_316 7 rfl 318 rfl ?_
    refine zk_icmp_ge dL_pass_318 359 (by decide) 321 rfl (fun _ => ?_) (fun _ => ?_)
    · refine zk_iload dL_pass_359 9 rfl 361 rfl ?_
      refine zk_iload dL_pass_361 4 rfl 363 rfl ?_
      refine zk_icmp_ne dL_pass_363 401 (by decide) 366 rfl (fun _ => ?_) (fun _ => ?_)
      · refine zk_iload dL_pass_366 10 rfl 368 rfl ?_
        refine zk_iload dL_pass_368 6 rfl 370 rfl ?_
        refine zk_icmp_ne dL_pass_370 401 (by decide) 373 rfl (fun _ => ?_) (fun _ => ?_)
        · refine zk_aload_n dL_pass_373 1 rfl 374 rfl ?_
          refine zk_bipush 6 dL_pass_374 (by decide) 376 rfl ?_
          refine zk_callV (ci := 9) (st := []) (c_X9_count E l b1 (u_state, u_history, u_program, u_forecast) 6) dL_pass_376 1 gL_pass_X9_count rfl rfl rfl cd_X9_count ⟨Nat.le_of_ble_eq_true rfl, Nat.le_of_ble_eq_true rfl⟩ ⟨Nat.zero_le _, Nat.zero_le _⟩ _ (fun r376 => (zk_j [gX9 E b0 (v_state, v_history, v_program, v_forecast), gX9 E b1 (u_state, u_history, u_program, u_forecast), gA E b3 w_row])) (zk_p1 (gs := [gX9 E b0 (v_state, v_history, v_program, v_forecast), gX9 E b1 (u_state, u_history, u_program, u_forecast), gA E b3 w_row]) (i := 1) rfl) (fun r376 => (zk_q1 (gs := [gX9 E b0 (v_state, v_history, v_program, v_forecast), gX9 E b1 (u_state, u_history, u_program, u_forecast), gA E b3 w_row]) (i := 1) rfl rfl)) rfl rfl rfl rfl (Nat.le_of_ble_eq_true rfl) (fun r376 => [.int r376]) (fun _ => rfl) 379 rfl (fun r376 => ?_)
          refine zk_iload dL_pass_379 8 rfl 381 rfl ?_
          refine zk_isub dL_pass_381 382 rfl ?_
          refine zk_iload dL_pass_382 5 rfl 384 rfl ?_
          refine zk_icmp_ne dL_pass_384 401 (by decide) 387 rfl (fun _ => ?_) (fun _ => ?_)
          · refine zk_aload_n dL_pass_387 0 rfl 388 rfl ?_
            refine zk_iload_n dL_pass_388 2 rfl 389 rfl ?_
            refine zk_callV (ci := 9) (st := []) (c_X9_pass E l b0 (v_state, v_history, v_program, v_forecast) x2) dL_pass_389 1 gL_pass_X9_pass rfl rfl rfl cd_X9_pass ⟨Nat.le_of_ble_eq_true rfl, Nat.le_of_ble_eq_true rfl⟩ ⟨Nat.zero_le _, Nat.zero_le _⟩ _ (fun r389 => (zk_j [gX9 E b0 (r389.2.1, r389.2.2, v_program, v_forecast), gX9 E b1 (u_state, u_history, u_program, u_forecast), gA E b3 w_row])) (zk_p1 (gs := [gX9 E b0 (v_state, v_history, v_program, v_forecast), gX9 E b1 (u_state, u_history, u_program, u_forecast), gA E b3 w_row]) (i := 0) rfl) (fun r389 => (zk_q1 (gs := [gX9 E b0 (v_state, v_history, v_program, v_forecast), gX9 E b1 (u_state, u_history, u_program, u_forecast), gA E b3 w_row]) (i := 0) rfl rfl)) rfl rfl rfl rfl (Nat.le_of_ble_eq_true rfl) (fun r389 => [.int r389.1]) (fun _ => rfl) 392 rfl (fun r389 => ?_)
            refine zk_iload dL_pass_392 4 rfl 394 rfl ?_
            refine zk_icmp_ne dL_pass_394 401 (by decide) 397 rfl (fun _ => ?_) (fun _ => ?_)
            · refine zk_iconst 1 dL_pass_397 (by decide) 398 rfl ?_
              refine zk_goto dL_pass_398 402 (by decide) ?_
              exact zk_zretL hQ dL_pass_402 (Or.inr rfl) rfl rfl
            · refine zk_iconst 0 dL_pass_401 (by decide) 402 rfl ?_
              exact zk_zretL hQ dL_pass_402 (Or.inl rfl) rfl rfl
          · refine zk_iconst 0 dL_pass_401 (by decide) 402 rfl ?_
            exact zk_zretL hQ dL_pass_402 (Or.inl rfl) rfl rfl
        · refine zk_iconst 0 dL_pass_401 (by decide) 402 rfl ?_
          exact zk_zretL hQ dL_pass_402 (Or.inl rfl) rfl rfl
      · refine zk_iconst 0 dL_pass_401 (by decide) 402 rfl ?_
        exact zk_zretL hQ dL_pass_402 (Or.inl rfl) rfl rfl
    · refine zk_aload_n dL_pass_321 3 rfl 322 rfl ?_
      refine zk_iload dL_pass_322 11 rfl 324 rfl ?_
      refine zk_iald dL_pass_324 544 rfl 325 rfl ?_
      refine zk_if_lt dL_pass_325 353 (by decide) 328 rfl (fun _ => ?_) (fun _ => ?_)
      · exact J353 x4 x5 x6 x7 x8 x9 x10 v_state v_history v_forecast u_state u_history w_row k314 hk314 x11
      · refine zk_aload_n dL_pass_328 3 rfl 329 rfl ?_
        refine zk_iload dL_pass_329 11 rfl 331 rfl ?_
        refine zk_iald dL_pass_331 544 rfl 332 rfl ?_
        refine zk_aload_n dL_pass_332 1 rfl 333 rfl ?_
        refine zk_iconst 0 dL_pass_333 (by decide) 334 rfl ?_
        refine zk_callV (ci := 9) (st := [.int (w_row x11.toNatClampNeg)]) (c_X9_count E l b1 (u_state, u_history, u_program, u_forecast) 0) dL_pass_334 1 gL_pass_X9_count rfl rfl rfl cd_X9_count ⟨Nat.le_of_ble_eq_true rfl, Nat.le_of_ble_eq_true rfl⟩ ⟨Nat.zero_le _, Nat.zero_le _⟩ _ (fun r334 => (zk_j [gX9 E b0 (v_state, v_history, v_program, v_forecast), gX9 E b1 (u_state, u_history, u_program, u_forecast), gA E b3 w_row])) (zk_p1 (gs := [gX9 E b0 (v_state, v_history, v_program, v_forecast), gX9 E b1 (u_state, u_history, u_program, u_forecast), gA E b3 w_row]) (i := 1) rfl) (fun r334 => (zk_q1 (gs := [gX9 E b0 (v_state, v_history, v_program, v_forecast), gX9 E b1 (u_state, u_history, u_program, u_forecast), gA E b3 w_row]) (i := 1) rfl rfl)) rfl rfl rfl rfl (Nat.le_of_ble_eq_true rfl) (fun r334 => [.int r334, .int (w_row x11.toNatClampNeg)]) (fun _ => rfl) 337 rfl (fun r334 => ?_)
        refine zk_icmp_gt dL_pass_337 353 (by decide) 340 rfl (fun _ => ?_) (fun _ => ?_)
        · exact J353 x4 x5 x6 x7 x8 x9 x10 v_state v_history v_forecast u_state u_history w_row k314 hk314 x11
        · refine zk_aload_n dL_pass_340 1 rfl 341 rfl ?_
          refine zk_bipush 14 dL_pass_341 (by decide) 343 rfl ?_
          refine zk_callV (ci := 9) (st := []) (c_X9_count E l b1 (u_state, u_history, u_program, u_forecast) 14) dL_pass_343 1 gL_pass_X9_count rfl rfl rfl cd_X9_count ⟨Nat.le_of_ble_eq_true rfl, Nat.le_of_ble_eq_true rfl⟩ ⟨Nat.zero_le _, Nat.zero_le _⟩ _ (fun r343 => (zk_j [gX9 E b0 (v_state, v_history, v_program, v_forecast), gX9 E b1 (u_state, u_history, u_program, u_forecast), gA E b3 w_row])) (zk_p1 (gs := [gX9 E b0 (v_state, v_history, v_program, v_forecast), gX9 E b1 (u_state, u_history, u_program, u_forecast), gA E b3 w_row]) (i := 1) rfl) (fun r343 => (zk_q1 (gs := [gX9 E b0 (v_state, v_history, v_program, v_forecast), gX9 E b1 (u_state, u_history, u_program, u_forecast), gA E b3 w_row]) (i := 1) rfl rfl)) rfl rfl rfl rfl (Nat.le_of_ble_eq_true rfl) (fun r343 => [.int r343]) (fun _ => rfl) 346 rfl (fun r343 => ?_)
          refine zk_bipush 12 dL_pass_346 (by decide) 348 rfl ?_
          refine zk_icmp_gt dL_pass_348 353 (by decide) 351 rfl (fun _ => ?_) (fun _ => ?_)
          · exact J353 x4 x5 x6 x7 x8 x9 x10 v_state v_history v_forecast u_state u_history w_row k314 hk314 x11
          · refine zk_iconst 0 dL_pass_351 (by decide) 352 rfl ?_
            exact zk_zretL hQ dL_pass_352 (Or.inl rfl) rfl rfl
  have J303 : ∀ (x4 : Int32) (x5 : Int32) (x6 : Int32) (x7 : Int32) (x8 : Int32) (v_state : VX6) (v_history : VX2) (v_forecast : VX1) (k114 : Int32 × Int32 × Int32 × VX6 × VX2 × (Nat → Int32) → Option (Int32 × VX6 × VX2 × VX1 × VX6 × VX2 × (Nat → Int32))) (hk114 : ∀ s : Int32 × Int32 × Int32 × VX6 × VX2 × (Nat → Int32), zk_G E l X cL_pass 15 (some .boolean) yL_pass.cls wsL_pass ({ frames := 7, cells := 0, slots := 0, locals := 162 } : Room) 0 0 Q (zk_j [gX9 E b0 (v_state, v_history, v_program, v_forecast), gX9 E b1 (s.2.2.2.1, s.2.2.2.2.1, u_program, u_forecast), gA E b3 s.2.2.2.2.2]) [(0, .ref b0.1), (1, .ref b1.1), (2, .int x2), (3, .ref b3), (4, .int x4), (5, .int x5), (6, .int x6), (7, .int x7), (8, .int x8), (9, .int s.1), (10, .int s.2.1), (11, .int s.2.2.1)] 114 [] (k114 s)) (s303_0 : Int32) (x9 : Int32) (x11 : Int32) (u_state : VX6) (u_history : VX2) (w_row : (Nat → Int32)), zk_G E l X cL_pass 15 (some .boolean) yL_pass.cls wsL_pass ({ frames := 7, cells := 0, slots := 0, locals := 162 } : Room) 0 0 Q (zk_j [gX9 E b0 (v_state, v_history, v_program, v_forecast), gX9 E b1 (u_state, u_history, u_program, u_forecast), gA E b3 w_row]) [(0, .ref b0.1), (1, .ref b1.1), (2, .int x2), (3, .ref b3), (4, .int x4), (5, .int x5), (6, .int x6), (7, .int x7), (8, .int x8), (9, .int x9), (11, .int x11)] 303 [.int s303_0] (f_L_pass_303 x4 x5 x6 x7 x8 v_state v_history v_forecast k114 s303_0 x9 x11 u_state u_history w_row) := by
    intro x4 x5 x6 x7 x8 v_state v_history v_forecast k114 hk114 s303_0 x9 x11 u_state u_history w_row
    unfold f_L_pass_303
    refine zk_istore [(10, .int s303_0), (0, .ref b0.1), (1, .ref b1.1), (2, .int x2), (3, .ref b3), (4, .int x4), (5, .int x5), (6, .int x6), (7, .int x7), (8, .int x8), (9, .int x9), (11, .int x11)] dL_pass_303 (by decide) rfl 305 rfl ?_
    refine zk_iinc (x11 + 1) [(11, .int (x11 + 1)), (10, .int s303_0), (0, .ref b0.1), (1, .ref b1.1), (2, .int x2), (3, .ref b3), (4, .int x4), (5, .int x5), (6, .int x6), (7, .int x7), (8, .int x8), (9, .int x9)] dL_pass_305 11 rfl rfl (by decide) rfl 308 rfl ?_
    refine zk_goto dL_pass_308 114 (by decide) ?_
    refine zk_lv [2, 3, 4, 5, 6, 7, 8, 9, 10, 11, 1, 0] rfl ?_
    exact hk114 (x9, s303_0, (x11 + 1), u_state, u_history, w_row)
  have J276 : ∀ (x4 : Int32) (x5 : Int32) (x6 : Int32) (x7 : Int32) (x8 : Int32) (v_state : VX6) (v_history : VX2) (v_forecast : VX1) (k114 : Int32 × Int32 × Int32 × VX6 × VX2 × (Nat → Int32) → Option (Int32 × VX6 × VX2 × VX1 × VX6 × VX2 × (Nat → Int32))) (hk114 : ∀ s : Int32 × Int32 × Int32 × VX6 × VX2 × (Nat → Int32), zk_G E l X cL_pass 15 (some .boolean) yL_pass.cls wsL_pass ({ frames := 7, cells := 0, slots := 0, locals := 162 } : Room) 0 0 Q (zk_j [gX9 E b0 (v_state, v_history, v_program, v_forecast), gX9 E b1 (s.2.2.2.1, s.2.2.2.2.1, u_program, u_forecast), gA E b3 s.2.2.2.2.2]) [(0, .ref b0.1), (1, .ref b1.1), (2, .int x2), (3, .ref b3), (4, .int x4), (5, .int x5), (6, .int x6), (7, .int x7), (8, .int x8), (9, .int s.1), (10, .int s.2.1), (11, .int s.2.2.1)] 114 [] (k114 s)) (x9 : Int32) (x10 : Int32) (x11 : Int32) (x12 : Int32) (u_state : VX6) (u_history : VX2) (w_row : (Nat → Int32)), zk_G E l X cL_pass 15 (some .boolean) yL_pass.cls wsL_pass ({ frames := 7, cells := 0, slots := 0, locals := 162 } : Room) 0 0 Q (zk_j [gX9 E b0 (v_state, v_history, v_program, v_forecast), gX9 E b1 (u_state, u_history, u_program, u_forecast), gA E b3 w_row]) [(0, .ref b0.1), (1, .ref b1.1), (2, .int x2), (3, .ref b3), (4, .int x4), (5, .int x5), (6, .int x6), (7, .int x7), (8, .int x8), (9, .int x9), (10, .int x10), (11, .int x11), (12, .int x12)] 276 [] (f_L_pass_276 u_program x4 x5 x6 x7 x8 v_state v_history v_forecast k114 x9 x10 x11 x12 u_state u_history w_row) := by
    intro x4 x5 x6 x7 x8 v_state v_history v_forecast k114 hk114 x9 x10 x11 x12 u_state u_history w_row
    unfold f_L_pass_276
    refine zk_iload dL_pass_276 9 rfl 278 rfl ?_
    refine zk_iload dL_pass_278 12 rfl 280 rfl ?_
    refine zk_iadd dL_pass_280 281 rfl ?_
    refine zk_nm (fun x9_3 => ?_)
    refine zk_istore [(9, .int x9_3), (0, .ref b0.1), (1, .ref b1.1), (2, .int x2), (3, .ref b3), (4, .int x4), (5, .int x5), (6, .int x6), (7, .int x7), (8, .int x8), (10, .int x10), (11, .int x11), (12, .int x12)] dL_pass_281 (by decide) rfl 283 rfl ?_
    refine zk_aload_n dL_pass_283 2 rfl 284 rfl ?_
    refine zk_iconst 3 dL_pass_284 (by decide) 285 rfl ?_
    refine zk_callV (ci := 9) (st := []) (c_X9_count E l b1 (u_state, u_history, u_program, u_forecast) 3) dL_pass_285 1 gL_pass_X9_count rfl rfl rfl cd_X9_count ⟨Nat.le_of_ble_eq_true rfl, Nat.le_of_ble_eq_true rfl⟩ ⟨Nat.zero_le _, Nat.zero_le _⟩ _ (fun r285 => (zk_j [gX9 E b0 (v_state, v_history, v_program, v_forecast), gX9 E b1 (u_state, u_history, u_program, u_forecast), gA E b3 w_row])) (zk_p1 (gs := [gX9 E b0 (v_state, v_history, v_program, v_forecast), gX9 E b1 (u_state, u_history, u_program, u_forecast), gA E b3 w_row]) (i := 1) rfl) (fun r285 => (zk_q1 (gs := [gX9 E b0 (v_state, v_history, v_program, v_forecast), gX9 E b1 (u_state, u_history, u_program, u_forecast), gA E b3 w_row]) (i := 1) rfl rfl)) rfl rfl rfl rfl (Nat.le_of_ble_eq_true rfl) (fun r285 => [.int r285]) (fun _ => rfl) 288 rfl (fun r285 => ?_)
    refine zk_iload dL_pass_288 10 rfl 290 rfl ?_
    refine zk_icmp_le dL_pass_290 301 (by decide) 293 rfl (fun _ => ?_) (fun _ => ?_)
    · refine zk_iload dL_pass_301 10 rfl 303 rfl ?_
      refine zk_lv [1, 2, 3, 4, 5, 6, 7, 8, 9, 0, 11] rfl ?_
      exact J303 x4 x5 x6 x7 x8 v_state v_history v_forecast k114 hk114 x10 x9_3 x11 u_state u_history w_row
    · refine zk_aload_n dL_pass_293 2 rfl 294 rfl ?_
      refine zk_iconst 3 dL_pass_294 (by decide) 295 rfl ?_
      refine zk_callV (ci := 9) (st := []) (c_X9_count E l b1 (u_state, u_history, u_program, u_forecast) 3) dL_pass_295 1 gL_pass_X9_count rfl rfl rfl cd_X9_count ⟨Nat.le_of_ble_eq_true rfl, Nat.le_of_ble_eq_true rfl⟩ ⟨Nat.zero_le _, Nat.zero_le _⟩ _ (fun r295 => (zk_j [gX9 E b0 (v_state, v_history, v_program, v_forecast), gX9 E b1 (u_state, u_history, u_program, u_forecast), gA E b3 w_row])) (zk_p1 (gs := [gX9 E b0 (v_state, v_history, v_program, v_forecast), gX9 E b1 (u_state, u_history, u_program, u_forecast), gA E b3 w_row]) (i := 1) rfl) (fun r295 => (zk_q1 (gs := [gX9 E b0 (v_state, v_history, v_program, v_forecast), gX9 E b1 (u_state, u_history, u_program, u_forecast), gA E b3 w_row]) (i := 1) rfl rfl)) rfl rfl rfl rfl (Nat.le_of_ble_eq_true rfl) (fun r295 => [.int r295]) (fun _ => rfl) 298 rfl (fun r295 => ?_)
      refine zk_goto dL_pass_298 303 (by decide) ?_
      refine zk_lv [1, 2, 3, 4, 5, 6, 7, 8, 9, 0, 11] rfl ?_
      exact J303 x4 x5 x6 x7 x8 v_state v_history v_forecast k114 hk114 r295 x9_3 x11 u_state u_history w_row
  have J245 : ∀ (x4 : Int32) (x5 : Int32) (x6 : Int32) (x7 : Int32) (x8 : Int32) (v_state : VX6) (v_history : VX2) (v_forecast : VX1) (k114 : Int32 × Int32 × Int32 × VX6 × VX2 × (Nat → Int32) → Option (Int32 × VX6 × VX2 × VX1 × VX6 × VX2 × (Nat → Int32))) (hk114 : ∀ s : Int32 × Int32 × Int32 × VX6 × VX2 × (Nat → Int32), zk_G E l X cL_pass 15 (some .boolean) yL_pass.cls wsL_pass ({ frames := 7, cells := 0, slots := 0, locals := 162 } : Room) 0 0 Q (zk_j [gX9 E b0 (v_state, v_history, v_program, v_forecast), gX9 E b1 (s.2.2.2.1, s.2.2.2.2.1, u_program, u_forecast), gA E b3 s.2.2.2.2.2]) [(0, .ref b0.1), (1, .ref b1.1), (2, .int x2), (3, .ref b3), (4, .int x4), (5, .int x5), (6, .int x6), (7, .int x7), (8, .int x8), (9, .int s.1), (10, .int s.2.1), (11, .int s.2.2.1)] 114 [] (k114 s)) (x9 : Int32) (x10 : Int32) (x11 : Int32) (x12 : Int32) (u_state : VX6) (u_history : VX2) (n : Nat) (x13 : Int32) (w_row : (Nat → Int32)), zk_G E l X cL_pass 15 (some .boolean) yL_pass.cls wsL_pass ({ frames := 7, cells := 0, slots := 0, locals := 162 } : Room) 0 0 Q (zk_j [gX9 E b0 (v_state, v_history, v_program, v_forecast), gX9 E b1 (u_state, u_history, u_program, u_forecast), gA E b3 w_row]) [(0, .ref b0.1), (1, .ref b1.1), (2, .int x2), (3, .ref b3), (4, .int x4), (5, .int x5), (6, .int x6), (7, .int x7), (8, .int x8), (9, .int x9), (10, .int x10), (11, .int x11), (12, .int x12), (13, .int x13)] 245 [] (zk_fx (F_L_pass_245 u_program x4 x5 x6 x7 x8 v_state v_history v_forecast x9 x10 x11 x12 u_state u_history k114) n (x13, w_row)) := by
    intro x4 x5 x6 x7 x8 v_state v_history v_forecast k114 hk114 x9 x10 x11 x12 u_state u_history n x13 w_row
    refine zk_loop (S := Int32 × (Nat → Int32)) (F := F_L_pass_245 u_program x4 x5 x6 x7 x8 v_state v_history v_forecast x9 x10 x11 x12 u_state u_history k114) (wS := fun s => (zk_j [gX9 E b0 (v_state, v_history, v_program, v_forecast), gX9 E b1 (u_state, u_history, u_program, u_forecast), gA E b3 s.2])) (lS := fun s => [(0, .ref b0.1), (1, .ref b1.1), (2, .int x2), (3, .ref b3), (4, .int x4), (5, .int x5), (6, .int x6), (7, .int x7), (8, .int x8), (9, .int x9), (10, .int x10), (11, .int x11), (12, .int x12), (13, .int s.1)]) (sS := fun _ => []) (fun k245 hk245 s => ?_) n (x13, w_row)
    obtain ⟨x13, w_row⟩ := s
    unfold F_L_pass_245
    try dsimp only
    refine zk_iload dL_pass_245 13 rfl 247 rfl ?_
    refine zk_iload dL_pass_247 12 rfl 249 rfl ?_
    refine zk_icmp_ge dL_pass_249 276 (by decide) 252 rfl (fun _ => ?_) (fun _ => ?_)
    · refine zk_lv [0, 1, 2, 3, 4, 5, 6, 7, 8, 9, 10, 11, 12] rfl ?_
      exact J276 x4 x5 x6 x7 x8 v_state v_history v_forecast k114 hk114 x9 x10 x11 x12 u_state u_history w_row
    · refine zk_iload dL_pass_252 13 rfl 254 rfl ?_
      refine zk_bipush 12 dL_pass_254 (by decide) 256 rfl ?_
      refine zk_icmp_ge dL_pass_256 276 (by decide) 259 rfl (fun _ => ?_) (fun _ => ?_)
      · refine zk_lv [0, 1, 2, 3, 4, 5, 6, 7, 8, 9, 10, 11, 12] rfl ?_
        exact J276 x4 x5 x6 x7 x8 v_state v_history v_forecast k114 hk114 x9 x10 x11 x12 u_state u_history w_row
      · refine zk_aload_n dL_pass_259 3 rfl 260 rfl ?_
        refine zk_aload_n dL_pass_260 1 rfl 261 rfl ?_
        refine zk_iload dL_pass_261 13 rfl 263 rfl ?_
        refine zk_iconst 0 dL_pass_263 (by decide) 264 rfl ?_
        refine zk_callV (ci := 9) (st := [.ref b3]) (c_X9_call E l b1 (u_state, u_history, u_program, u_forecast) x13 0) dL_pass_264 2 gL_pass_X9_call rfl rfl rfl cd_X9_call ⟨Nat.le_of_ble_eq_true rfl, Nat.le_of_ble_eq_true rfl⟩ ⟨Nat.zero_le _, Nat.zero_le _⟩ _ (fun r264 => (zk_j [gX9 E b0 (v_state, v_history, v_program, v_forecast), gX9 E b1 (u_state, u_history, u_program, u_forecast), gA E b3 w_row])) (zk_p1 (gs := [gX9 E b0 (v_state, v_history, v_program, v_forecast), gX9 E b1 (u_state, u_history, u_program, u_forecast), gA E b3 w_row]) (i := 1) rfl) (fun r264 => (zk_q1 (gs := [gX9 E b0 (v_state, v_history, v_program, v_forecast), gX9 E b1 (u_state, u_history, u_program, u_forecast), gA E b3 w_row]) (i := 1) rfl rfl)) rfl rfl rfl rfl (Nat.le_of_ble_eq_true rfl) (fun r264 => [.int r264, .ref b3]) (fun _ => rfl) 267 rfl (fun r264 => ?_)
        refine zk_bipush (-9) dL_pass_267 (by decide) 269 rfl ?_
        refine zk_iast (zk_j [gX9 E b0 (v_state, v_history, v_program, v_forecast), gX9 E b1 (u_state, u_history, u_program, u_forecast), gA E b3 (upd w_row r264.toNatClampNeg (-9))]) dL_pass_269 544 rfl rfl 270 rfl ?_
        refine zk_nmw (fun v_row_2 => (zk_j [gX9 E b0 (v_state, v_history, v_program, v_forecast), gX9 E b1 (u_state, u_history, u_program, u_forecast), gA E b3 v_row_2])) _ rfl (fun v_row_2 => ?_)
        refine zk_iinc (x13 + 1) [(13, .int (x13 + 1)), (0, .ref b0.1), (1, .ref b1.1), (2, .int x2), (3, .ref b3), (4, .int x4), (5, .int x5), (6, .int x6), (7, .int x7), (8, .int x8), (9, .int x9), (10, .int x10), (11, .int x11), (12, .int x12)] dL_pass_270 13 rfl rfl (by decide) rfl 273 rfl ?_
        refine zk_goto dL_pass_273 245 (by decide) ?_
        refine zk_lv [1, 2, 3, 4, 5, 6, 7, 8, 9, 10, 11, 12, 13, 0] rfl ?_
        exact hk245 ((x13 + 1), v_row_2)
  have J242 : ∀ (x4 : Int32) (x5 : Int32) (x6 : Int32) (x7 : Int32) (x8 : Int32) (v_state : VX6) (v_history : VX2) (v_forecast : VX1) (k114 : Int32 × Int32 × Int32 × VX6 × VX2 × (Nat → Int32) → Option (Int32 × VX6 × VX2 × VX1 × VX6 × VX2 × (Nat → Int32))) (hk114 : ∀ s : Int32 × Int32 × Int32 × VX6 × VX2 × (Nat → Int32), zk_G E l X cL_pass 15 (some .boolean) yL_pass.cls wsL_pass ({ frames := 7, cells := 0, slots := 0, locals := 162 } : Room) 0 0 Q (zk_j [gX9 E b0 (v_state, v_history, v_program, v_forecast), gX9 E b1 (s.2.2.2.1, s.2.2.2.2.1, u_program, u_forecast), gA E b3 s.2.2.2.2.2]) [(0, .ref b0.1), (1, .ref b1.1), (2, .int x2), (3, .ref b3), (4, .int x4), (5, .int x5), (6, .int x6), (7, .int x7), (8, .int x8), (9, .int s.1), (10, .int s.2.1), (11, .int s.2.2.1)] 114 [] (k114 s)) (x9 : Int32) (x10 : Int32) (x11 : Int32) (x12 : Int32) (u_state : VX6) (u_history : VX2) (w_row : (Nat → Int32)), zk_G E l X cL_pass 15 (some .boolean) yL_pass.cls wsL_pass ({ frames := 7, cells := 0, slots := 0, locals := 162 } : Room) 0 0 Q (zk_j [gX9 E b0 (v_state, v_history, v_program, v_forecast), gX9 E b1 (u_state, u_history, u_program, u_forecast), gA E b3 w_row]) [(0, .ref b0.1), (1, .ref b1.1), (2, .int x2), (3, .ref b3), (4, .int x4), (5, .int x5), (6, .int x6), (7, .int x7), (8, .int x8), (9, .int x9), (10, .int x10), (11, .int x11), (12, .int x12)] 242 [] (f_L_pass_242 u_program x4 x5 x6 x7 x8 v_state v_history v_forecast k114 x9 x10 x11 x12 u_state u_history w_row) := by
    intro x4 x5 x6 x7 x8 v_state v_history v_forecast k114 hk114 x9 x10 x11 x12 u_state u_history w_row
    unfold f_L_pass_242
    refine zk_iconst 0 dL_pass_242 (by decide) 243 rfl ?_
    refine zk_istore [(13, .int 0), (0, .ref b0.1), (1, .ref b1.1), (2, .int x2), (3, .ref b3), (4, .int x4), (5, .int x5), (6, .int x6), (7, .int x7), (8, .int x8), (9, .int x9), (10, .int x10), (11, .int x11), (12, .int x12)] dL_pass_243 (by decide) rfl 245 rfl ?_
    refine zk_lv [1, 2, 3, 4, 5, 6, 7, 8, 9, 10, 11, 12, 13, 0] rfl ?_
    exact J245 x4 x5 x6 x7 x8 v_state v_history v_forecast k114 hk114 x9 x10 x11 x12 u_state u_history zk_N 0 w_row
  have J236 : ∀ (x4 : Int32) (x5 : Int32) (x6 : Int32) (x7 : Int32) (x8 : Int32) (v_state : VX6) (v_history : VX2) (v_forecast : VX1) (x9 : Int32) (x10 : Int32) (x11 : Int32) (x12 : Int32) (u_state : VX6) (u_history : VX2) (w_row : (Nat → Int32)) (k114 : Int32 × Int32 × Int32 × VX6 × VX2 × (Nat → Int32) → Option (Int32 × VX6 × VX2 × VX1 × VX6 × VX2 × (Nat → Int32))) (hk114 : ∀ s : Int32 × Int32 × Int32 × VX6 × VX2 × (Nat → Int32), zk_G E l X cL_pass 15 (some .boolean) yL_pass.cls wsL_pass ({ frames := 7, cells := 0, slots := 0, locals := 162 } : Room) 0 0 Q (zk_j [gX9 E b0 (v_state, v_history, v_program, v_forecast), gX9 E b1 (s.2.2.2.1, s.2.2.2.2.1, u_program, u_forecast), gA E b3 s.2.2.2.2.2]) [(0, .ref b0.1), (1, .ref b1.1), (2, .int x2), (3, .ref b3), (4, .int x4), (5, .int x5), (6, .int x6), (7, .int x7), (8, .int x8), (9, .int s.1), (10, .int s.2.1), (11, .int s.2.2.1)] 114 [] (k114 s)) (k162 : Int32 → Option (Int32 × VX6 × VX2 × VX1 × VX6 × VX2 × (Nat → Int32))) (hk162 : ∀ s : Int32, zk_G E l X cL_pass 15 (some .boolean) yL_pass.cls wsL_pass ({ frames := 7, cells := 0, slots := 0, locals := 162 } : Room) 0 0 Q (zk_j [gX9 E b0 (v_state, v_history, v_program, v_forecast), gX9 E b1 (u_state, u_history, u_program, u_forecast), gA E b3 w_row]) [(0, .ref b0.1), (1, .ref b1.1), (2, .int x2), (3, .ref b3), (4, .int x4), (5, .int x5), (6, .int x6), (7, .int x7), (8, .int x8), (9, .int x9), (10, .int x10), (11, .int x11), (12, .int x12), (13, .int s)] 162 [] (k162 s)) (x13 : Int32), zk_G E l X cL_pass 15 (some .boolean) yL_pass.cls wsL_pass ({ frames := 7, cells := 0, slots := 0, locals := 162 } : Room) 0 0 Q (zk_j [gX9 E b0 (v_state, v_history, v_program, v_forecast), gX9 E b1 (u_state, u_history, u_program, u_forecast), gA E b3 w_row]) [(0, .ref b0.1), (1, .ref b1.1), (2, .int x2), (3, .ref b3), (4, .int x4), (5, .int x5), (6, .int x6), (7, .int x7), (8, .int x8), (9, .int x9), (10, .int x10), (11, .int x11), (12, .int x12), (13, .int x13)] 236 [] (f_L_pass_236 x4 x5 x6 x7 x8 v_state v_history v_forecast x9 x10 x11 x12 u_state u_history w_row k114 k162 x13) := by
    intro x4 x5 x6 x7 x8 v_state v_history v_forecast x9 x10 x11 x12 u_state u_history w_row k114 hk114 k162 hk162 x13
    unfold f_L_pass_236
    refine zk_iinc (x13 + 1) [(13, .int (x13 + 1)), (0, .ref b0.1), (1, .ref b1.1), (2, .int x2), (3, .ref b3), (4, .int x4), (5, .int x5), (6, .int x6), (7, .int x7), (8, .int x8), (9, .int x9), (10, .int x10), (11, .int x11), (12, .int x12)] dL_pass_236 13 rfl rfl (by decide) rfl 239 rfl ?_
    refine zk_goto dL_pass_239 162 (by decide) ?_
    refine zk_lv [1, 2, 3, 4, 5, 6, 7, 8, 9, 10, 11, 12, 13, 0] rfl ?_
    exact hk162 (x13 + 1)
  have J162 : ∀ (x4 : Int32) (x5 : Int32) (x6 : Int32) (x7 : Int32) (x8 : Int32) (v_state : VX6) (v_history : VX2) (v_forecast : VX1) (k114 : Int32 × Int32 × Int32 × VX6 × VX2 × (Nat → Int32) → Option (Int32 × VX6 × VX2 × VX1 × VX6 × VX2 × (Nat → Int32))) (hk114 : ∀ s : Int32 × Int32 × Int32 × VX6 × VX2 × (Nat → Int32), zk_G E l X cL_pass 15 (some .boolean) yL_pass.cls wsL_pass ({ frames := 7, cells := 0, slots := 0, locals := 162 } : Room) 0 0 Q (zk_j [gX9 E b0 (v_state, v_history, v_program, v_forecast), gX9 E b1 (s.2.2.2.1, s.2.2.2.2.1, u_program, u_forecast), gA E b3 s.2.2.2.2.2]) [(0, .ref b0.1), (1, .ref b1.1), (2, .int x2), (3, .ref b3), (4, .int x4), (5, .int x5), (6, .int x6), (7, .int x7), (8, .int x8), (9, .int s.1), (10, .int s.2.1), (11, .int s.2.2.1)] 114 [] (k114 s)) (x9 : Int32) (x10 : Int32) (x11 : Int32) (x12 : Int32) (u_state : VX6) (u_history : VX2) (w_row : (Nat → Int32)) (n : Nat) (x13 : Int32), zk_G E l X cL_pass 15 (some .boolean) yL_pass.cls wsL_pass ({ frames := 7, cells := 0, slots := 0, locals := 162 } : Room) 0 0 Q (zk_j [gX9 E b0 (v_state, v_history, v_program, v_forecast), gX9 E b1 (u_state, u_history, u_program, u_forecast), gA E b3 w_row]) [(0, .ref b0.1), (1, .ref b1.1), (2, .int x2), (3, .ref b3), (4, .int x4), (5, .int x5), (6, .int x6), (7, .int x7), (8, .int x8), (9, .int x9), (10, .int x10), (11, .int x11), (12, .int x12), (13, .int x13)] 162 [] (zk_fx (F_L_pass_162 u_program x4 x5 x6 x7 x8 v_state v_history v_forecast x9 x10 x11 x12 u_state u_history w_row k114) n x13) := by
    intro x4 x5 x6 x7 x8 v_state v_history v_forecast k114 hk114 x9 x10 x11 x12 u_state u_history w_row n x13
    refine zk_loop (S := Int32) (F := F_L_pass_162 u_program x4 x5 x6 x7 x8 v_state v_history v_forecast x9 x10 x11 x12 u_state u_history w_row k114) (wS := fun s => (zk_j [gX9 E b0 (v_state, v_history, v_program, v_forecast), gX9 E b1 (u_state, u_history, u_program, u_forecast), gA E b3 w_row])) (lS := fun s => [(0, .ref b0.1), (1, .ref b1.1), (2, .int x2), (3, .ref b3), (4, .int x4), (5, .int x5), (6, .int x6), (7, .int x7), (8, .int x8), (9, .int x9), (10, .int x10), (11, .int x11), (12, .int x12), (13, .int s)]) (sS := fun _ => []) (fun k162 hk162 x13 => ?_) n x13
    unfold F_L_pass_162
    try dsimp only
    refine zk_iload dL_pass_162 13 rfl 164 rfl ?_
    refine zk_iload dL_pass_164 12 rfl 166 rfl ?_
    refine zk_icmp_ge dL_pass_166 242 (by decide) 169 rfl (fun _ => ?_) (fun _ => ?_)
    · refine zk_lv [0, 1, 2, 3, 4, 5, 6, 7, 8, 9, 10, 11, 12] rfl ?_
      exact J242 x4 x5 x6 x7 x8 v_state v_history v_forecast k114 hk114 x9 x10 x11 x12 u_state u_history w_row
    · refine zk_iload dL_pass_169 13 rfl 171 rfl ?_
      refine zk_bipush 12 dL_pass_171 (by decide) 173 rfl ?_
      refine zk_icmp_ge dL_pass_173 242 (by decide) 176 rfl (fun _ => ?_) (fun _ => ?_)
      · refine zk_lv [0, 1, 2, 3, 4, 5, 6, 7, 8, 9, 10, 11, 12] rfl ?_
        exact J242 x4 x5 x6 x7 x8 v_state v_history v_forecast k114 hk114 x9 x10 x11 x12 u_state u_history w_row
      · refine zk_aload_n dL_pass_176 1 rfl 177 rfl ?_
        refine zk_iload dL_pass_177 13 rfl 179 rfl ?_
        refine zk_iconst 0 dL_pass_179 (by decide) 180 rfl ?_
        refine zk_callV (ci := 9) (st := []) (c_X9_call E l b1 (u_state, u_history, u_program, u_forecast) x13 0) dL_pass_180 2 gL_pass_X9_call rfl rfl rfl cd_X9_call ⟨Nat.le_of_ble_eq_true rfl, Nat.le_of_ble_eq_true rfl⟩ ⟨Nat.zero_le _, Nat.zero_le _⟩ _ (fun r180 => (zk_j [gX9 E b0 (v_state, v_history, v_program, v_forecast), gX9 E b1 (u_state, u_history, u_program, u_forecast), gA E b3 w_row])) (zk_p1 (gs := [gX9 E b0 (v_state, v_history, v_program, v_forecast), gX9 E b1 (u_state, u_history, u_program, u_forecast), gA E b3 w_row]) (i := 1) rfl) (fun r180 => (zk_q1 (gs := [gX9 E b0 (v_state, v_history, v_program, v_forecast), gX9 E b1 (u_state, u_history, u_program, u_forecast), gA E b3 w_row]) (i := 1) rfl rfl)) rfl rfl rfl rfl (Nat.le_of_ble_eq_true rfl) (fun r180 => [.int r180]) (fun _ => rfl) 183 rfl (fun r180 => ?_)
        refine zk_istore [(14, .int r180), (0, .ref b0.1), (1, .ref b1.1), (2, .int x2), (3, .ref b3), (4, .int x4), (5, .int x5), (6, .int x6), (7, .int x7), (8, .int x8), (9, .int x9), (10, .int x10), (11, .int x11), (12, .int x12), (13, .int x13)] dL_pass_183 (by decide) rfl 185 rfl ?_
        refine zk_aload_n dL_pass_185 2 rfl 186 rfl ?_
        refine zk_iload dL_pass_186 14 rfl 188 rfl ?_
        refine zk_iconst 2 dL_pass_188 (by decide) 189 rfl ?_
        refine zk_callV (ci := 9) (st := []) (c_X9_call E l b1 (u_state, u_history, u_program, u_forecast) x13 2) dL_pass_189 2 gL_pass_X9_call rfl rfl rfl cd_X9_call ⟨Nat.le_of_ble_eq_true rfl, Nat.le_of_ble_eq_true rfl⟩ ⟨Nat.zero_le _, Nat.zero_le _⟩ _ (fun r189 => (zk_j [gX9 E b0 (v_state, v_history, v_program, v_forecast), gX9 E b1 (u_state, u_history, u_program, u_forecast), gA E b3 w_row])) (zk_p1 (gs := [gX9 E b0 (v_state, v_history, v_program, v_forecast), gX9 E b1 (u_state, u_history, u_program, u_forecast), gA E b3 w_row]) (i := 1) rfl) (fun r189 => (zk_q1 (gs := [gX9 E b0 (v_state, v_history, v_program, v_forecast), gX9 E b1 (u_state, u_history, u_program, u_forecast), gA E b3 w_row]) (i := 1) rfl rfl)) rfl rfl rfl rfl (Nat.le_of_ble_eq_true rfl) (fun r189 => [.int r189]) (fun _ => rfl) 192 rfl (fun r189 => ?_)
        refine zk_aload_n dL_pass_192 2 rfl 193 rfl ?_
        refine zk_iconst 0 dL_pass_193 (by decide) 194 rfl ?_
        refine zk_callV (ci := 9) (st := [.int r189]) (c_X9_count E l b1 (u_state, u_history, u_program, u_forecast) 0) dL_pass_194 1 gL_pass_X9_count rfl rfl rfl cd_X9_count ⟨Nat.le_of_ble_eq_true rfl, Nat.le_of_ble_eq_true rfl⟩ ⟨Nat.zero_le _, Nat.zero_le _⟩ _ (fun r194 => (zk_j [gX9 E b0 (v_state, v_history, v_program, v_forecast), gX9 E b1 (u_state, u_history, u_program, u_forecast), gA E b3 w_row])) (zk_p1 (gs := [gX9 E b0 (v_state, v_history, v_program, v_forecast), gX9 E b1 (u_state, u_history, u_program, u_forecast), gA E b3 w_row]) (i := 1) rfl) (fun r194 => (zk_q1 (gs := [gX9 E b0 (v_state, v_history, v_program, v_forecast), gX9 E b1 (u_state, u_history, u_program, u_forecast), gA E b3 w_row]) (i := 1) rfl rfl)) rfl rfl rfl rfl (Nat.le_of_ble_eq_true rfl) (fun r194 => [.int r194, .int r189]) (fun _ => rfl) 197 rfl (fun r194 => ?_)
        refine zk_icmp_ne dL_pass_197 234 (by decide) 200 rfl (fun _ => ?_) (fun _ => ?_)
        · refine zk_aload_n dL_pass_200 2 rfl 201 rfl ?_
          refine zk_iload dL_pass_201 14 rfl 203 rfl ?_
          refine zk_iconst 1 dL_pass_203 (by decide) 204 rfl ?_
          refine zk_callV (ci := 9) (st := []) (c_X9_call E l b1 (u_state, u_history, u_program, u_forecast) x13 1) dL_pass_204 2 gL_pass_X9_call rfl rfl rfl cd_X9_call ⟨Nat.le_of_ble_eq_true rfl, Nat.le_of_ble_eq_true rfl⟩ ⟨Nat.zero_le _, Nat.zero_le _⟩ _ (fun r204 => (zk_j [gX9 E b0 (v_state, v_history, v_program, v_forecast), gX9 E b1 (u_state, u_history, u_program, u_forecast), gA E b3 w_row])) (zk_p1 (gs := [gX9 E b0 (v_state, v_history, v_program, v_forecast), gX9 E b1 (u_state, u_history, u_program, u_forecast), gA E b3 w_row]) (i := 1) rfl) (fun r204 => (zk_q1 (gs := [gX9 E b0 (v_state, v_history, v_program, v_forecast), gX9 E b1 (u_state, u_history, u_program, u_forecast), gA E b3 w_row]) (i := 1) rfl rfl)) rfl rfl rfl rfl (Nat.le_of_ble_eq_true rfl) (fun r204 => [.int r204]) (fun _ => rfl) 207 rfl (fun r204 => ?_)
          refine zk_aload_n dL_pass_207 2 rfl 208 rfl ?_
          refine zk_iconst 0 dL_pass_208 (by decide) 209 rfl ?_
          refine zk_callV (ci := 9) (st := [.int r204]) (c_X9_count E l b1 (u_state, u_history, u_program, u_forecast) 0) dL_pass_209 1 gL_pass_X9_count rfl rfl rfl cd_X9_count ⟨Nat.le_of_ble_eq_true rfl, Nat.le_of_ble_eq_true rfl⟩ ⟨Nat.zero_le _, Nat.zero_le _⟩ _ (fun r209 => (zk_j [gX9 E b0 (v_state, v_history, v_program, v_forecast), gX9 E b1 (u_state, u_history, u_program, u_forecast), gA E b3 w_row])) (zk_p1 (gs := [gX9 E b0 (v_state, v_history, v_program, v_forecast), gX9 E b1 (u_state, u_history, u_program, u_forecast), gA E b3 w_row]) (i := 1) rfl) (fun r209 => (zk_q1 (gs := [gX9 E b0 (v_state, v_history, v_program, v_forecast), gX9 E b1 (u_state, u_history, u_program, u_forecast), gA E b3 w_row]) (i := 1) rfl rfl)) rfl rfl rfl rfl (Nat.le_of_ble_eq_true rfl) (fun r209 => [.int r209, .int r204]) (fun _ => rfl) 212 rfl (fun r209 => ?_)
          refine zk_icmp_gt dL_pass_212 234 (by decide) 215 rfl (fun _ => ?_) (fun _ => ?_)
          · refine zk_iconst 0 dL_pass_234 (by decide) 235 rfl ?_
            exact zk_zretL hQ dL_pass_235 (Or.inl rfl) rfl rfl
          · refine zk_aload_n dL_pass_215 4 rfl 216 rfl ?_
            refine zk_iload dL_pass_216 0 rfl 218 rfl ?_
            refine zk_iald dL_pass_218 544 rfl 219 rfl ?_
            refine zk_if_lt dL_pass_219 236 (by decide) 222 rfl (fun _ => ?_) (fun _ => ?_)
            · refine zk_lv [1, 2, 3, 4, 5, 6, 7, 8, 9, 10, 11, 12, 13, 14] rfl ?_
              exact J236 x4 x5 x6 x7 x8 v_state v_history v_forecast x9 x10 x11 x12 u_state u_history w_row k114 hk114 k162 hk162 x13
            · refine zk_aload_n dL_pass_222 4 rfl 223 rfl ?_
              refine zk_iload dL_pass_223 0 rfl 225 rfl ?_
              refine zk_iald dL_pass_225 544 rfl 226 rfl ?_
              refine zk_aload_n dL_pass_226 2 rfl 227 rfl ?_
              refine zk_iconst 0 dL_pass_227 (by decide) 228 rfl ?_
              refine zk_callV (ci := 9) (st := [.int (w_row r180.toNatClampNeg)]) (c_X9_count E l b1 (u_state, u_history, u_program, u_forecast) 0) dL_pass_228 1 gL_pass_X9_count rfl rfl rfl cd_X9_count ⟨Nat.le_of_ble_eq_true rfl, Nat.le_of_ble_eq_true rfl⟩ ⟨Nat.zero_le _, Nat.zero_le _⟩ _ (fun r228 => (zk_j [gX9 E b0 (v_state, v_history, v_program, v_forecast), gX9 E b1 (u_state, u_history, u_program, u_forecast), gA E b3 w_row])) (zk_p1 (gs := [gX9 E b0 (v_state, v_history, v_program, v_forecast), gX9 E b1 (u_state, u_history, u_program, u_forecast), gA E b3 w_row]) (i := 1) rfl) (fun r228 => (zk_q1 (gs := [gX9 E b0 (v_state, v_history, v_program, v_forecast), gX9 E b1 (u_state, u_history, u_program, u_forecast), gA E b3 w_row]) (i := 1) rfl rfl)) rfl rfl rfl rfl (Nat.le_of_ble_eq_true rfl) (fun r228 => [.int r228, .int (w_row r180.toNatClampNeg)]) (fun _ => rfl) 231 rfl (fun r228 => ?_)
              refine zk_icmp_eq dL_pass_231 236 (by decide) 234 rfl (fun _ => ?_) (fun _ => ?_)
              · refine zk_lv [1, 2, 3, 4, 5, 6, 7, 8, 9, 10, 11, 12, 13, 14] rfl ?_
                exact J236 x4 x5 x6 x7 x8 v_state v_history v_forecast x9 x10 x11 x12 u_state u_history w_row k114 hk114 k162 hk162 x13
              · refine zk_iconst 0 dL_pass_234 (by decide) 235 rfl ?_
                exact zk_zretL hQ dL_pass_235 (Or.inl rfl) rfl rfl
        · refine zk_iconst 0 dL_pass_234 (by decide) 235 rfl ?_
          exact zk_zretL hQ dL_pass_235 (Or.inl rfl) rfl rfl
  have J114 : ∀ (x4 : Int32) (x5 : Int32) (x6 : Int32) (x7 : Int32) (x8 : Int32) (v_state : VX6) (v_history : VX2) (v_forecast : VX1) (n : Nat) (x9 : Int32) (x10 : Int32) (x11 : Int32) (u_state : VX6) (u_history : VX2) (w_row : (Nat → Int32)), zk_G E l X cL_pass 15 (some .boolean) yL_pass.cls wsL_pass ({ frames := 7, cells := 0, slots := 0, locals := 162 } : Room) 0 0 Q (zk_j [gX9 E b0 (v_state, v_history, v_program, v_forecast), gX9 E b1 (u_state, u_history, u_program, u_forecast), gA E b3 w_row]) [(0, .ref b0.1), (1, .ref b1.1), (2, .int x2), (3, .ref b3), (4, .int x4), (5, .int x5), (6, .int x6), (7, .int x7), (8, .int x8), (9, .int x9), (10, .int x10), (11, .int x11)] 114 [] (zk_fx (F_L_pass_114 x2 u_program x4 x5 x6 x7 x8 v_state v_history v_forecast ) n (x9, x10, x11, u_state, u_history, w_row)) := by
    intro x4 x5 x6 x7 x8 v_state v_history v_forecast n x9 x10 x11 u_state u_history w_row
    refine zk_loop (S := Int32 × Int32 × Int32 × VX6 × VX2 × (Nat → Int32)) (F := F_L_pass_114 x2 u_program x4 x5 x6 x7 x8 v_state v_history v_forecast) (wS := fun s => (zk_j [gX9 E b0 (v_state, v_history, v_program, v_forecast), gX9 E b1 (s.2.2.2.1, s.2.2.2.2.1, u_program, u_forecast), gA E b3 s.2.2.2.2.2])) (lS := fun s => [(0, .ref b0.1), (1, .ref b1.1), (2, .int x2), (3, .ref b3), (4, .int x4), (5, .int x5), (6, .int x6), (7, .int x7), (8, .int x8), (9, .int s.1), (10, .int s.2.1), (11, .int s.2.2.1)]) (sS := fun _ => []) (fun k114 hk114 s => ?_) n (x9, x10, x11, u_state, u_history, w_row)
    obtain ⟨x9, x10, x11, u_state, u_history, w_row⟩ := s
    unfold F_L_pass_114
    try dsimp only
    refine zk_iload dL_pass_114 11 rfl 116 rfl ?_
    refine zk_iload_n dL_pass_116 2 rfl 117 rfl ?_
    refine zk_icmp_ge dL_pass_117 311 (by decide) 120 rfl (fun _ => ?_) (fun _ => ?_)
    · refine zk_iconst 0 dL_pass_311 (by decide) 312 rfl ?_
      refine zk_istore [(11, .int 0), (0, .ref b0.1), (1, .ref b1.1), (2, .int x2), (3, .ref b3), (4, .int x4), (5, .int x5), (6, .int x6), (7, .int x7), (8, .int x8), (9, .int x9), (10, .int x10)] dL_pass_312 (by decide) rfl 314 rfl ?_
      refine zk_lv [1, 2, 3, 4, 5, 6, 7, 8, 9, 10, 11, 0] rfl ?_
      exact J314   x4 x5 x6 x7 x8 x9 x10 v_state v_history v_forecast u_state u_history w_row zk_N 0
    · refine zk_aload_n dL_pass_120 1 rfl 121 rfl ?_
      refine zk_iconst 1 dL_pass_121 (by decide) 122 rfl ?_
      refine zk_callV (ci := 9) (st := []) (c_X9_pass E l b1 (u_state, u_history, u_program, u_forecast) 1) dL_pass_122 1 gL_pass_X9_pass rfl rfl rfl cd_X9_pass ⟨Nat.le_of_ble_eq_true rfl, Nat.le_of_ble_eq_true rfl⟩ ⟨Nat.zero_le _, Nat.zero_le _⟩ _ (fun r122 => (zk_j [gX9 E b0 (v_state, v_history, v_program, v_forecast), gX9 E b1 (r122.2.1, r122.2.2, u_program, u_forecast), gA E b3 w_row])) (zk_p1 (gs := [gX9 E b0 (v_state, v_history, v_program, v_forecast), gX9 E b1 (u_state, u_history, u_program, u_forecast), gA E b3 w_row]) (i := 1) rfl) (fun r122 => (zk_q1 (gs := [gX9 E b0 (v_state, v_history, v_program, v_forecast), gX9 E b1 (u_state, u_history, u_program, u_forecast), gA E b3 w_row]) (i := 1) rfl rfl)) rfl rfl rfl rfl (Nat.le_of_ble_eq_true rfl) (fun r122 => [.int r122.1]) (fun _ => rfl) 125 rfl (fun r122 => ?_)
      refine zk_istore [(12, .int r122.1), (0, .ref b0.1), (1, .ref b1.1), (2, .int x2), (3, .ref b3), (4, .int x4), (5, .int x5), (6, .int x6), (7, .int x7), (8, .int x8), (9, .int x9), (10, .int x10), (11, .int x11)] dL_pass_125 (by decide) rfl 127 rfl ?_
      refine zk_iload dL_pass_127 0 rfl 129 rfl ?_
      refine zk_if_lt dL_pass_129 157 (by decide) 132 rfl (fun _ => ?_) (fun _ => ?_)
      · refine zk_iconst 0 dL_pass_157 (by decide) 158 rfl ?_
        exact zk_zretL hQ dL_pass_158 (Or.inl rfl) rfl rfl
      · refine zk_iload dL_pass_132 0 rfl 134 rfl ?_
        refine zk_aload_n dL_pass_134 2 rfl 135 rfl ?_
        refine zk_bipush 14 dL_pass_135 (by decide) 137 rfl ?_
        refine zk_callV (ci := 9) (st := [.int r122.1]) (c_X9_count E l b1 (r122.2.1, r122.2.2, u_program, u_forecast) 14) dL_pass_137 1 gL_pass_X9_count rfl rfl rfl cd_X9_count ⟨Nat.le_of_ble_eq_true rfl, Nat.le_of_ble_eq_true rfl⟩ ⟨Nat.zero_le _, Nat.zero_le _⟩ _ (fun r137 => (zk_j [gX9 E b0 (v_state, v_history, v_program, v_forecast), gX9 E b1 (r122.2.1, r122.2.2, u_program, u_forecast), gA E b3 w_row])) (zk_p1 (gs := [gX9 E b0 (v_state, v_history, v_program, v_forecast), gX9 E b1 (r122.2.1, r122.2.2, u_program, u_forecast), gA E b3 w_row]) (i := 1) rfl) (fun r137 => (zk_q1 (gs := [gX9 E b0 (v_state, v_history, v_program, v_forecast), gX9 E b1 (r122.2.1, r122.2.2, u_program, u_forecast), gA E b3 w_row]) (i := 1) rfl rfl)) rfl rfl rfl rfl (Nat.le_of_ble_eq_true rfl) (fun r137 => [.int r137, .int r122.1]) (fun _ => rfl) 140 rfl (fun r137 => ?_)
        refine zk_icmp_gt dL_pass_140 157 (by decide) 143 rfl (fun _ => ?_) (fun _ => ?_)
        · refine zk_iconst 0 dL_pass_157 (by decide) 158 rfl ?_
          exact zk_zretL hQ dL_pass_158 (Or.inl rfl) rfl rfl
        · refine zk_aload_n dL_pass_143 2 rfl 144 rfl ?_
          refine zk_iconst 4 dL_pass_144 (by decide) 145 rfl ?_
          refine zk_callV (ci := 9) (st := []) (c_X9_count E l b1 (r122.2.1, r122.2.2, u_program, u_forecast) 4) dL_pass_145 1 gL_pass_X9_count rfl rfl rfl cd_X9_count ⟨Nat.le_of_ble_eq_true rfl, Nat.le_of_ble_eq_true rfl⟩ ⟨Nat.zero_le _, Nat.zero_le _⟩ _ (fun r145 => (zk_j [gX9 E b0 (v_state, v_history, v_program, v_forecast), gX9 E b1 (r122.2.1, r122.2.2, u_program, u_forecast), gA E b3 w_row])) (zk_p1 (gs := [gX9 E b0 (v_state, v_history, v_program, v_forecast), gX9 E b1 (r122.2.1, r122.2.2, u_program, u_forecast), gA E b3 w_row]) (i := 1) rfl) (fun r145 => (zk_q1 (gs := [gX9 E b0 (v_state, v_history, v_program, v_forecast), gX9 E b1 (r122.2.1, r122.2.2, u_program, u_forecast), gA E b3 w_row]) (i := 1) rfl rfl)) rfl rfl rfl rfl (Nat.le_of_ble_eq_true rfl) (fun r145 => [.int r145]) (fun _ => rfl) 148 rfl (fun r145 => ?_)
          refine zk_aload_n dL_pass_148 2 rfl 149 rfl ?_
          refine zk_bipush 15 dL_pass_149 (by decide) 151 rfl ?_
          refine zk_callV (ci := 9) (st := [.int r145]) (c_X9_count E l b1 (r122.2.1, r122.2.2, u_program, u_forecast) 15) dL_pass_151 1 gL_pass_X9_count rfl rfl rfl cd_X9_count ⟨Nat.le_of_ble_eq_true rfl, Nat.le_of_ble_eq_true rfl⟩ ⟨Nat.zero_le _, Nat.zero_le _⟩ _ (fun r151 => (zk_j [gX9 E b0 (v_state, v_history, v_program, v_forecast), gX9 E b1 (r122.2.1, r122.2.2, u_program, u_forecast), gA E b3 w_row])) (zk_p1 (gs := [gX9 E b0 (v_state, v_history, v_program, v_forecast), gX9 E b1 (r122.2.1, r122.2.2, u_program, u_forecast), gA E b3 w_row]) (i := 1) rfl) (fun r151 => (zk_q1 (gs := [gX9 E b0 (v_state, v_history, v_program, v_forecast), gX9 E b1 (r122.2.1, r122.2.2, u_program, u_forecast), gA E b3 w_row]) (i := 1) rfl rfl)) rfl rfl rfl rfl (Nat.le_of_ble_eq_true rfl) (fun r151 => [.int r151, .int r145]) (fun _ => rfl) 154 rfl (fun r151 => ?_)
          refine zk_icmp_le dL_pass_154 159 (by decide) 157 rfl (fun _ => ?_) (fun _ => ?_)
          · refine zk_iconst 0 dL_pass_159 (by decide) 160 rfl ?_
            refine zk_istore [(13, .int 0), (12, .int r122.1), (0, .ref b0.1), (1, .ref b1.1), (2, .int x2), (3, .ref b3), (4, .int x4), (5, .int x5), (6, .int x6), (7, .int x7), (8, .int x8), (9, .int x9), (10, .int x10), (11, .int x11)] dL_pass_160 (by decide) rfl 162 rfl ?_
            refine zk_lv [2, 3, 4, 5, 6, 7, 8, 9, 10, 11, 12, 13, 1, 0] rfl ?_
            exact J162 x4 x5 x6 x7 x8 v_state v_history v_forecast k114 hk114 x9 x10 x11 r122.1 r122.2.1 r122.2.2 w_row zk_N 0
          · refine zk_iconst 0 dL_pass_157 (by decide) 158 rfl ?_
            exact zk_zretL hQ dL_pass_158 (Or.inl rfl) rfl rfl
  have J91 : ∀ (x4 : Int32) (x5 : Int32) (x6 : Int32) (x7 : Int32) (v_state : VX6) (v_history : VX2) (u_state : VX6) (u_history : VX2) (k34 : Int32 × VX1 × (Nat → Int32) → Option (Int32 × VX6 × VX2 × VX1 × VX6 × VX2 × (Nat → Int32))) (hk34 : ∀ s : Int32 × VX1 × (Nat → Int32), zk_G E l X cL_pass 15 (some .boolean) yL_pass.cls wsL_pass ({ frames := 7, cells := 0, slots := 0, locals := 162 } : Room) 0 0 Q (zk_j [gX9 E b0 (v_state, v_history, v_program, s.2.1), gX9 E b1 (u_state, u_history, u_program, u_forecast), gA E b3 s.2.2]) [(0, .ref b0.1), (1, .ref b1.1), (2, .int x2), (3, .ref b3), (4, .int x4), (5, .int x5), (6, .int x6), (7, .int x7), (8, .int s.1)] 34 [] (k34 s)) (x8 : Int32) (v_forecast : VX1) (w_row : (Nat → Int32)), zk_G E l X cL_pass 15 (some .boolean) yL_pass.cls wsL_pass ({ frames := 7, cells := 0, slots := 0, locals := 162 } : Room) 0 0 Q (zk_j [gX9 E b0 (v_state, v_history, v_program, v_forecast), gX9 E b1 (u_state, u_history, u_program, u_forecast), gA E b3 w_row]) [(0, .ref b0.1), (1, .ref b1.1), (2, .int x2), (3, .ref b3), (4, .int x4), (5, .int x5), (6, .int x6), (7, .int x7), (8, .int x8)] 91 [] (f_L_pass_91 x4 x5 x6 x7 v_state v_history u_state u_history k34 x8 v_forecast w_row) := by
    intro x4 x5 x6 x7 v_state v_history u_state u_history k34 hk34 x8 v_forecast w_row
    unfold f_L_pass_91
    refine zk_iinc (x8 + 1) [(8, .int (x8 + 1)), (0, .ref b0.1), (1, .ref b1.1), (2, .int x2), (3, .ref b3), (4, .int x4), (5, .int x5), (6, .int x6), (7, .int x7)] dL_pass_91 8 rfl rfl (by decide) rfl 94 rfl ?_
    refine zk_goto dL_pass_94 34 (by decide) ?_
    refine zk_lv [1, 2, 3, 4, 5, 6, 7, 8, 0] rfl ?_
    exact hk34 ((x8 + 1), v_forecast, w_row)
  have J66 : ∀ (x4 : Int32) (x5 : Int32) (x6 : Int32) (x7 : Int32) (v_state : VX6) (v_history : VX2) (u_state : VX6) (u_history : VX2) (k34 : Int32 × VX1 × (Nat → Int32) → Option (Int32 × VX6 × VX2 × VX1 × VX6 × VX2 × (Nat → Int32))) (hk34 : ∀ s : Int32 × VX1 × (Nat → Int32), zk_G E l X cL_pass 15 (some .boolean) yL_pass.cls wsL_pass ({ frames := 7, cells := 0, slots := 0, locals := 162 } : Room) 0 0 Q (zk_j [gX9 E b0 (v_state, v_history, v_program, s.2.1), gX9 E b1 (u_state, u_history, u_program, u_forecast), gA E b3 s.2.2]) [(0, .ref b0.1), (1, .ref b1.1), (2, .int x2), (3, .ref b3), (4, .int x4), (5, .int x5), (6, .int x6), (7, .int x7), (8, .int s.1)] 34 [] (k34 s)) (s66_1 : Int32) (s66_2 : Int32) (x8 : Int32) (v_forecast : VX1) (w_row : (Nat → Int32)), zk_G E l X cL_pass 15 (some .boolean) yL_pass.cls wsL_pass ({ frames := 7, cells := 0, slots := 0, locals := 162 } : Room) 0 0 Q (zk_j [gX9 E b0 (v_state, v_history, v_program, v_forecast), gX9 E b1 (u_state, u_history, u_program, u_forecast), gA E b3 w_row]) [(0, .ref b0.1), (1, .ref b1.1), (2, .int x2), (3, .ref b3), (4, .int x4), (5, .int x5), (6, .int x6), (7, .int x7), (8, .int x8)] 66 [.int s66_2, .int s66_1, .ref b3] (f_L_pass_66 x4 x5 x6 x7 v_state v_history u_state u_history k34 s66_1 s66_2 x8 v_forecast w_row) := by
    intro x4 x5 x6 x7 v_state v_history u_state u_history k34 hk34 s66_1 s66_2 x8 v_forecast w_row
    unfold f_L_pass_66
    refine zk_iast (zk_j [gX9 E b0 (v_state, v_history, v_program, v_forecast), gX9 E b1 (u_state, u_history, u_program, u_forecast), gA E b3 (upd w_row s66_1.toNatClampNeg s66_2)]) dL_pass_66 544 rfl rfl 67 rfl ?_
    refine zk_nmw (fun v_row_1 => (zk_j [gX9 E b0 (v_state, v_history, v_program, v_forecast), gX9 E b1 (u_state, u_history, u_program, u_forecast), gA E b3 v_row_1])) _ rfl (fun v_row_1 => ?_)
    refine zk_aload_n dL_pass_67 0 rfl 68 rfl ?_
    refine zk_iload dL_pass_68 8 rfl 70 rfl ?_
    refine zk_iconst 0 dL_pass_70 (by decide) 71 rfl ?_
    refine zk_callV (ci := 9) (st := []) (c_X9_promise E l b0 (v_state, v_history, v_program, v_forecast) x8 0) dL_pass_71 2 gL_pass_X9_promise rfl rfl rfl cd_X9_promise ⟨Nat.le_of_ble_eq_true rfl, Nat.le_of_ble_eq_true rfl⟩ ⟨Nat.zero_le _, Nat.zero_le _⟩ _ (fun r71 => (zk_j [gX9 E b0 (v_state, v_history, v_program, v_forecast), gX9 E b1 (u_state, u_history, u_program, u_forecast), gA E b3 v_row_1])) (zk_p1 (gs := [gX9 E b0 (v_state, v_history, v_program, v_forecast), gX9 E b1 (u_state, u_history, u_program, u_forecast), gA E b3 v_row_1]) (i := 0) rfl) (fun r71 => (zk_q1 (gs := [gX9 E b0 (v_state, v_history, v_program, v_forecast), gX9 E b1 (u_state, u_history, u_program, u_forecast), gA E b3 v_row_1]) (i := 0) rfl rfl)) rfl rfl rfl rfl (Nat.le_of_ble_eq_true rfl) (fun r71 => [.int r71]) (fun _ => rfl) 74 rfl (fun r71 => ?_)
    refine zk_iconst 2 dL_pass_74 (by decide) 75 rfl ?_
    refine zk_icmp_lt dL_pass_75 91 (by decide) 78 rfl (fun _ => ?_) (fun _ => ?_)
    · exact J91 x4 x5 x6 x7 v_state v_history u_state u_history k34 hk34 x8 v_forecast v_row_1
    · refine zk_aload_n dL_pass_78 0 rfl 79 rfl ?_
      refine zk_iload dL_pass_79 8 rfl 81 rfl ?_
      refine zk_callV (ci := 9) (st := []) (c_X9_when E l b0 (v_state, v_history, v_program, v_forecast) x8) dL_pass_81 1 gL_pass_X9_when rfl rfl rfl cd_X9_when ⟨Nat.le_of_ble_eq_true rfl, Nat.le_of_ble_eq_true rfl⟩ ⟨Nat.zero_le _, Nat.zero_le _⟩ _ (fun r81 => (zk_j [gX9 E b0 (v_state, v_history, v_program, r81.2), gX9 E b1 (u_state, u_history, u_program, u_forecast), gA E b3 v_row_1])) (zk_p1 (gs := [gX9 E b0 (v_state, v_history, v_program, v_forecast), gX9 E b1 (u_state, u_history, u_program, u_forecast), gA E b3 v_row_1]) (i := 0) rfl) (fun r81 => (zk_q1 (gs := [gX9 E b0 (v_state, v_history, v_program, v_forecast), gX9 E b1 (u_state, u_history, u_program, u_forecast), gA E b3 v_row_1]) (i := 0) rfl rfl)) rfl rfl rfl rfl (Nat.le_of_ble_eq_true rfl) (fun r81 => [.int r81.1]) (fun _ => rfl) 84 rfl (fun r81 => ?_)
      refine zk_bipush (-2) dL_pass_84 (by decide) 86 rfl ?_
      refine zk_icmp_eq dL_pass_86 91 (by decide) 89 rfl (fun _ => ?_) (fun _ => ?_)
      · exact J91 x4 x5 x6 x7 v_state v_history u_state u_history k34 hk34 x8 r81.2 v_row_1
      · refine zk_iconst 0 dL_pass_89 (by decide) 90 rfl ?_
        exact zk_zretL hQ dL_pass_90 (Or.inl rfl) rfl rfl
  have J34 : ∀ (x4 : Int32) (x5 : Int32) (x6 : Int32) (x7 : Int32) (v_state : VX6) (v_history : VX2) (u_state : VX6) (u_history : VX2) (n : Nat) (x8 : Int32) (v_forecast : VX1) (w_row : (Nat → Int32)), zk_G E l X cL_pass 15 (some .boolean) yL_pass.cls wsL_pass ({ frames := 7, cells := 0, slots := 0, locals := 162 } : Room) 0 0 Q (zk_j [gX9 E b0 (v_state, v_history, v_program, v_forecast), gX9 E b1 (u_state, u_history, u_program, u_forecast), gA E b3 w_row]) [(0, .ref b0.1), (1, .ref b1.1), (2, .int x2), (3, .ref b3), (4, .int x4), (5, .int x5), (6, .int x6), (7, .int x7), (8, .int x8)] 34 [] (zk_fx (F_L_pass_34 x2 v_program u_program x4 x5 x6 x7 v_state v_history u_state u_history ) n (x8, v_forecast, w_row)) := by
    intro x4 x5 x6 x7 v_state v_history u_state u_history n x8 v_forecast w_row
    refine zk_loop (S := Int32 × VX1 × (Nat → Int32)) (F := F_L_pass_34 x2 v_program u_program x4 x5 x6 x7 v_state v_history u_state u_history) (wS := fun s => (zk_j [gX9 E b0 (v_state, v_history, v_program, s.2.1), gX9 E b1 (u_state, u_history, u_program, u_forecast), gA E b3 s.2.2])) (lS := fun s => [(0, .ref b0.1), (1, .ref b1.1), (2, .int x2), (3, .ref b3), (4, .int x4), (5, .int x5), (6, .int x6), (7, .int x7), (8, .int s.1)]) (sS := fun _ => []) (fun k34 hk34 s => ?_) n (x8, v_forecast, w_row)
    obtain ⟨x8, v_forecast, w_row⟩ := s
    unfold F_L_pass_34
    try dsimp only
    refine zk_iload dL_pass_34 8 rfl 36 rfl ?_
    refine zk_iload dL_pass_36 7 rfl 38 rfl ?_
    refine zk_icmp_ge dL_pass_38 97 (by decide) 41 rfl (fun _ => ?_) (fun _ => ?_)
    · refine zk_aload_n dL_pass_97 0 rfl 98 rfl ?_
      refine zk_bipush 6 dL_pass_98 (by decide) 100 rfl ?_
      refine zk_callV (ci := 9) (st := []) (c_X9_count E l b0 (v_state, v_history, v_program, v_forecast) 6) dL_pass_100 1 gL_pass_X9_count rfl rfl rfl cd_X9_count ⟨Nat.le_of_ble_eq_true rfl, Nat.le_of_ble_eq_true rfl⟩ ⟨Nat.zero_le _, Nat.zero_le _⟩ _ (fun r100 => (zk_j [gX9 E b0 (v_state, v_history, v_program, v_forecast), gX9 E b1 (u_state, u_history, u_program, u_forecast), gA E b3 w_row])) (zk_p1 (gs := [gX9 E b0 (v_state, v_history, v_program, v_forecast), gX9 E b1 (u_state, u_history, u_program, u_forecast), gA E b3 w_row]) (i := 0) rfl) (fun r100 => (zk_q1 (gs := [gX9 E b0 (v_state, v_history, v_program, v_forecast), gX9 E b1 (u_state, u_history, u_program, u_forecast), gA E b3 w_row]) (i := 0) rfl rfl)) rfl rfl rfl rfl (Nat.le_of_ble_eq_true rfl) (fun r100 => [.int r100]) (fun _ => rfl) 103 rfl (fun r100 => ?_)
      refine zk_istore [(8, .int r100), (0, .ref b0.1), (1, .ref b1.1), (2, .int x2), (3, .ref b3), (4, .int x4), (5, .int x5), (6, .int x6), (7, .int x7)] dL_pass_103 (by decide) rfl 105 rfl ?_
      refine zk_iconst 0 dL_pass_105 (by decide) 106 rfl ?_
      refine zk_istore [(9, .int 0), (8, .int r100), (0, .ref b0.1), (1, .ref b1.1), (2, .int x2), (3, .ref b3), (4, .int x4), (5, .int x5), (6, .int x6), (7, .int x7)] dL_pass_106 (by decide) rfl 108 rfl ?_
      refine zk_iconst 0 dL_pass_108 (by decide) 109 rfl ?_
      refine zk_istore [(10, .int 0), (9, .int 0), (8, .int r100), (0, .ref b0.1), (1, .ref b1.1), (2, .int x2), (3, .ref b3), (4, .int x4), (5, .int x5), (6, .int x6), (7, .int x7)] dL_pass_109 (by decide) rfl 111 rfl ?_
      refine zk_iconst 0 dL_pass_111 (by decide) 112 rfl ?_
      refine zk_istore [(11, .int 0), (10, .int 0), (9, .int 0), (8, .int r100), (0, .ref b0.1), (1, .ref b1.1), (2, .int x2), (3, .ref b3), (4, .int x4), (5, .int x5), (6, .int x6), (7, .int x7)] dL_pass_112 (by decide) rfl 114 rfl ?_
      refine zk_lv [4, 5, 6, 7, 8, 9, 10, 11, 3, 2, 1, 0] rfl ?_
      exact J114   x4 x5 x6 x7 r100 v_state v_history v_forecast zk_N 0 0 0 u_state u_history w_row
    · refine zk_aload_n dL_pass_41 3 rfl 42 rfl ?_
      refine zk_iload dL_pass_42 8 rfl 44 rfl ?_
      refine zk_aload_n dL_pass_44 0 rfl 45 rfl ?_
      refine zk_iload dL_pass_45 8 rfl 47 rfl ?_
      refine zk_iconst 0 dL_pass_47 (by decide) 48 rfl ?_
      refine zk_callV (ci := 9) (st := [.int x8, .ref b3]) (c_X9_promise E l b0 (v_state, v_history, v_program, v_forecast) x8 0) dL_pass_48 2 gL_pass_X9_promise rfl rfl rfl cd_X9_promise ⟨Nat.le_of_ble_eq_true rfl, Nat.le_of_ble_eq_true rfl⟩ ⟨Nat.zero_le _, Nat.zero_le _⟩ _ (fun r48 => (zk_j [gX9 E b0 (v_state, v_history, v_program, v_forecast), gX9 E b1 (u_state, u_history, u_program, u_forecast), gA E b3 w_row])) (zk_p1 (gs := [gX9 E b0 (v_state, v_history, v_program, v_forecast), gX9 E b1 (u_state, u_history, u_program, u_forecast), gA E b3 w_row]) (i := 0) rfl) (fun r48 => (zk_q1 (gs := [gX9 E b0 (v_state, v_history, v_program, v_forecast), gX9 E b1 (u_state, u_history, u_program, u_forecast), gA E b3 w_row]) (i := 0) rfl rfl)) rfl rfl rfl rfl (Nat.le_of_ble_eq_true rfl) (fun r48 => [.int r48, .int x8, .ref b3]) (fun _ => rfl) 51 rfl (fun r48 => ?_)
      refine zk_iconst 2 dL_pass_51 (by decide) 52 rfl ?_
      refine zk_icmp_ge dL_pass_52 64 (by decide) 55 rfl (fun _ => ?_) (fun _ => ?_)
      · refine zk_bipush (-9) dL_pass_64 (by decide) 66 rfl ?_
        exact J66 x4 x5 x6 x7 v_state v_history u_state u_history k34 hk34 x8 (-9) x8 v_forecast w_row
      · refine zk_aload_n dL_pass_55 0 rfl 56 rfl ?_
        refine zk_iload dL_pass_56 8 rfl 58 rfl ?_
        refine zk_callV (ci := 9) (st := [.int x8, .ref b3]) (c_X9_when E l b0 (v_state, v_history, v_program, v_forecast) x8) dL_pass_58 1 gL_pass_X9_when rfl rfl rfl cd_X9_when ⟨Nat.le_of_ble_eq_true rfl, Nat.le_of_ble_eq_true rfl⟩ ⟨Nat.zero_le _, Nat.zero_le _⟩ _ (fun r58 => (zk_j [gX9 E b0 (v_state, v_history, v_program, r58.2), gX9 E b1 (u_state, u_history, u_program, u_forecast), gA E b3 w_row])) (zk_p1 (gs := [gX9 E b0 (v_state, v_history, v_program, v_forecast), gX9 E b1 (u_state, u_history, u_program, u_forecast), gA E b3 w_row]) (i := 0) rfl) (fun r58 => (zk_q1 (gs := [gX9 E b0 (v_state, v_history, v_program, v_forecast), gX9 E b1 (u_state, u_history, u_program, u_forecast), gA E b3 w_row]) (i := 0) rfl rfl)) rfl rfl rfl rfl (Nat.le_of_ble_eq_true rfl) (fun r58 => [.int r58.1, .int x8, .ref b3]) (fun _ => rfl) 61 rfl (fun r58 => ?_)
        refine zk_goto dL_pass_61 66 (by decide) ?_
        exact J66 x4 x5 x6 x7 v_state v_history u_state u_history k34 hk34 x8 r58.1 x8 r58.2 w_row
  refine zk_eqv (w1 := (zk_j [gX9 E b0 (v_state, v_history, v_program, v_forecast), gX9 E b1 (u_state, u_history, u_program, u_forecast), gA E b3 w_row])) (lv1 := [(0, .ref b0.1), (1, .ref b1.1), (2, .int x2), (3, .ref b3)]) (st1 := []) (o1 := f_L_pass x2 v_state v_history v_program v_forecast u_state u_history u_program w_row) rfl rfl rfl rfl ?_
  unfold f_L_pass
  refine zk_aload_n dL_pass_0 0 rfl 1 rfl ?_
  refine zk_iload_n dL_pass_1 2 rfl 2 rfl ?_
  refine zk_iconst 0 dL_pass_2 (by decide) 3 rfl ?_
  refine zk_callV (ci := 9) (st := []) (c_X9_would E l b0 (v_state, v_history, v_program, v_forecast) x2 0) dL_pass_3 2 gL_pass_X9_would rfl rfl rfl cd_X9_would ⟨Nat.le_of_ble_eq_true rfl, Nat.le_of_ble_eq_true rfl⟩ ⟨Nat.zero_le _, Nat.zero_le _⟩ _ (fun r3 => (zk_j [gX9 E b0 (v_state, v_history, v_program, r3.2), gX9 E b1 (u_state, u_history, u_program, u_forecast), gA E b3 w_row])) (zk_p1 (gs := [gX9 E b0 (v_state, v_history, v_program, v_forecast), gX9 E b1 (u_state, u_history, u_program, u_forecast), gA E b3 w_row]) (i := 0) rfl) (fun r3 => (zk_q1 (gs := [gX9 E b0 (v_state, v_history, v_program, v_forecast), gX9 E b1 (u_state, u_history, u_program, u_forecast), gA E b3 w_row]) (i := 0) rfl rfl)) rfl rfl rfl rfl (Nat.le_of_ble_eq_true rfl) (fun r3 => [.int r3.1]) (fun _ => rfl) 6 rfl (fun r3 => ?_)
  refine zk_istore [(4, .int r3.1), (0, .ref b0.1), (1, .ref b1.1), (2, .int x2), (3, .ref b3)] dL_pass_6 (by decide) rfl 8 rfl ?_
  refine zk_aload_n dL_pass_8 1 rfl 9 rfl ?_
  refine zk_iload_n dL_pass_9 3 rfl 10 rfl ?_
  refine zk_iconst 1 dL_pass_10 (by decide) 11 rfl ?_
  refine zk_callV (ci := 9) (st := []) (c_X9_would E l b0 (v_state, v_history, v_program, r3.2) x2 1) dL_pass_11 2 gL_pass_X9_would rfl rfl rfl cd_X9_would ⟨Nat.le_of_ble_eq_true rfl, Nat.le_of_ble_eq_true rfl⟩ ⟨Nat.zero_le _, Nat.zero_le _⟩ _ (fun r11 => (zk_j [gX9 E b0 (v_state, v_history, v_program, r11.2), gX9 E b1 (u_state, u_history, u_program, u_forecast), gA E b3 w_row])) (zk_p1 (gs := [gX9 E b0 (v_state, v_history, v_program, r3.2), gX9 E b1 (u_state, u_history, u_program, u_forecast), gA E b3 w_row]) (i := 0) rfl) (fun r11 => (zk_q1 (gs := [gX9 E b0 (v_state, v_history, v_program, r3.2), gX9 E b1 (u_state, u_history, u_program, u_forecast), gA E b3 w_row]) (i := 0) rfl rfl)) rfl rfl rfl rfl (Nat.le_of_ble_eq_true rfl) (fun r11 => [.int r11.1]) (fun _ => rfl) 14 rfl (fun r11 => ?_)
  refine zk_istore [(5, .int r11.1), (4, .int r3.1), (0, .ref b0.1), (1, .ref b1.1), (2, .int x2), (3, .ref b3)] dL_pass_14 (by decide) rfl 16 rfl ?_
  refine zk_aload_n dL_pass_16 2 rfl 17 rfl ?_
  refine zk_iload_n dL_pass_17 4 rfl 18 rfl ?_
  refine zk_iconst 2 dL_pass_18 (by decide) 19 rfl ?_
  refine zk_callV (ci := 9) (st := []) (c_X9_would E l b0 (v_state, v_history, v_program, r11.2) x2 2) dL_pass_19 2 gL_pass_X9_would rfl rfl rfl cd_X9_would ⟨Nat.le_of_ble_eq_true rfl, Nat.le_of_ble_eq_true rfl⟩ ⟨Nat.zero_le _, Nat.zero_le _⟩ _ (fun r19 => (zk_j [gX9 E b0 (v_state, v_history, v_program, r19.2), gX9 E b1 (u_state, u_history, u_program, u_forecast), gA E b3 w_row])) (zk_p1 (gs := [gX9 E b0 (v_state, v_history, v_program, r11.2), gX9 E b1 (u_state, u_history, u_program, u_forecast), gA E b3 w_row]) (i := 0) rfl) (fun r19 => (zk_q1 (gs := [gX9 E b0 (v_state, v_history, v_program, r11.2), gX9 E b1 (u_state, u_history, u_program, u_forecast), gA E b3 w_row]) (i := 0) rfl rfl)) rfl rfl rfl rfl (Nat.le_of_ble_eq_true rfl) (fun r19 => [.int r19.1]) (fun _ => rfl) 22 rfl (fun r19 => ?_)
  refine zk_istore [(6, .int r19.1), (5, .int r11.1), (4, .int r3.1), (0, .ref b0.1), (1, .ref b1.1), (2, .int x2), (3, .ref b3)] dL_pass_22 (by decide) rfl 24 rfl ?_
  refine zk_aload_n dL_pass_24 3 rfl 25 rfl ?_
  refine zk_iconst 1 dL_pass_25 (by decide) 26 rfl ?_
  refine zk_callV (ci := 9) (st := []) (c_X9_count E l b0 (v_state, v_history, v_program, r19.2) 1) dL_pass_26 1 gL_pass_X9_count rfl rfl rfl cd_X9_count ⟨Nat.le_of_ble_eq_true rfl, Nat.le_of_ble_eq_true rfl⟩ ⟨Nat.zero_le _, Nat.zero_le _⟩ _ (fun r26 => (zk_j [gX9 E b0 (v_state, v_history, v_program, r19.2), gX9 E b1 (u_state, u_history, u_program, u_forecast), gA E b3 w_row])) (zk_p1 (gs := [gX9 E b0 (v_state, v_history, v_program, r19.2), gX9 E b1 (u_state, u_history, u_program, u_forecast), gA E b3 w_row]) (i := 0) rfl) (fun r26 => (zk_q1 (gs := [gX9 E b0 (v_state, v_history, v_program, r19.2), gX9 E b1 (u_state, u_history, u_program, u_forecast), gA E b3 w_row]) (i := 0) rfl rfl)) rfl rfl rfl rfl (Nat.le_of_ble_eq_true rfl) (fun r26 => [.int r26]) (fun _ => rfl) 29 rfl (fun r26 => ?_)
  refine zk_istore [(7, .int r26), (6, .int r19.1), (5, .int r11.1), (4, .int r3.1), (0, .ref b0.1), (1, .ref b1.1), (2, .int x2), (3, .ref b3)] dL_pass_29 (by decide) rfl 31 rfl ?_
  refine zk_iconst 0 dL_pass_31 (by decide) 32 rfl ?_
  refine zk_istore [(8, .int 0), (7, .int r26), (6, .int r19.1), (5, .int r11.1), (4, .int r3.1), (0, .ref b0.1), (1, .ref b1.1), (2, .int x2), (3, .ref b3)] dL_pass_32 (by decide) rfl 34 rfl ?_
  refine zk_lv [5, 6, 7, 8, 4, 3, 2, 1, 0] rfl ?_
  exact J34   r3.1 r11.1 r19.1 r26 v_state v_history u_state u_history zk_N 0 r19.2 w_row
def f_L_leastRoom_110 (v_program : VX4) (s110_0 : Int32) (x3 : Int32) (v_state : VX6) (v_history : VX2) (v_forecast : VX1) : Option (Int32 × VX6 × VX2 × VX1) := if s110_0 = 0 then some (0, v_state, v_history, v_forecast) else (f_X9_count 14 v_state v_history v_program).bind fun r120 => if r120 = x3 then some (1, v_state, v_history, v_forecast) else some (0, v_state, v_history, v_forecast)
def f_L_leastRoom_109 (v_program : VX4) (x3 : Int32) (v_state : VX6) (v_history : VX2) (v_forecast : VX1) : Option (Int32 × VX6 × VX2 × VX1) := f_L_leastRoom_110 v_program 0 x3 v_state v_history v_forecast
def f_L_leastRoom_105 (v_program : VX4) (x3 : Int32) (v_state : VX6) (v_history : VX2) (v_forecast : VX1) : Option (Int32 × VX6 × VX2 × VX1) := f_L_leastRoom_110 v_program 1 x3 v_state v_history v_forecast
def f_L_leastRoom_66 (x1 : Int32) (v_program : VX4) (s66_0 : Int32) (x3 : Int32) (x4 : Int32) (v_state : VX6) (v_history : VX2) (v_forecast : VX1) : Option (Int32 × VX6 × VX2 × VX1) := if s66_0 = 0 then f_L_leastRoom_109 v_program x3 v_state v_history v_forecast else if x4 = 0 then f_L_leastRoom_105 v_program x3 v_state v_history v_forecast else (f_X9_set 0 x4 v_state v_history).bind fun r82 => if r82.1 = x3 then (f_X9_would x1 1 r82.2.1 v_forecast).bind fun r92 => if r92.1 ≤ 0 then f_L_leastRoom_109 v_program x3 r82.2.1 r82.2.2 r92.2 else (f_X9_undo r82.2.1 r82.2.2).bind fun r99 => if r99.1 < 0 then f_L_leastRoom_109 v_program x3 r99.2.1 r99.2.2 r92.2 else f_L_leastRoom_105 v_program x3 r99.2.1 r99.2.2 r92.2 else f_L_leastRoom_109 v_program x3 r82.2.1 r82.2.2 v_forecast
def f_L_leastRoom_61 (x1 : Int32) (v_program : VX4) (x3 : Int32) (x4 : Int32) (v_state : VX6) (v_history : VX2) (v_forecast : VX1) : Option (Int32 × VX6 × VX2 × VX1) := f_L_leastRoom_66 x1 v_program 1 x3 x4 v_state v_history v_forecast
def f_L_leastRoom_65 (x1 : Int32) (v_program : VX4) (x3 : Int32) (x4 : Int32) (v_state : VX6) (v_history : VX2) (v_forecast : VX1) : Option (Int32 × VX6 × VX2 × VX1) := f_L_leastRoom_66 x1 v_program 0 x3 x4 v_state v_history v_forecast
def f_L_leastRoom_27 (x1 : Int32) (v_program : VX4) (s27_0 : Int32) (x2 : Int32) (x3 : Int32) (v_state : VX6) (v_history : VX2) (v_forecast : VX1) : Option (Int32 × VX6 × VX2 × VX1) := if x2 = (-9) then f_L_leastRoom_61 x1 v_program x3 s27_0 v_state v_history v_forecast else (f_X9_set 0 x2 v_state v_history).bind fun r38 => if r38.1 = x3 then (f_X9_would x1 1 r38.2.1 v_forecast).bind fun r48 => if r48.1 = 0 then (f_X9_undo r38.2.1 r38.2.2).bind fun r55 => if r55.1 < 0 then f_L_leastRoom_65 x1 v_program x3 s27_0 r55.2.1 r55.2.2 r48.2 else f_L_leastRoom_61 x1 v_program x3 s27_0 r55.2.1 r55.2.2 r48.2 else f_L_leastRoom_65 x1 v_program x3 s27_0 r38.2.1 r38.2.2 r48.2 else f_L_leastRoom_65 x1 v_program x3 s27_0 r38.2.1 r38.2.2 v_forecast
def f_L_leastRoom (x1 : Int32) (v_state : VX6) (v_history : VX2) (v_program : VX4) (v_forecast : VX1) : Option (Int32 × VX6 × VX2 × VX1) := (f_X9_leastRoom x1 v_state v_forecast).bind fun r2 => (f_X9_count 14 v_state v_history v_program).bind fun r9 => if r2.1 = (-9) then f_L_leastRoom_27 x1 v_program 20 r2.1 r9 v_state v_history r2.2 else f_L_leastRoom_27 x1 v_program (r2.1 - 1) r2.1 r9 v_state v_history r2.2
theorem cd_L_leastRoom : yL_leastRoom.cls ≠ "java/lang/invoke/MethodHandle" ∧ yL_leastRoom.cls ≠ "java/lang/invoke/VarHandle" ∧ (parseMethodDescriptor yL_leastRoom.desc).map (fun d => d.parameters.length) = some 2 := by decide +kernel
set_option maxRecDepth 100000 in
set_option maxHeartbeats 4000000 in
theorem c_L_leastRoom (E : zk_Env) (l : Launch) (b0 : aX9) (u0 : VX9) (x1 : Int32) : zk_Mc E l yL_leastRoom wsL_leastRoom ({ frames := 8, cells := 0, slots := 0, locals := 182 } : Room) [.ref b0.1, .int x1] (gX9 E b0 u0) (f_L_leastRoom x1 u0.1 u0.2.1 u0.2.2.1 u0.2.2.2) (fun r => some (.int r.1)) (fun r => (gX9 E b0 (r.2.1, r.2.2.1, u0.2.2.1, r.2.2.2))) := by
  obtain ⟨v_state, v_history, v_program, v_forecast⟩ := u0
  refine zk_M (cc := cL_leastRoom) (nL := 6) (ret := (some .boolean)) (by decide) rfl (Nat.le_of_ble_eq_true rfl) (fun X Q hQ => ?_)
  have J110 : ∀ (s110_0 : Int32) (x3 : Int32) (v_state : VX6) (v_history : VX2) (v_forecast : VX1), zk_G E l X cL_leastRoom 6 (some .boolean) yL_leastRoom.cls wsL_leastRoom ({ frames := 8, cells := 0, slots := 0, locals := 182 } : Room) 0 0 Q (gX9 E b0 (v_state, v_history, v_program, v_forecast)) [(0, .ref b0.1), (3, .int x3)] 110 [.int s110_0] (f_L_leastRoom_110 v_program s110_0 x3 v_state v_history v_forecast) := by
    intro s110_0 x3 v_state v_history v_forecast
    unfold f_L_leastRoom_110
    refine zk_istore [(5, .int s110_0), (0, .ref b0.1), (3, .int x3)] dL_leastRoom_110 (by decide) rfl 112 rfl ?_
    refine zk_iload dL_leastRoom_112 0 rfl 114 rfl ?_
    refine zk_if_eq dL_leastRoom_114 131 (by decide) 117 rfl (fun _ => ?_) (fun _ => ?_)
    · refine zk_iconst 0 dL_leastRoom_131 (by decide) 132 rfl ?_
      exact zk_zretL hQ dL_leastRoom_132 (Or.inl rfl) rfl rfl
    · refine zk_aload_n dL_leastRoom_117 1 rfl 118 rfl ?_
      refine zk_bipush 14 dL_leastRoom_118 (by decide) 120 rfl ?_
      refine zk_callV (ci := 9) (st := []) (c_X9_count E l b0 (v_state, v_history, v_program, v_forecast) 14) dL_leastRoom_120 1 gL_leastRoom_X9_count rfl rfl rfl cd_X9_count ⟨Nat.le_of_ble_eq_true rfl, Nat.le_of_ble_eq_true rfl⟩ ⟨Nat.zero_le _, Nat.zero_le _⟩ _ (fun r120 => (gX9 E b0 (v_state, v_history, v_program, v_forecast))) zk_pa (fun r120 => zk_qa) rfl rfl rfl rfl (Nat.le_of_ble_eq_true rfl) (fun r120 => [.int r120]) (fun _ => rfl) 123 rfl (fun r120 => ?_)
      refine zk_iload_n dL_leastRoom_123 2 rfl 124 rfl ?_
      refine zk_icmp_ne dL_leastRoom_124 131 (by decide) 127 rfl (fun _ => ?_) (fun _ => ?_)
      · refine zk_iconst 1 dL_leastRoom_127 (by decide) 128 rfl ?_
        refine zk_goto dL_leastRoom_128 132 (by decide) ?_
        exact zk_zretL hQ dL_leastRoom_132 (Or.inr rfl) rfl rfl
      · refine zk_iconst 0 dL_leastRoom_131 (by decide) 132 rfl ?_
        exact zk_zretL hQ dL_leastRoom_132 (Or.inl rfl) rfl rfl
  have J109 : ∀ (x3 : Int32) (v_state : VX6) (v_history : VX2) (v_forecast : VX1), zk_G E l X cL_leastRoom 6 (some .boolean) yL_leastRoom.cls wsL_leastRoom ({ frames := 8, cells := 0, slots := 0, locals := 182 } : Room) 0 0 Q (gX9 E b0 (v_state, v_history, v_program, v_forecast)) [(0, .ref b0.1), (3, .int x3)] 109 [] (f_L_leastRoom_109 v_program x3 v_state v_history v_forecast) := by
    intro x3 v_state v_history v_forecast
    unfold f_L_leastRoom_109
    refine zk_iconst 0 dL_leastRoom_109 (by decide) 110 rfl ?_
    exact J110   0 x3 v_state v_history v_forecast
  have J105 : ∀ (x3 : Int32) (v_state : VX6) (v_history : VX2) (v_forecast : VX1), zk_G E l X cL_leastRoom 6 (some .boolean) yL_leastRoom.cls wsL_leastRoom ({ frames := 8, cells := 0, slots := 0, locals := 182 } : Room) 0 0 Q (gX9 E b0 (v_state, v_history, v_program, v_forecast)) [(0, .ref b0.1), (3, .int x3)] 105 [] (f_L_leastRoom_105 v_program x3 v_state v_history v_forecast) := by
    intro x3 v_state v_history v_forecast
    unfold f_L_leastRoom_105
    refine zk_iconst 1 dL_leastRoom_105 (by decide) 106 rfl ?_
    refine zk_goto dL_leastRoom_106 110 (by decide) ?_
    exact J110   1 x3 v_state v_history v_forecast
  have J66 : ∀ (s66_0 : Int32) (x3 : Int32) (x4 : Int32) (v_state : VX6) (v_history : VX2) (v_forecast : VX1), zk_G E l X cL_leastRoom 6 (some .boolean) yL_leastRoom.cls wsL_leastRoom ({ frames := 8, cells := 0, slots := 0, locals := 182 } : Room) 0 0 Q (gX9 E b0 (v_state, v_history, v_program, v_forecast)) [(0, .ref b0.1), (1, .int x1), (3, .int x3), (4, .int x4)] 66 [.int s66_0] (f_L_leastRoom_66 x1 v_program s66_0 x3 x4 v_state v_history v_forecast) := by
    intro s66_0 x3 x4 v_state v_history v_forecast
    unfold f_L_leastRoom_66
    refine zk_istore [(5, .int s66_0), (0, .ref b0.1), (1, .int x1), (3, .int x3), (4, .int x4)] dL_leastRoom_66 (by decide) rfl 68 rfl ?_
    refine zk_iload dL_leastRoom_68 0 rfl 70 rfl ?_
    refine zk_if_eq dL_leastRoom_70 109 (by decide) 73 rfl (fun _ => ?_) (fun _ => ?_)
    · refine zk_lv [1, 3] rfl ?_
      exact J109   x3 v_state v_history v_forecast
    · refine zk_iload dL_leastRoom_73 4 rfl 75 rfl ?_
      refine zk_if_eq dL_leastRoom_75 105 (by decide) 78 rfl (fun _ => ?_) (fun _ => ?_)
      · refine zk_lv [1, 3] rfl ?_
        exact J105   x3 v_state v_history v_forecast
      · refine zk_aload_n dL_leastRoom_78 1 rfl 79 rfl ?_
        refine zk_iconst 0 dL_leastRoom_79 (by decide) 80 rfl ?_
        refine zk_iload dL_leastRoom_80 4 rfl 82 rfl ?_
        refine zk_callV (ci := 9) (st := []) (c_X9_set E l b0 (v_state, v_history, v_program, v_forecast) 0 x4) dL_leastRoom_82 2 gL_leastRoom_X9_set rfl rfl rfl cd_X9_set ⟨Nat.le_of_ble_eq_true rfl, Nat.le_of_ble_eq_true rfl⟩ ⟨Nat.zero_le _, Nat.zero_le _⟩ _ (fun r82 => (gX9 E b0 (r82.2.1, r82.2.2, v_program, v_forecast))) zk_pa (fun r82 => zk_qa) rfl rfl rfl rfl (Nat.le_of_ble_eq_true rfl) (fun r82 => [.int r82.1]) (fun _ => rfl) 85 rfl (fun r82 => ?_)
        refine zk_iload_n dL_leastRoom_85 3 rfl 86 rfl ?_
        refine zk_icmp_ne dL_leastRoom_86 109 (by decide) 89 rfl (fun _ => ?_) (fun _ => ?_)
        · refine zk_aload_n dL_leastRoom_89 1 rfl 90 rfl ?_
          refine zk_iload_n dL_leastRoom_90 2 rfl 91 rfl ?_
          refine zk_iconst 1 dL_leastRoom_91 (by decide) 92 rfl ?_
          refine zk_callV (ci := 9) (st := []) (c_X9_would E l b0 (r82.2.1, r82.2.2, v_program, v_forecast) x1 1) dL_leastRoom_92 2 gL_leastRoom_X9_would rfl rfl rfl cd_X9_would ⟨Nat.le_of_ble_eq_true rfl, Nat.le_of_ble_eq_true rfl⟩ ⟨Nat.zero_le _, Nat.zero_le _⟩ _ (fun r92 => (gX9 E b0 (r82.2.1, r82.2.2, v_program, r92.2))) zk_pa (fun r92 => zk_qa) rfl rfl rfl rfl (Nat.le_of_ble_eq_true rfl) (fun r92 => [.int r92.1]) (fun _ => rfl) 95 rfl (fun r92 => ?_)
          refine zk_if_le dL_leastRoom_95 109 (by decide) 98 rfl (fun _ => ?_) (fun _ => ?_)
          · refine zk_lv [1, 3] rfl ?_
            exact J109   x3 r82.2.1 r82.2.2 r92.2
          · refine zk_aload_n dL_leastRoom_98 1 rfl 99 rfl ?_
            refine zk_callV (ci := 9) (st := []) (c_X9_undo E l b0 (r82.2.1, r82.2.2, v_program, r92.2)) dL_leastRoom_99 0 gL_leastRoom_X9_undo rfl rfl rfl cd_X9_undo ⟨Nat.le_of_ble_eq_true rfl, Nat.le_of_ble_eq_true rfl⟩ ⟨Nat.zero_le _, Nat.zero_le _⟩ _ (fun r99 => (gX9 E b0 (r99.2.1, r99.2.2, v_program, r92.2))) zk_pa (fun r99 => zk_qa) rfl rfl rfl rfl (Nat.le_of_ble_eq_true rfl) (fun r99 => [.int r99.1]) (fun _ => rfl) 102 rfl (fun r99 => ?_)
            refine zk_if_lt dL_leastRoom_102 109 (by decide) 105 rfl (fun _ => ?_) (fun _ => ?_)
            · refine zk_lv [1, 3] rfl ?_
              exact J109   x3 r99.2.1 r99.2.2 r92.2
            · refine zk_lv [1, 3] rfl ?_
              exact J105   x3 r99.2.1 r99.2.2 r92.2
        · refine zk_lv [1, 3] rfl ?_
          exact J109   x3 r82.2.1 r82.2.2 v_forecast
  have J61 : ∀ (x3 : Int32) (x4 : Int32) (v_state : VX6) (v_history : VX2) (v_forecast : VX1), zk_G E l X cL_leastRoom 6 (some .boolean) yL_leastRoom.cls wsL_leastRoom ({ frames := 8, cells := 0, slots := 0, locals := 182 } : Room) 0 0 Q (gX9 E b0 (v_state, v_history, v_program, v_forecast)) [(0, .ref b0.1), (1, .int x1), (3, .int x3), (4, .int x4)] 61 [] (f_L_leastRoom_61 x1 v_program x3 x4 v_state v_history v_forecast) := by
    intro x3 x4 v_state v_history v_forecast
    unfold f_L_leastRoom_61
    refine zk_iconst 1 dL_leastRoom_61 (by decide) 62 rfl ?_
    refine zk_goto dL_leastRoom_62 66 (by decide) ?_
    exact J66   1 x3 x4 v_state v_history v_forecast
  have J65 : ∀ (x3 : Int32) (x4 : Int32) (v_state : VX6) (v_history : VX2) (v_forecast : VX1), zk_G E l X cL_leastRoom 6 (some .boolean) yL_leastRoom.cls wsL_leastRoom ({ frames := 8, cells := 0, slots := 0, locals := 182 } : Room) 0 0 Q (gX9 E b0 (v_state, v_history, v_program, v_forecast)) [(0, .ref b0.1), (1, .int x1), (3, .int x3), (4, .int x4)] 65 [] (f_L_leastRoom_65 x1 v_program x3 x4 v_state v_history v_forecast) := by
    intro x3 x4 v_state v_history v_forecast
    unfold f_L_leastRoom_65
    refine zk_iconst 0 dL_leastRoom_65 (by decide) 66 rfl ?_
    exact J66   0 x3 x4 v_state v_history v_forecast
  have J27 : ∀ (s27_0 : Int32) (x2 : Int32) (x3 : Int32) (v_state : VX6) (v_history : VX2) (v_forecast : VX1), zk_G E l X cL_leastRoom 6 (some .boolean) yL_leastRoom.cls wsL_leastRoom ({ frames := 8, cells := 0, slots := 0, locals := 182 } : Room) 0 0 Q (gX9 E b0 (v_state, v_history, v_program, v_forecast)) [(0, .ref b0.1), (1, .int x1), (2, .int x2), (3, .int x3)] 27 [.int s27_0] (f_L_leastRoom_27 x1 v_program s27_0 x2 x3 v_state v_history v_forecast) := by
    intro s27_0 x2 x3 v_state v_history v_forecast
    unfold f_L_leastRoom_27
    refine zk_istore [(4, .int s27_0), (0, .ref b0.1), (1, .int x1), (2, .int x2), (3, .int x3)] dL_leastRoom_27 (by decide) rfl 29 rfl ?_
    refine zk_iload_n dL_leastRoom_29 3 rfl 30 rfl ?_
    refine zk_bipush (-9) dL_leastRoom_30 (by decide) 32 rfl ?_
    refine zk_icmp_eq dL_leastRoom_32 61 (by decide) 35 rfl (fun _ => ?_) (fun _ => ?_)
    · refine zk_lv [1, 2, 4, 0] rfl ?_
      exact J61   x3 s27_0 v_state v_history v_forecast
    · refine zk_aload_n dL_leastRoom_35 1 rfl 36 rfl ?_
      refine zk_iconst 0 dL_leastRoom_36 (by decide) 37 rfl ?_
      refine zk_iload_n dL_leastRoom_37 3 rfl 38 rfl ?_
      refine zk_callV (ci := 9) (st := []) (c_X9_set E l b0 (v_state, v_history, v_program, v_forecast) 0 x2) dL_leastRoom_38 2 gL_leastRoom_X9_set rfl rfl rfl cd_X9_set ⟨Nat.le_of_ble_eq_true rfl, Nat.le_of_ble_eq_true rfl⟩ ⟨Nat.zero_le _, Nat.zero_le _⟩ _ (fun r38 => (gX9 E b0 (r38.2.1, r38.2.2, v_program, v_forecast))) zk_pa (fun r38 => zk_qa) rfl rfl rfl rfl (Nat.le_of_ble_eq_true rfl) (fun r38 => [.int r38.1]) (fun _ => rfl) 41 rfl (fun r38 => ?_)
      refine zk_iload_n dL_leastRoom_41 4 rfl 42 rfl ?_
      refine zk_icmp_ne dL_leastRoom_42 65 (by decide) 45 rfl (fun _ => ?_) (fun _ => ?_)
      · refine zk_aload_n dL_leastRoom_45 1 rfl 46 rfl ?_
        refine zk_iload_n dL_leastRoom_46 2 rfl 47 rfl ?_
        refine zk_iconst 1 dL_leastRoom_47 (by decide) 48 rfl ?_
        refine zk_callV (ci := 9) (st := []) (c_X9_would E l b0 (r38.2.1, r38.2.2, v_program, v_forecast) x1 1) dL_leastRoom_48 2 gL_leastRoom_X9_would rfl rfl rfl cd_X9_would ⟨Nat.le_of_ble_eq_true rfl, Nat.le_of_ble_eq_true rfl⟩ ⟨Nat.zero_le _, Nat.zero_le _⟩ _ (fun r48 => (gX9 E b0 (r38.2.1, r38.2.2, v_program, r48.2))) zk_pa (fun r48 => zk_qa) rfl rfl rfl rfl (Nat.le_of_ble_eq_true rfl) (fun r48 => [.int r48.1]) (fun _ => rfl) 51 rfl (fun r48 => ?_)
        refine zk_if_ne dL_leastRoom_51 65 (by decide) 54 rfl (fun _ => ?_) (fun _ => ?_)
        · refine zk_aload_n dL_leastRoom_54 1 rfl 55 rfl ?_
          refine zk_callV (ci := 9) (st := []) (c_X9_undo E l b0 (r38.2.1, r38.2.2, v_program, r48.2)) dL_leastRoom_55 0 gL_leastRoom_X9_undo rfl rfl rfl cd_X9_undo ⟨Nat.le_of_ble_eq_true rfl, Nat.le_of_ble_eq_true rfl⟩ ⟨Nat.zero_le _, Nat.zero_le _⟩ _ (fun r55 => (gX9 E b0 (r55.2.1, r55.2.2, v_program, r48.2))) zk_pa (fun r55 => zk_qa) rfl rfl rfl rfl (Nat.le_of_ble_eq_true rfl) (fun r55 => [.int r55.1]) (fun _ => rfl) 58 rfl (fun r55 => ?_)
          refine zk_if_lt dL_leastRoom_58 65 (by decide) 61 rfl (fun _ => ?_) (fun _ => ?_)
          · refine zk_lv [1, 2, 4, 0] rfl ?_
            exact J65   x3 s27_0 r55.2.1 r55.2.2 r48.2
          · refine zk_lv [1, 2, 4, 0] rfl ?_
            exact J61   x3 s27_0 r55.2.1 r55.2.2 r48.2
        · refine zk_lv [1, 2, 4, 0] rfl ?_
          exact J65   x3 s27_0 r38.2.1 r38.2.2 r48.2
      · refine zk_lv [1, 2, 4, 0] rfl ?_
        exact J65   x3 s27_0 r38.2.1 r38.2.2 v_forecast
  refine zk_eqv (w1 := (gX9 E b0 (v_state, v_history, v_program, v_forecast))) (lv1 := [(0, .ref b0.1), (1, .int x1)]) (st1 := []) (o1 := f_L_leastRoom x1 v_state v_history v_program v_forecast) rfl rfl rfl rfl ?_
  unfold f_L_leastRoom
  refine zk_aload_n dL_leastRoom_0 0 rfl 1 rfl ?_
  refine zk_iload_n dL_leastRoom_1 1 rfl 2 rfl ?_
  refine zk_callV (ci := 9) (st := []) (c_X9_leastRoom E l b0 (v_state, v_history, v_program, v_forecast) x1) dL_leastRoom_2 1 gL_leastRoom_X9_leastRoom rfl rfl rfl cd_X9_leastRoom ⟨Nat.le_of_ble_eq_true rfl, Nat.le_of_ble_eq_true rfl⟩ ⟨Nat.zero_le _, Nat.zero_le _⟩ _ (fun r2 => (gX9 E b0 (v_state, v_history, v_program, r2.2))) zk_pa (fun r2 => zk_qa) rfl rfl rfl rfl (Nat.le_of_ble_eq_true rfl) (fun r2 => [.int r2.1]) (fun _ => rfl) 5 rfl (fun r2 => ?_)
  refine zk_istore_n [(2, .int r2.1), (0, .ref b0.1), (1, .int x1)] dL_leastRoom_5 (by decide) rfl 6 rfl ?_
  refine zk_aload_n dL_leastRoom_6 1 rfl 7 rfl ?_
  refine zk_bipush 14 dL_leastRoom_7 (by decide) 9 rfl ?_
  refine zk_callV (ci := 9) (st := []) (c_X9_count E l b0 (v_state, v_history, v_program, r2.2) 14) dL_leastRoom_9 1 gL_leastRoom_X9_count rfl rfl rfl cd_X9_count ⟨Nat.le_of_ble_eq_true rfl, Nat.le_of_ble_eq_true rfl⟩ ⟨Nat.zero_le _, Nat.zero_le _⟩ _ (fun r9 => (gX9 E b0 (v_state, v_history, v_program, r2.2))) zk_pa (fun r9 => zk_qa) rfl rfl rfl rfl (Nat.le_of_ble_eq_true rfl) (fun r9 => [.int r9]) (fun _ => rfl) 12 rfl (fun r9 => ?_)
  refine zk_istore_n [(3, .int r9), (2, .int r2.1), (0, .ref b0.1), (1, .int x1)] dL_leastRoom_12 (by decide) rfl 13 rfl ?_
  refine zk_iload_n dL_leastRoom_13 1 rfl 14 rfl ?_
  refine zk_bipush (-9) dL_leastRoom_14 (by decide) 16 rfl ?_
  refine zk_icmp_ne dL_leastRoom_16 24 (by decide) 19 rfl (fun _ => ?_) (fun _ => ?_)
  · refine zk_bipush 20 dL_leastRoom_19 (by decide) 21 rfl ?_
    refine zk_goto dL_leastRoom_21 27 (by decide) ?_
    refine zk_lv [2, 3, 1, 0] rfl ?_
    exact J27   20 r2.1 r9 v_state v_history r2.2
  · refine zk_iload_n dL_leastRoom_24 1 rfl 25 rfl ?_
    refine zk_iconst 1 dL_leastRoom_25 (by decide) 26 rfl ?_
    refine zk_isub dL_leastRoom_26 27 rfl ?_
    refine zk_lv [2, 3, 1, 0] rfl ?_
    exact J27   (r2.1 - 1) r2.1 r9 v_state v_history r2.2
