theorem zk_snoc {gs : List va_W} {c : va_W} : zk_j gs ++ c = zk_j (gs ++ [c]) := by rw [zk_j_app, zk_j_one]
theorem zk_mv2 (p g l t : va_W) : (p ++ (g ++ (l ++ t))).Perm ((p ++ l) ++ (g ++ t)) := by
  rw [List.append_assoc]
  exact List.Perm.append_left p (List.perm_append_comm_assoc g l t)
theorem zk_mv3 (a s h p f : va_W) : (a ++ (s ++ (h ++ (p ++ (f ++ []))))).Perm (a ++ (s ++ (p ++ (f ++ (h ++ []))))) := by
  refine List.Perm.append_left a (List.Perm.append_left s ?_)
  refine (List.perm_append_comm_assoc h p _).trans (List.Perm.append_left p ?_)
  exact List.perm_append_comm_assoc h f []
/-- Arrays.fill(int[], int) -/
def F_J7_fill_5 (n : Nat) (x1 : Int32) (k5 : (Nat → Int32) × Int32 → Option (Nat → Int32)) : (Nat → Int32) × Int32 → Option (Nat → Int32) := fun s => match s with
  | (f, x2) => if Int32.ofNat n ≤ x2 then some f else zk_ck x2 n (zk_let (upd f x2.toNatClampNeg x1) fun f1 => k5 (f1, (x2 + 1)))
def f_J7_fill (n : Nat) (x1 : Int32) (f : Nat → Int32) : Option (Nat → Int32) := zk_fx (F_J7_fill_5 n x1) zk_N (f, 0)
theorem cd_J7_fill : yJ7_fill_53178.cls ≠ "java/lang/invoke/MethodHandle" ∧ yJ7_fill_53178.cls ≠ "java/lang/invoke/VarHandle" ∧ (parseMethodDescriptor yJ7_fill_53178.desc).map (fun d => d.parameters.length) = some 2 := by decide +kernel
set_option maxRecDepth 100000 in
set_option maxHeartbeats 4000000 in
theorem c_J7_fill (E : zk_Env) (l : Launch) (b n : Nat) (f : Nat → Int32) (x1 : Int32) : zk_Mc E l yJ7_fill_53178 wsJ7_fill_53178 ({ frames := 0, cells := 0, slots := 0, locals := 0 } : Room) [.ref b, .int x1] [(b, .inl (zk_ci E, n, .inl f))] (f_J7_fill n x1 f) (fun _ => none) (fun r => [(b, .inl (zk_ci E, n, .inl r))]) := by
  refine zk_MF (cc := cJ7_fill_53178) (nL := 4) (ret := none) (by decide +kernel) rfl (Nat.le_of_ble_eq_true rfl) (fun X Q hQ => ?_)
  have J5 : ∀ (m : Nat) (f : Nat → Int32) (x2 : Int32), zk_G E l X cJ7_fill_53178 4 none yJ7_fill_53178.cls wsJ7_fill_53178 ({ frames := 0, cells := 0, slots := 0, locals := 0 } : Room) 0 0 Q [(b, .inl (zk_ci E, n, .inl f))] [(0, .ref b), (1, .int x1), (2, .int x2), (3, .int (Int32.ofNat n))] 5 [] (zk_fx (F_J7_fill_5 n x1) m (f, x2)) := by
    intro m f x2
    refine zk_loop (S := (Nat → Int32) × Int32) (F := F_J7_fill_5 n x1) (wS := fun s => [(b, .inl (zk_ci E, n, .inl s.1))]) (lS := fun s => [(0, .ref b), (1, .int x1), (2, .int s.2), (3, .int (Int32.ofNat n))]) (sS := fun _ => []) (fun k5 hk5 s => ?_) m (f, x2)
    obtain ⟨f, x2⟩ := s
    unfold F_J7_fill_5
    dsimp only
    refine zk_iload_n dJ7_fill_53178_5 2 rfl 6 rfl ?_
    refine zk_iload_n dJ7_fill_53178_6 3 rfl 7 rfl ?_
    refine zk_icmp_ge dJ7_fill_53178_7 20 (by decide) 10 rfl (fun _ => ?_) (fun _ => ?_)
    · exact zk_vret hQ dJ7_fill_53178_20 rfl rfl
    · refine zk_aload_n dJ7_fill_53178_10 0 rfl 11 rfl ?_
      refine zk_iload_n dJ7_fill_53178_11 2 rfl 12 rfl ?_
      refine zk_iload_n dJ7_fill_53178_12 1 rfl 13 rfl ?_
      refine zk_iast [(b, .inl (zk_ci E, n, .inl (upd f x2.toNatClampNeg x1)))] dJ7_fill_53178_13 0 rfl rfl 14 rfl ?_
      refine zk_nmw (fun f1 => [(b, .inl (zk_ci E, n, .inl f1))]) _ rfl (fun f1 => ?_)
      refine zk_iinc (x2 + 1) [(2, .int (x2 + 1)), (0, .ref b), (1, .int x1), (3, .int (Int32.ofNat n))] dJ7_fill_53178_14 2 rfl rfl (by decide) rfl 17 rfl ?_
      refine zk_goto dJ7_fill_53178_17 5 (by decide) ?_
      refine zk_lv [1, 2, 0, 3] rfl ?_
      exact hk5 (f1, (x2 + 1))
  refine zk_eqv (w1 := [(b, .inl (zk_ci E, n, .inl f))]) (lv1 := [(0, .ref b), (1, .int x1)]) (st1 := []) (o1 := zk_fx (F_J7_fill_5 n x1) zk_N (f, 0)) rfl rfl rfl rfl ?_
  refine zk_iconst 0 dJ7_fill_53178_0 (by decide) 1 rfl ?_
  refine zk_istore_n [(2, .int 0), (0, .ref b), (1, .int x1)] dJ7_fill_53178_1 (by decide) rfl 2 rfl ?_
  refine zk_aload_n dJ7_fill_53178_2 1 rfl 3 rfl ?_
  refine zk_alen (Int32.ofNat n) 0 dJ7_fill_53178_3 0 rfl rfl rfl 4 rfl ?_
  refine zk_istore_n [(3, .int (Int32.ofNat n)), (2, .int 0), (0, .ref b), (1, .int x1)] dJ7_fill_53178_4 (by decide) rfl 5 rfl ?_
  refine zk_lv [2, 3, 1, 0] rfl ?_
  exact J5 zk_N f 0
def f_X5_init : Option (VX5) := some ((fun _ => 0), 0)
theorem kX5_init_0 : Cond.methodLink RX5 3 Lib.objectInit ∈ wsX5_init := by decide +kernel
theorem kX5_init_1 : Cond.instanceMethod Lib.objectInit ∈ wsX5_init := by decide +kernel
theorem kX5_init_2 : Cond.code Lib.objectInit ⟨#[0xb1]⟩ 1 none ∈ wsX5_init := by decide +kernel
theorem kX5_init_3 : Cond.arrayClass .int ∈ wsX5_init := by decide +kernel
theorem kX5_init_inX5 : ∀ w ∈ u_ws RX5 TX5 2, w ∈ wsX5_init := by decide +kernel
theorem kX5_init_5 : Cond.fieldLink RX5 11 (TX5 0).1 (TX5 0).2.1 (TX5 0).2.2.1 ∈ wsX5_init := by decide +kernel
set_option maxRecDepth 100000 in
set_option maxHeartbeats 4000000 in
theorem n_X5 (E : zk_Env) (l : Launch) (h : Nat) : zk_Mn E l yX5_init wsX5_init ({ frames := 1, cells := 1, slots := 240, locals := 12 } : Room) [.ref h] [(h, .inr (5, [.null, .int 0]))] f_X5_init (fun r a => gX5 E (h, a) r) 1 240 := by
  refine zk_MN (cc := cX5_init) (nL := 1) (by decide) rfl (Nat.le_of_ble_eq_true rfl) rfl (fun X Q hQ hin => ?_)
  refine zk_eqv (w1 := zk_j [[(h, .inr (5, [.null, .int 0]))]]) (lv1 := [(0, .ref h)]) (st1 := []) (o1 := f_X5_init) rfl rfl rfl rfl ?_
  unfold f_X5_init
  refine zk_aload_n dX5_init_0 0 rfl 1 rfl ?_
  refine zk_objInit dX5_init_1 kX5_init_0 kX5_init_1 kX5_init_2 (Nat.le_of_ble_eq_true rfl) (Nat.le_of_ble_eq_true rfl) 4 rfl ?_
  refine zk_aload_n dX5_init_4 0 rfl 5 rfl ?_
  refine zk_sipush 240 dX5_init_5 (by decide) 8 rfl ?_
  refine zk_newaI 240 (fun q1 => (zk_j [[(h, .inr (5, [.null, .int 0]))], [(q1, .inl (zk_ci E, 240, .inl (fun _ => 0)))]])) 1 240 dX5_init_8 kX5_init_3 (by decide) (by decide) (Nat.le_of_ble_eq_true rfl) rfl rfl (Nat.le_of_ble_eq_true rfl) (Nat.le_of_ble_eq_true rfl) (fun _ => zk_snoc) 10 rfl (fun q1 => ?_)
  refine zk_putF tyX5 (zk_j [[(h, .inr (5, [.ref q1, .int 0]))], [(q1, .inl (zk_ci E, 240, .inl (fun _ => 0)))]]) dX5_init_10 0 rfl rfl kX5_init_inX5 tyX5_ok nmX5 0 (by decide) kX5_init_5 rfl hin rfl (tyX5_ok 0 (by decide)) rfl rfl (Nat.le_of_ble_eq_true rfl) rfl 13 rfl ?_
  exact zk_vretN q1 hQ dX5_init_13 rfl

def f_X3_init : Option (VX3) := (f_J7_fill 25 (-1) (fun _ => 0)).bind fun r49 => (f_J7_fill 25 (-1) (fun _ => 0)).bind fun r57 => (f_J7_fill 40 (-1) (fun _ => 0)).bind fun r65 => (f_J7_fill 40 (-1) (fun _ => 0)).bind fun r73 => some (r49, r57, (fun _ => 0), r65, r73)
theorem kX3_init_0 : Cond.methodLink RX3 3 Lib.objectInit ∈ wsX3_init := by decide +kernel
theorem kX3_init_1 : Cond.instanceMethod Lib.objectInit ∈ wsX3_init := by decide +kernel
theorem kX3_init_2 : Cond.code Lib.objectInit ⟨#[0xb1]⟩ 1 none ∈ wsX3_init := by decide +kernel
theorem kX3_init_3 : Cond.arrayClass .int ∈ wsX3_init := by decide +kernel
theorem kX3_init_inX3 : ∀ w ∈ u_ws RX3 TX3 5, w ∈ wsX3_init := by decide +kernel
theorem kX3_init_5 : Cond.fieldLink RX3 9 (TX3 0).1 (TX3 0).2.1 (TX3 0).2.2.1 ∈ wsX3_init := by decide +kernel
theorem kX3_init_6 : Cond.fieldLink RX3 15 (TX3 1).1 (TX3 1).2.1 (TX3 1).2.2.1 ∈ wsX3_init := by decide +kernel
theorem kX3_init_7 : Cond.fieldLink RX3 18 (TX3 2).1 (TX3 2).2.1 (TX3 2).2.2.1 ∈ wsX3_init := by decide +kernel
theorem kX3_init_8 : Cond.fieldLink RX3 21 (TX3 3).1 (TX3 3).2.1 (TX3 3).2.2.1 ∈ wsX3_init := by decide +kernel
theorem kX3_init_9 : Cond.fieldLink RX3 24 (TX3 4).1 (TX3 4).2.1 (TX3 4).2.2.1 ∈ wsX3_init := by decide +kernel
set_option maxRecDepth 100000 in
set_option maxHeartbeats 4000000 in
theorem n_X3 (E : zk_Env) (l : Launch) (h : Nat) : zk_Mn E l yX3_init wsX3_init ({ frames := 1, cells := 5, slots := 155, locals := 23 } : Room) [.ref h] [(h, .inr (3, [.null, .null, .null, .null, .null]))] f_X3_init (fun r a => gX3 E (h, a) r) 5 155 := by
  refine zk_MN (cc := cX3_init) (nL := 1) (by decide) rfl (Nat.le_of_ble_eq_true rfl) rfl (fun X Q hQ hin => ?_)
  refine zk_eqv (w1 := zk_j [[(h, .inr (3, [.null, .null, .null, .null, .null]))]]) (lv1 := [(0, .ref h)]) (st1 := []) (o1 := f_X3_init) rfl rfl rfl rfl ?_
  unfold f_X3_init
  refine zk_aload_n dX3_init_0 0 rfl 1 rfl ?_
  refine zk_objInit dX3_init_1 kX3_init_0 kX3_init_1 kX3_init_2 (Nat.le_of_ble_eq_true rfl) (Nat.le_of_ble_eq_true rfl) 4 rfl ?_
  refine zk_aload_n dX3_init_4 0 rfl 5 rfl ?_
  refine zk_bipush 25 dX3_init_5 (by decide) 7 rfl ?_
  refine zk_newaI 25 (fun q1 => (zk_j [[(h, .inr (3, [.null, .null, .null, .null, .null]))], [(q1, .inl (zk_ci E, 25, .inl (fun _ => 0)))]])) 1 25 dX3_init_7 kX3_init_3 (by decide) (by decide) (Nat.le_of_ble_eq_true rfl) rfl rfl (Nat.le_of_ble_eq_true rfl) (Nat.le_of_ble_eq_true rfl) (fun _ => zk_snoc) 9 rfl (fun q1 => ?_)
  refine zk_putF tyX3 (zk_j [[(h, .inr (3, [.ref q1, .null, .null, .null, .null]))], [(q1, .inl (zk_ci E, 25, .inl (fun _ => 0)))]]) dX3_init_9 0 rfl rfl kX3_init_inX3 tyX3_ok nmX3 0 (by decide) kX3_init_5 rfl hin rfl (tyX3_ok 0 (by decide)) rfl rfl (Nat.le_of_ble_eq_true rfl) rfl 12 rfl ?_
  refine zk_aload_n dX3_init_12 0 rfl 13 rfl ?_
  refine zk_bipush 25 dX3_init_13 (by decide) 15 rfl ?_
  refine zk_newaI 25 (fun q2 => (zk_j [[(h, .inr (3, [.ref q1, .null, .null, .null, .null]))], [(q1, .inl (zk_ci E, 25, .inl (fun _ => 0)))], [(q2, .inl (zk_ci E, 25, .inl (fun _ => 0)))]])) 2 50 dX3_init_15 kX3_init_3 (by decide) (by decide) (Nat.le_of_ble_eq_true rfl) rfl rfl (Nat.le_of_ble_eq_true rfl) (Nat.le_of_ble_eq_true rfl) (fun _ => zk_snoc) 17 rfl (fun q2 => ?_)
  refine zk_putF tyX3 (zk_j [[(h, .inr (3, [.ref q1, .ref q2, .null, .null, .null]))], [(q1, .inl (zk_ci E, 25, .inl (fun _ => 0)))], [(q2, .inl (zk_ci E, 25, .inl (fun _ => 0)))]]) dX3_init_17 0 rfl rfl kX3_init_inX3 tyX3_ok nmX3 1 (by decide) kX3_init_6 rfl hin rfl (tyX3_ok 1 (by decide)) rfl rfl (Nat.le_of_ble_eq_true rfl) rfl 20 rfl ?_
  refine zk_aload_n dX3_init_20 0 rfl 21 rfl ?_
  refine zk_bipush 25 dX3_init_21 (by decide) 23 rfl ?_
  refine zk_newaI 25 (fun q3 => (zk_j [[(h, .inr (3, [.ref q1, .ref q2, .null, .null, .null]))], [(q1, .inl (zk_ci E, 25, .inl (fun _ => 0)))], [(q2, .inl (zk_ci E, 25, .inl (fun _ => 0)))], [(q3, .inl (zk_ci E, 25, .inl (fun _ => 0)))]])) 3 75 dX3_init_23 kX3_init_3 (by decide) (by decide) (Nat.le_of_ble_eq_true rfl) rfl rfl (Nat.le_of_ble_eq_true rfl) (Nat.le_of_ble_eq_true rfl) (fun _ => zk_snoc) 25 rfl (fun q3 => ?_)
  refine zk_putF tyX3 (zk_j [[(h, .inr (3, [.ref q1, .ref q2, .ref q3, .null, .null]))], [(q1, .inl (zk_ci E, 25, .inl (fun _ => 0)))], [(q2, .inl (zk_ci E, 25, .inl (fun _ => 0)))], [(q3, .inl (zk_ci E, 25, .inl (fun _ => 0)))]]) dX3_init_25 0 rfl rfl kX3_init_inX3 tyX3_ok nmX3 2 (by decide) kX3_init_7 rfl hin rfl (tyX3_ok 2 (by decide)) rfl rfl (Nat.le_of_ble_eq_true rfl) rfl 28 rfl ?_
  refine zk_aload_n dX3_init_28 0 rfl 29 rfl ?_
  refine zk_bipush 40 dX3_init_29 (by decide) 31 rfl ?_
  refine zk_newaI 40 (fun q4 => (zk_j [[(h, .inr (3, [.ref q1, .ref q2, .ref q3, .null, .null]))], [(q1, .inl (zk_ci E, 25, .inl (fun _ => 0)))], [(q2, .inl (zk_ci E, 25, .inl (fun _ => 0)))], [(q3, .inl (zk_ci E, 25, .inl (fun _ => 0)))], [(q4, .inl (zk_ci E, 40, .inl (fun _ => 0)))]])) 4 115 dX3_init_31 kX3_init_3 (by decide) (by decide) (Nat.le_of_ble_eq_true rfl) rfl rfl (Nat.le_of_ble_eq_true rfl) (Nat.le_of_ble_eq_true rfl) (fun _ => zk_snoc) 33 rfl (fun q4 => ?_)
  refine zk_putF tyX3 (zk_j [[(h, .inr (3, [.ref q1, .ref q2, .ref q3, .ref q4, .null]))], [(q1, .inl (zk_ci E, 25, .inl (fun _ => 0)))], [(q2, .inl (zk_ci E, 25, .inl (fun _ => 0)))], [(q3, .inl (zk_ci E, 25, .inl (fun _ => 0)))], [(q4, .inl (zk_ci E, 40, .inl (fun _ => 0)))]]) dX3_init_33 0 rfl rfl kX3_init_inX3 tyX3_ok nmX3 3 (by decide) kX3_init_8 rfl hin rfl (tyX3_ok 3 (by decide)) rfl rfl (Nat.le_of_ble_eq_true rfl) rfl 36 rfl ?_
  refine zk_aload_n dX3_init_36 0 rfl 37 rfl ?_
  refine zk_bipush 40 dX3_init_37 (by decide) 39 rfl ?_
  refine zk_newaI 40 (fun q5 => (zk_j [[(h, .inr (3, [.ref q1, .ref q2, .ref q3, .ref q4, .null]))], [(q1, .inl (zk_ci E, 25, .inl (fun _ => 0)))], [(q2, .inl (zk_ci E, 25, .inl (fun _ => 0)))], [(q3, .inl (zk_ci E, 25, .inl (fun _ => 0)))], [(q4, .inl (zk_ci E, 40, .inl (fun _ => 0)))], [(q5, .inl (zk_ci E, 40, .inl (fun _ => 0)))]])) 5 155 dX3_init_39 kX3_init_3 (by decide) (by decide) (Nat.le_of_ble_eq_true rfl) rfl rfl (Nat.le_of_ble_eq_true rfl) (Nat.le_of_ble_eq_true rfl) (fun _ => zk_snoc) 41 rfl (fun q5 => ?_)
  refine zk_putF tyX3 (zk_j [[(h, .inr (3, [.ref q1, .ref q2, .ref q3, .ref q4, .ref q5]))], [(q1, .inl (zk_ci E, 25, .inl (fun _ => 0)))], [(q2, .inl (zk_ci E, 25, .inl (fun _ => 0)))], [(q3, .inl (zk_ci E, 25, .inl (fun _ => 0)))], [(q4, .inl (zk_ci E, 40, .inl (fun _ => 0)))], [(q5, .inl (zk_ci E, 40, .inl (fun _ => 0)))]]) dX3_init_41 0 rfl rfl kX3_init_inX3 tyX3_ok nmX3 4 (by decide) kX3_init_9 rfl hin rfl (tyX3_ok 4 (by decide)) rfl rfl (Nat.le_of_ble_eq_true rfl) rfl 44 rfl ?_
  refine zk_aload_n dX3_init_44 0 rfl 45 rfl ?_
  refine zk_get dX3_init_45 0 rfl rfl kX3_init_inX3 0 (by decide) kX3_init_5 rfl 48 rfl ?_
  refine zk_iconst (-1) dX3_init_48 (by decide) 49 rfl ?_
  refine zk_callS (st := []) (c_J7_fill E l q1 25 (fun _ => 0) (-1)) dX3_init_49 2 gX3_init_J7_fill_53178 rfl rfl rfl cd_J7_fill ⟨(Nat.le_of_ble_eq_true rfl), (Nat.le_of_ble_eq_true rfl)⟩ ⟨(Nat.le_of_ble_eq_true rfl), (Nat.le_of_ble_eq_true rfl)⟩ _ (fun r49 => (zk_j [[(h, .inr (3, [.ref q1, .ref q2, .ref q3, .ref q4, .ref q5]))], [(q1, .inl (zk_ci E, 25, .inl r49))], [(q2, .inl (zk_ci E, 25, .inl (fun _ => 0)))], [(q3, .inl (zk_ci E, 25, .inl (fun _ => 0)))], [(q4, .inl (zk_ci E, 40, .inl (fun _ => 0)))], [(q5, .inl (zk_ci E, 40, .inl (fun _ => 0)))]])) (zk_p1 (gs := [[(h, .inr (3, [.ref q1, .ref q2, .ref q3, .ref q4, .ref q5]))], [(q1, .inl (zk_ci E, 25, .inl (fun _ => 0)))], [(q2, .inl (zk_ci E, 25, .inl (fun _ => 0)))], [(q3, .inl (zk_ci E, 25, .inl (fun _ => 0)))], [(q4, .inl (zk_ci E, 40, .inl (fun _ => 0)))], [(q5, .inl (zk_ci E, 40, .inl (fun _ => 0)))]]) (i := 1) rfl) (fun r49 => zk_q1 (gs := [[(h, .inr (3, [.ref q1, .ref q2, .ref q3, .ref q4, .ref q5]))], [(q1, .inl (zk_ci E, 25, .inl (fun _ => 0)))], [(q2, .inl (zk_ci E, 25, .inl (fun _ => 0)))], [(q3, .inl (zk_ci E, 25, .inl (fun _ => 0)))], [(q4, .inl (zk_ci E, 40, .inl (fun _ => 0)))], [(q5, .inl (zk_ci E, 40, .inl (fun _ => 0)))]]) (i := 1) rfl rfl) rfl rfl (Nat.le_of_ble_eq_true rfl) (fun r49 => []) (fun _ => rfl) 52 rfl (fun r49 => ?_)
  refine zk_aload_n dX3_init_52 0 rfl 53 rfl ?_
  refine zk_get dX3_init_53 0 rfl rfl kX3_init_inX3 1 (by decide) kX3_init_6 rfl 56 rfl ?_
  refine zk_iconst (-1) dX3_init_56 (by decide) 57 rfl ?_
  refine zk_callS (st := []) (c_J7_fill E l q2 25 (fun _ => 0) (-1)) dX3_init_57 2 gX3_init_J7_fill_53178 rfl rfl rfl cd_J7_fill ⟨(Nat.le_of_ble_eq_true rfl), (Nat.le_of_ble_eq_true rfl)⟩ ⟨(Nat.le_of_ble_eq_true rfl), (Nat.le_of_ble_eq_true rfl)⟩ _ (fun r57 => (zk_j [[(h, .inr (3, [.ref q1, .ref q2, .ref q3, .ref q4, .ref q5]))], [(q1, .inl (zk_ci E, 25, .inl r49))], [(q2, .inl (zk_ci E, 25, .inl r57))], [(q3, .inl (zk_ci E, 25, .inl (fun _ => 0)))], [(q4, .inl (zk_ci E, 40, .inl (fun _ => 0)))], [(q5, .inl (zk_ci E, 40, .inl (fun _ => 0)))]])) (zk_p1 (gs := [[(h, .inr (3, [.ref q1, .ref q2, .ref q3, .ref q4, .ref q5]))], [(q1, .inl (zk_ci E, 25, .inl r49))], [(q2, .inl (zk_ci E, 25, .inl (fun _ => 0)))], [(q3, .inl (zk_ci E, 25, .inl (fun _ => 0)))], [(q4, .inl (zk_ci E, 40, .inl (fun _ => 0)))], [(q5, .inl (zk_ci E, 40, .inl (fun _ => 0)))]]) (i := 2) rfl) (fun r57 => zk_q1 (gs := [[(h, .inr (3, [.ref q1, .ref q2, .ref q3, .ref q4, .ref q5]))], [(q1, .inl (zk_ci E, 25, .inl r49))], [(q2, .inl (zk_ci E, 25, .inl (fun _ => 0)))], [(q3, .inl (zk_ci E, 25, .inl (fun _ => 0)))], [(q4, .inl (zk_ci E, 40, .inl (fun _ => 0)))], [(q5, .inl (zk_ci E, 40, .inl (fun _ => 0)))]]) (i := 2) rfl rfl) rfl rfl (Nat.le_of_ble_eq_true rfl) (fun r57 => []) (fun _ => rfl) 60 rfl (fun r57 => ?_)
  refine zk_aload_n dX3_init_60 0 rfl 61 rfl ?_
  refine zk_get dX3_init_61 0 rfl rfl kX3_init_inX3 3 (by decide) kX3_init_8 rfl 64 rfl ?_
  refine zk_iconst (-1) dX3_init_64 (by decide) 65 rfl ?_
  refine zk_callS (st := []) (c_J7_fill E l q4 40 (fun _ => 0) (-1)) dX3_init_65 2 gX3_init_J7_fill_53178 rfl rfl rfl cd_J7_fill ⟨(Nat.le_of_ble_eq_true rfl), (Nat.le_of_ble_eq_true rfl)⟩ ⟨(Nat.le_of_ble_eq_true rfl), (Nat.le_of_ble_eq_true rfl)⟩ _ (fun r65 => (zk_j [[(h, .inr (3, [.ref q1, .ref q2, .ref q3, .ref q4, .ref q5]))], [(q1, .inl (zk_ci E, 25, .inl r49))], [(q2, .inl (zk_ci E, 25, .inl r57))], [(q3, .inl (zk_ci E, 25, .inl (fun _ => 0)))], [(q4, .inl (zk_ci E, 40, .inl r65))], [(q5, .inl (zk_ci E, 40, .inl (fun _ => 0)))]])) (zk_p1 (gs := [[(h, .inr (3, [.ref q1, .ref q2, .ref q3, .ref q4, .ref q5]))], [(q1, .inl (zk_ci E, 25, .inl r49))], [(q2, .inl (zk_ci E, 25, .inl r57))], [(q3, .inl (zk_ci E, 25, .inl (fun _ => 0)))], [(q4, .inl (zk_ci E, 40, .inl (fun _ => 0)))], [(q5, .inl (zk_ci E, 40, .inl (fun _ => 0)))]]) (i := 4) rfl) (fun r65 => zk_q1 (gs := [[(h, .inr (3, [.ref q1, .ref q2, .ref q3, .ref q4, .ref q5]))], [(q1, .inl (zk_ci E, 25, .inl r49))], [(q2, .inl (zk_ci E, 25, .inl r57))], [(q3, .inl (zk_ci E, 25, .inl (fun _ => 0)))], [(q4, .inl (zk_ci E, 40, .inl (fun _ => 0)))], [(q5, .inl (zk_ci E, 40, .inl (fun _ => 0)))]]) (i := 4) rfl rfl) rfl rfl (Nat.le_of_ble_eq_true rfl) (fun r65 => []) (fun _ => rfl) 68 rfl (fun r65 => ?_)
  refine zk_aload_n dX3_init_68 0 rfl 69 rfl ?_
  refine zk_get dX3_init_69 0 rfl rfl kX3_init_inX3 4 (by decide) kX3_init_9 rfl 72 rfl ?_
  refine zk_iconst (-1) dX3_init_72 (by decide) 73 rfl ?_
  refine zk_callS (st := []) (c_J7_fill E l q5 40 (fun _ => 0) (-1)) dX3_init_73 2 gX3_init_J7_fill_53178 rfl rfl rfl cd_J7_fill ⟨(Nat.le_of_ble_eq_true rfl), (Nat.le_of_ble_eq_true rfl)⟩ ⟨(Nat.le_of_ble_eq_true rfl), (Nat.le_of_ble_eq_true rfl)⟩ _ (fun r73 => (zk_j [[(h, .inr (3, [.ref q1, .ref q2, .ref q3, .ref q4, .ref q5]))], [(q1, .inl (zk_ci E, 25, .inl r49))], [(q2, .inl (zk_ci E, 25, .inl r57))], [(q3, .inl (zk_ci E, 25, .inl (fun _ => 0)))], [(q4, .inl (zk_ci E, 40, .inl r65))], [(q5, .inl (zk_ci E, 40, .inl r73))]])) (zk_p1 (gs := [[(h, .inr (3, [.ref q1, .ref q2, .ref q3, .ref q4, .ref q5]))], [(q1, .inl (zk_ci E, 25, .inl r49))], [(q2, .inl (zk_ci E, 25, .inl r57))], [(q3, .inl (zk_ci E, 25, .inl (fun _ => 0)))], [(q4, .inl (zk_ci E, 40, .inl r65))], [(q5, .inl (zk_ci E, 40, .inl (fun _ => 0)))]]) (i := 5) rfl) (fun r73 => zk_q1 (gs := [[(h, .inr (3, [.ref q1, .ref q2, .ref q3, .ref q4, .ref q5]))], [(q1, .inl (zk_ci E, 25, .inl r49))], [(q2, .inl (zk_ci E, 25, .inl r57))], [(q3, .inl (zk_ci E, 25, .inl (fun _ => 0)))], [(q4, .inl (zk_ci E, 40, .inl r65))], [(q5, .inl (zk_ci E, 40, .inl (fun _ => 0)))]]) (i := 5) rfl rfl) rfl rfl (Nat.le_of_ble_eq_true rfl) (fun r73 => []) (fun _ => rfl) 76 rfl (fun r73 => ?_)
  exact zk_vretN (q1, q2, q3, q4, q5) hQ dX3_init_76 rfl

def f_X0_init : Option (VX0) := some ((fun _ => 0), 0)
theorem kX0_init_0 : Cond.methodLink RX0 3 Lib.objectInit ∈ wsX0_init := by decide +kernel
theorem kX0_init_1 : Cond.instanceMethod Lib.objectInit ∈ wsX0_init := by decide +kernel
theorem kX0_init_2 : Cond.code Lib.objectInit ⟨#[0xb1]⟩ 1 none ∈ wsX0_init := by decide +kernel
theorem kX0_init_3 : Cond.arrayClass .int ∈ wsX0_init := by decide +kernel
theorem kX0_init_inX0 : ∀ w ∈ u_ws RX0 TX0 2, w ∈ wsX0_init := by decide +kernel
theorem kX0_init_5 : Cond.fieldLink RX0 11 (TX0 0).1 (TX0 0).2.1 (TX0 0).2.2.1 ∈ wsX0_init := by decide +kernel
set_option maxRecDepth 100000 in
set_option maxHeartbeats 4000000 in
theorem n_X0 (E : zk_Env) (l : Launch) (h : Nat) : zk_Mn E l yX0_init wsX0_init ({ frames := 1, cells := 1, slots := 36, locals := 12 } : Room) [.ref h] [(h, .inr (0, [.null, .int 0]))] f_X0_init (fun r a => gX0 E (h, a) r) 1 36 := by
  refine zk_MN (cc := cX0_init) (nL := 1) (by decide) rfl (Nat.le_of_ble_eq_true rfl) rfl (fun X Q hQ hin => ?_)
  refine zk_eqv (w1 := zk_j [[(h, .inr (0, [.null, .int 0]))]]) (lv1 := [(0, .ref h)]) (st1 := []) (o1 := f_X0_init) rfl rfl rfl rfl ?_
  unfold f_X0_init
  refine zk_aload_n dX0_init_0 0 rfl 1 rfl ?_
  refine zk_objInit dX0_init_1 kX0_init_0 kX0_init_1 kX0_init_2 (Nat.le_of_ble_eq_true rfl) (Nat.le_of_ble_eq_true rfl) 4 rfl ?_
  refine zk_aload_n dX0_init_4 0 rfl 5 rfl ?_
  refine zk_bipush 36 dX0_init_5 (by decide) 7 rfl ?_
  refine zk_newaI 36 (fun q1 => (zk_j [[(h, .inr (0, [.null, .int 0]))], [(q1, .inl (zk_ci E, 36, .inl (fun _ => 0)))]])) 1 36 dX0_init_7 kX0_init_3 (by decide) (by decide) (Nat.le_of_ble_eq_true rfl) rfl rfl (Nat.le_of_ble_eq_true rfl) (Nat.le_of_ble_eq_true rfl) (fun _ => zk_snoc) 9 rfl (fun q1 => ?_)
  refine zk_putF tyX0 (zk_j [[(h, .inr (0, [.ref q1, .int 0]))], [(q1, .inl (zk_ci E, 36, .inl (fun _ => 0)))]]) dX0_init_9 0 rfl rfl kX0_init_inX0 tyX0_ok nmX0 0 (by decide) kX0_init_5 rfl hin rfl (tyX0_ok 0 (by decide)) rfl rfl (Nat.le_of_ble_eq_true rfl) rfl 12 rfl ?_
  exact zk_vretN q1 hQ dX0_init_12 rfl

def f_X8_init : Option (VX8) := f_X5_init.bind fun r9_1 => f_X3_init.bind fun r20_2 => f_X0_init.bind fun r31_3 => some (r9_1, r20_2, r31_3, 0, 3, 5, 0, 0, 0, 0, 0, 0, 0)
theorem kX8_init_0 : Cond.methodLink RX8 3 Lib.objectInit ∈ wsX8_init := by decide +kernel
theorem kX8_init_1 : Cond.instanceMethod Lib.objectInit ∈ wsX8_init := by decide +kernel
theorem kX8_init_2 : Cond.code Lib.objectInit ⟨#[0xb1]⟩ 1 none ∈ wsX8_init := by decide +kernel
theorem kX8_init_inX5 : ∀ w ∈ u_ws RX5 TX5 2, w ∈ wsX8_init := by decide +kernel
theorem kX8_init_4 : Cond.classLink RX8 9 RX5 ∈ wsX8_init := by decide +kernel
theorem kX8_init_5 : Cond.instantiable RX5 2 ∈ wsX8_init := by decide +kernel
theorem kX8_init_6 : Cond.initialized RX5 ∈ wsX8_init := by decide +kernel
theorem kX8_init_7 : Cond.instanceMethod yX5_init ∈ wsX8_init := by decide +kernel
theorem kX8_init_inX8 : ∀ w ∈ u_ws RX8 TX8 13, w ∈ wsX8_init := by decide +kernel
theorem kX8_init_9 : Cond.fieldLink RX8 12 (TX8 0).1 (TX8 0).2.1 (TX8 0).2.2.1 ∈ wsX8_init := by decide +kernel
theorem kX8_init_inX3 : ∀ w ∈ u_ws RX3 TX3 5, w ∈ wsX8_init := by decide +kernel
theorem kX8_init_11 : Cond.classLink RX8 18 RX3 ∈ wsX8_init := by decide +kernel
theorem kX8_init_12 : Cond.instantiable RX3 5 ∈ wsX8_init := by decide +kernel
theorem kX8_init_13 : Cond.initialized RX3 ∈ wsX8_init := by decide +kernel
theorem kX8_init_14 : Cond.methodLink RX8 20 yX3_init ∈ wsX8_init := by decide +kernel
theorem kX8_init_15 : Cond.instanceMethod yX3_init ∈ wsX8_init := by decide +kernel
theorem kX8_init_16 : Cond.fieldLink RX8 21 (TX8 1).1 (TX8 1).2.1 (TX8 1).2.2.1 ∈ wsX8_init := by decide +kernel
theorem kX8_init_inX0 : ∀ w ∈ u_ws RX0 TX0 2, w ∈ wsX8_init := by decide +kernel
theorem kX8_init_18 : Cond.classLink RX8 25 RX0 ∈ wsX8_init := by decide +kernel
theorem kX8_init_19 : Cond.instantiable RX0 2 ∈ wsX8_init := by decide +kernel
theorem kX8_init_20 : Cond.initialized RX0 ∈ wsX8_init := by decide +kernel
theorem kX8_init_21 : Cond.instanceMethod yX0_init ∈ wsX8_init := by decide +kernel
theorem kX8_init_22 : Cond.fieldLink RX8 28 (TX8 2).1 (TX8 2).2.1 (TX8 2).2.2.1 ∈ wsX8_init := by decide +kernel
theorem kX8_init_23 : Cond.fieldLink RX8 32 (TX8 4).1 (TX8 4).2.1 (TX8 4).2.2.1 ∈ wsX8_init := by decide +kernel
theorem kX8_init_24 : Cond.fieldLink RX8 36 (TX8 5).1 (TX8 5).2.1 (TX8 5).2.2.1 ∈ wsX8_init := by decide +kernel
set_option maxRecDepth 100000 in
set_option maxHeartbeats 4000000 in
theorem n_X8 (E : zk_Env) (l : Launch) (h : Nat) : zk_Mn E l yX8_init wsX8_init ({ frames := 2, cells := 10, slots := 440, locals := 43 } : Room) [.ref h] [(h, .inr (8, [.null, .null, .null, .int 0, .int 0, .int 0, .int 0, .int 0, .int 0, .int 0, .int 0, .int 0, .int 0]))] f_X8_init (fun r a => gX8 E (h, a) r) 10 440 := by
  refine zk_MN (cc := cX8_init) (nL := 1) (by decide) rfl (Nat.le_of_ble_eq_true rfl) rfl (fun X Q hQ hin => ?_)
  refine zk_eqv (w1 := zk_j [[(h, .inr (8, [.null, .null, .null, .int 0, .int 0, .int 0, .int 0, .int 0, .int 0, .int 0, .int 0, .int 0, .int 0]))]]) (lv1 := [(0, .ref h)]) (st1 := []) (o1 := f_X8_init) rfl rfl rfl rfl ?_
  unfold f_X8_init
  refine zk_aload_n dX8_init_0 0 rfl 1 rfl ?_
  refine zk_objInit dX8_init_1 kX8_init_0 kX8_init_1 kX8_init_2 (Nat.le_of_ble_eq_true rfl) (Nat.le_of_ble_eq_true rfl) 4 rfl ?_
  refine zk_aload_n dX8_init_4 0 rfl 5 rfl ?_
  refine zk_new (ci := 5) (fs := [.null, .int 0]) (C := RX5) (T := TX5) (N := 2) tyX5 (fun q1 => (zk_j [[(h, .inr (8, [.null, .null, .null, .int 0, .int 0, .int 0, .int 0, .int 0, .int 0, .int 0, .int 0, .int 0, .int 0]))], [(q1, .inr (5, [.null, .int 0]))]])) 1 2 dX8_init_5 rfl kX8_init_inX5 tyX5_ok kX8_init_4 kX8_init_5 kX8_init_6 (fun j hj => by rcases (show j = 0 ∨ j = 1 by omega) with rfl | rfl <;> rfl) rfl rfl (Nat.le_of_ble_eq_true rfl) (Nat.le_of_ble_eq_true rfl) (fun _ => zk_snoc) 8 rfl (fun q1 => ?_)
  refine zk_dup dX8_init_8 rfl 9 rfl ?_
  refine zk_callIN (st := [.ref q1, .ref h]) (n_X5 E l q1) dX8_init_9 gX8_init_X5_init_n11 rfl rfl rfl kX8_init_6 (by decide +kernel) kX8_init_7 rfl (by decide +kernel) ⟨(Nat.le_of_ble_eq_true rfl), (Nat.le_of_ble_eq_true rfl)⟩ 2 242 rfl rfl (Nat.le_of_ble_eq_true rfl) (Nat.le_of_ble_eq_true rfl) _ (fun r9_1 a9_1 => (zk_j [[(h, .inr (8, [.null, .null, .null, .int 0, .int 0, .int 0, .int 0, .int 0, .int 0, .int 0, .int 0, .int 0, .int 0]))], gX5 E (q1, a9_1) r9_1])) (zk_p1 (gs := [[(h, .inr (8, [.null, .null, .null, .int 0, .int 0, .int 0, .int 0, .int 0, .int 0, .int 0, .int 0, .int 0, .int 0]))], [(q1, .inr (5, [.null, .int 0]))]]) (i := 1) rfl) (fun r9_1 a9_1 => zk_q1 (gs := [[(h, .inr (8, [.null, .null, .null, .int 0, .int 0, .int 0, .int 0, .int 0, .int 0, .int 0, .int 0, .int 0, .int 0]))], [(q1, .inr (5, [.null, .int 0]))]]) (i := 1) rfl rfl) (Nat.le_of_ble_eq_true rfl) 12 rfl (fun r9_1 a9_1 => ?_)
  refine zk_putF tyX8 (zk_j [[(h, .inr (8, [.ref q1, .null, .null, .int 0, .int 0, .int 0, .int 0, .int 0, .int 0, .int 0, .int 0, .int 0, .int 0]))], gX5 E (q1, a9_1) r9_1]) dX8_init_12 0 rfl rfl kX8_init_inX8 tyX8_ok nmX8 0 (by decide) kX8_init_9 rfl hin rfl (tyX8_ok 0 (by decide)) rfl rfl (Nat.le_of_ble_eq_true rfl) rfl 15 rfl ?_
  refine zk_aload_n dX8_init_15 0 rfl 16 rfl ?_
  refine zk_new (ci := 3) (fs := [.null, .null, .null, .null, .null]) (C := RX3) (T := TX3) (N := 5) tyX3 (fun q2 => (zk_j [[(h, .inr (8, [.ref q1, .null, .null, .int 0, .int 0, .int 0, .int 0, .int 0, .int 0, .int 0, .int 0, .int 0, .int 0]))], gX5 E (q1, a9_1) r9_1, [(q2, .inr (3, [.null, .null, .null, .null, .null]))]])) 3 247 dX8_init_16 rfl kX8_init_inX3 tyX3_ok kX8_init_11 kX8_init_12 kX8_init_13 (fun j hj => by rcases (show j = 0 ∨ j = 1 ∨ j = 2 ∨ j = 3 ∨ j = 4 by omega) with rfl | rfl | rfl | rfl | rfl <;> rfl) rfl rfl (Nat.le_of_ble_eq_true rfl) (Nat.le_of_ble_eq_true rfl) (fun _ => zk_snoc) 19 rfl (fun q2 => ?_)
  refine zk_dup dX8_init_19 rfl 20 rfl ?_
  refine zk_callI (st := [.ref q2, .ref h]) (n_X3 E l q2) dX8_init_20 gX8_init_X3_init rfl rfl rfl kX8_init_13 kX8_init_14 kX8_init_15 rfl (by decide +kernel) ⟨(Nat.le_of_ble_eq_true rfl), (Nat.le_of_ble_eq_true rfl)⟩ 8 402 rfl rfl (Nat.le_of_ble_eq_true rfl) (Nat.le_of_ble_eq_true rfl) _ (fun r20_2 a20_2 => (zk_j [[(h, .inr (8, [.ref q1, .null, .null, .int 0, .int 0, .int 0, .int 0, .int 0, .int 0, .int 0, .int 0, .int 0, .int 0]))], gX5 E (q1, a9_1) r9_1, gX3 E (q2, a20_2) r20_2])) (zk_p1 (gs := [[(h, .inr (8, [.ref q1, .null, .null, .int 0, .int 0, .int 0, .int 0, .int 0, .int 0, .int 0, .int 0, .int 0, .int 0]))], gX5 E (q1, a9_1) r9_1, [(q2, .inr (3, [.null, .null, .null, .null, .null]))]]) (i := 2) rfl) (fun r20_2 a20_2 => zk_q1 (gs := [[(h, .inr (8, [.ref q1, .null, .null, .int 0, .int 0, .int 0, .int 0, .int 0, .int 0, .int 0, .int 0, .int 0, .int 0]))], gX5 E (q1, a9_1) r9_1, [(q2, .inr (3, [.null, .null, .null, .null, .null]))]]) (i := 2) rfl rfl) (Nat.le_of_ble_eq_true rfl) 23 rfl (fun r20_2 a20_2 => ?_)
  refine zk_putF tyX8 (zk_j [[(h, .inr (8, [.ref q1, .ref q2, .null, .int 0, .int 0, .int 0, .int 0, .int 0, .int 0, .int 0, .int 0, .int 0, .int 0]))], gX5 E (q1, a9_1) r9_1, gX3 E (q2, a20_2) r20_2]) dX8_init_23 0 rfl rfl kX8_init_inX8 tyX8_ok nmX8 1 (by decide) kX8_init_16 rfl hin rfl (tyX8_ok 1 (by decide)) rfl rfl (Nat.le_of_ble_eq_true rfl) rfl 26 rfl ?_
  refine zk_aload_n dX8_init_26 0 rfl 27 rfl ?_
  refine zk_new (ci := 0) (fs := [.null, .int 0]) (C := RX0) (T := TX0) (N := 2) tyX0 (fun q3 => (zk_j [[(h, .inr (8, [.ref q1, .ref q2, .null, .int 0, .int 0, .int 0, .int 0, .int 0, .int 0, .int 0, .int 0, .int 0, .int 0]))], gX5 E (q1, a9_1) r9_1, gX3 E (q2, a20_2) r20_2, [(q3, .inr (0, [.null, .int 0]))]])) 9 404 dX8_init_27 rfl kX8_init_inX0 tyX0_ok kX8_init_18 kX8_init_19 kX8_init_20 (fun j hj => by rcases (show j = 0 ∨ j = 1 by omega) with rfl | rfl <;> rfl) rfl rfl (Nat.le_of_ble_eq_true rfl) (Nat.le_of_ble_eq_true rfl) (fun _ => zk_snoc) 30 rfl (fun q3 => ?_)
  refine zk_dup dX8_init_30 rfl 31 rfl ?_
  refine zk_callIN (st := [.ref q3, .ref h]) (n_X0 E l q3) dX8_init_31 gX8_init_X0_init_n27 rfl rfl rfl kX8_init_20 (by decide +kernel) kX8_init_21 rfl (by decide +kernel) ⟨(Nat.le_of_ble_eq_true rfl), (Nat.le_of_ble_eq_true rfl)⟩ 10 440 rfl rfl (Nat.le_of_ble_eq_true rfl) (Nat.le_of_ble_eq_true rfl) _ (fun r31_3 a31_3 => (zk_j [[(h, .inr (8, [.ref q1, .ref q2, .null, .int 0, .int 0, .int 0, .int 0, .int 0, .int 0, .int 0, .int 0, .int 0, .int 0]))], gX5 E (q1, a9_1) r9_1, gX3 E (q2, a20_2) r20_2, gX0 E (q3, a31_3) r31_3])) (zk_p1 (gs := [[(h, .inr (8, [.ref q1, .ref q2, .null, .int 0, .int 0, .int 0, .int 0, .int 0, .int 0, .int 0, .int 0, .int 0, .int 0]))], gX5 E (q1, a9_1) r9_1, gX3 E (q2, a20_2) r20_2, [(q3, .inr (0, [.null, .int 0]))]]) (i := 3) rfl) (fun r31_3 a31_3 => zk_q1 (gs := [[(h, .inr (8, [.ref q1, .ref q2, .null, .int 0, .int 0, .int 0, .int 0, .int 0, .int 0, .int 0, .int 0, .int 0, .int 0]))], gX5 E (q1, a9_1) r9_1, gX3 E (q2, a20_2) r20_2, [(q3, .inr (0, [.null, .int 0]))]]) (i := 3) rfl rfl) (Nat.le_of_ble_eq_true rfl) 34 rfl (fun r31_3 a31_3 => ?_)
  refine zk_putF tyX8 (zk_j [[(h, .inr (8, [.ref q1, .ref q2, .ref q3, .int 0, .int 0, .int 0, .int 0, .int 0, .int 0, .int 0, .int 0, .int 0, .int 0]))], gX5 E (q1, a9_1) r9_1, gX3 E (q2, a20_2) r20_2, gX0 E (q3, a31_3) r31_3]) dX8_init_34 0 rfl rfl kX8_init_inX8 tyX8_ok nmX8 2 (by decide) kX8_init_22 rfl hin rfl (tyX8_ok 2 (by decide)) rfl rfl (Nat.le_of_ble_eq_true rfl) rfl 37 rfl ?_
  refine zk_aload_n dX8_init_37 0 rfl 38 rfl ?_
  refine zk_iconst 3 dX8_init_38 (by decide) 39 rfl ?_
  refine zk_put_ tyX8 (zk_j [[(h, .inr (8, [.ref q1, .ref q2, .ref q3, .int 0, .int 3, .int 0, .int 0, .int 0, .int 0, .int 0, .int 0, .int 0, .int 0]))], gX5 E (q1, a9_1) r9_1, gX3 E (q2, a20_2) r20_2, gX0 E (q3, a31_3) r31_3]) dX8_init_39 0 rfl rfl kX8_init_inX8 tyX8_ok nmX8 4 (by decide) kX8_init_23 rfl (tyX8_ok 4 (by decide)) rfl rfl (Nat.le_of_ble_eq_true rfl) rfl 42 rfl ?_
  refine zk_aload_n dX8_init_42 0 rfl 43 rfl ?_
  refine zk_iconst 5 dX8_init_43 (by decide) 44 rfl ?_
  refine zk_put_ tyX8 (zk_j [[(h, .inr (8, [.ref q1, .ref q2, .ref q3, .int 0, .int 3, .int 5, .int 0, .int 0, .int 0, .int 0, .int 0, .int 0, .int 0]))], gX5 E (q1, a9_1) r9_1, gX3 E (q2, a20_2) r20_2, gX0 E (q3, a31_3) r31_3]) dX8_init_44 0 rfl rfl kX8_init_inX8 tyX8_ok nmX8 5 (by decide) kX8_init_24 rfl (tyX8_ok 5 (by decide)) rfl rfl (Nat.le_of_ble_eq_true rfl) rfl 47 rfl ?_
  exact zk_vretN ((q1, a9_1), (q2, a20_2), (q3, a31_3)) hQ dX8_init_47 rfl

def f_X7_init : Option (VX7) := some ((fun _ => 0), 0, 0, 0, 0)
theorem kX7_init_0 : Cond.methodLink RX7 3 Lib.objectInit ∈ wsX7_init := by decide +kernel
theorem kX7_init_1 : Cond.instanceMethod Lib.objectInit ∈ wsX7_init := by decide +kernel
theorem kX7_init_2 : Cond.code Lib.objectInit ⟨#[0xb1]⟩ 1 none ∈ wsX7_init := by decide +kernel
theorem kX7_init_3 : Cond.arrayClass .int ∈ wsX7_init := by decide +kernel
theorem kX7_init_inX7 : ∀ w ∈ u_ws RX7 TX7 5, w ∈ wsX7_init := by decide +kernel
theorem kX7_init_5 : Cond.fieldLink RX7 9 (TX7 0).1 (TX7 0).2.1 (TX7 0).2.2.1 ∈ wsX7_init := by decide +kernel
set_option maxRecDepth 100000 in
set_option maxHeartbeats 4000000 in
theorem n_X7 (E : zk_Env) (l : Launch) (h : Nat) : zk_Mn E l yX7_init wsX7_init ({ frames := 1, cells := 1, slots := 120, locals := 12 } : Room) [.ref h] [(h, .inr (7, [.null, .int 0, .int 0, .int 0, .int 0]))] f_X7_init (fun r a => gX7 E (h, a) r) 1 120 := by
  refine zk_MN (cc := cX7_init) (nL := 1) (by decide) rfl (Nat.le_of_ble_eq_true rfl) rfl (fun X Q hQ hin => ?_)
  refine zk_eqv (w1 := zk_j [[(h, .inr (7, [.null, .int 0, .int 0, .int 0, .int 0]))]]) (lv1 := [(0, .ref h)]) (st1 := []) (o1 := f_X7_init) rfl rfl rfl rfl ?_
  unfold f_X7_init
  refine zk_aload_n dX7_init_0 0 rfl 1 rfl ?_
  refine zk_objInit dX7_init_1 kX7_init_0 kX7_init_1 kX7_init_2 (Nat.le_of_ble_eq_true rfl) (Nat.le_of_ble_eq_true rfl) 4 rfl ?_
  refine zk_aload_n dX7_init_4 0 rfl 5 rfl ?_
  refine zk_bipush 120 dX7_init_5 (by decide) 7 rfl ?_
  refine zk_newaI 120 (fun q1 => (zk_j [[(h, .inr (7, [.null, .int 0, .int 0, .int 0, .int 0]))], [(q1, .inl (zk_ci E, 120, .inl (fun _ => 0)))]])) 1 120 dX7_init_7 kX7_init_3 (by decide) (by decide) (Nat.le_of_ble_eq_true rfl) rfl rfl (Nat.le_of_ble_eq_true rfl) (Nat.le_of_ble_eq_true rfl) (fun _ => zk_snoc) 9 rfl (fun q1 => ?_)
  refine zk_putF tyX7 (zk_j [[(h, .inr (7, [.ref q1, .int 0, .int 0, .int 0, .int 0]))], [(q1, .inl (zk_ci E, 120, .inl (fun _ => 0)))]]) dX7_init_9 0 rfl rfl kX7_init_inX7 tyX7_ok nmX7 0 (by decide) kX7_init_5 rfl hin rfl (tyX7_ok 0 (by decide)) rfl rfl (Nat.le_of_ble_eq_true rfl) rfl 12 rfl ?_
  exact zk_vretN q1 hQ dX7_init_12 rfl

def f_X4_init : Option (VX4) := f_X7_init.bind fun r9_1 => some (r9_1, (fun _ => 0), (fun _ => 0), 0, 0, 0, 0, 0)
theorem kX4_init_0 : Cond.methodLink RX4 3 Lib.objectInit ∈ wsX4_init := by decide +kernel
theorem kX4_init_1 : Cond.instanceMethod Lib.objectInit ∈ wsX4_init := by decide +kernel
theorem kX4_init_2 : Cond.code Lib.objectInit ⟨#[0xb1]⟩ 1 none ∈ wsX4_init := by decide +kernel
theorem kX4_init_inX7 : ∀ w ∈ u_ws RX7 TX7 5, w ∈ wsX4_init := by decide +kernel
theorem kX4_init_4 : Cond.classLink RX4 9 RX7 ∈ wsX4_init := by decide +kernel
theorem kX4_init_5 : Cond.instantiable RX7 5 ∈ wsX4_init := by decide +kernel
theorem kX4_init_6 : Cond.initialized RX7 ∈ wsX4_init := by decide +kernel
theorem kX4_init_7 : Cond.instanceMethod yX7_init ∈ wsX4_init := by decide +kernel
theorem kX4_init_inX4 : ∀ w ∈ u_ws RX4 TX4 8, w ∈ wsX4_init := by decide +kernel
theorem kX4_init_9 : Cond.fieldLink RX4 12 (TX4 0).1 (TX4 0).2.1 (TX4 0).2.2.1 ∈ wsX4_init := by decide +kernel
theorem kX4_init_10 : Cond.arrayClass .int ∈ wsX4_init := by decide +kernel
theorem kX4_init_11 : Cond.fieldLink RX4 18 (TX4 1).1 (TX4 1).2.1 (TX4 1).2.2.1 ∈ wsX4_init := by decide +kernel
theorem kX4_init_12 : Cond.fieldLink RX4 22 (TX4 2).1 (TX4 2).2.1 (TX4 2).2.2.1 ∈ wsX4_init := by decide +kernel
set_option maxRecDepth 100000 in
set_option maxHeartbeats 4000000 in
theorem n_X4 (E : zk_Env) (l : Launch) (h : Nat) : zk_Mn E l yX4_init wsX4_init ({ frames := 2, cells := 4, slots := 132, locals := 32 } : Room) [.ref h] [(h, .inr (4, [.null, .null, .null, .int 0, .int 0, .int 0, .int 0, .int 0]))] f_X4_init (fun r a => gX4 E (h, a) r) 4 132 := by
  refine zk_MN (cc := cX4_init) (nL := 1) (by decide) rfl (Nat.le_of_ble_eq_true rfl) rfl (fun X Q hQ hin => ?_)
  refine zk_eqv (w1 := zk_j [[(h, .inr (4, [.null, .null, .null, .int 0, .int 0, .int 0, .int 0, .int 0]))]]) (lv1 := [(0, .ref h)]) (st1 := []) (o1 := f_X4_init) rfl rfl rfl rfl ?_
  unfold f_X4_init
  refine zk_aload_n dX4_init_0 0 rfl 1 rfl ?_
  refine zk_objInit dX4_init_1 kX4_init_0 kX4_init_1 kX4_init_2 (Nat.le_of_ble_eq_true rfl) (Nat.le_of_ble_eq_true rfl) 4 rfl ?_
  refine zk_aload_n dX4_init_4 0 rfl 5 rfl ?_
  refine zk_new (ci := 7) (fs := [.null, .int 0, .int 0, .int 0, .int 0]) (C := RX7) (T := TX7) (N := 5) tyX7 (fun q1 => (zk_j [[(h, .inr (4, [.null, .null, .null, .int 0, .int 0, .int 0, .int 0, .int 0]))], [(q1, .inr (7, [.null, .int 0, .int 0, .int 0, .int 0]))]])) 1 5 dX4_init_5 rfl kX4_init_inX7 tyX7_ok kX4_init_4 kX4_init_5 kX4_init_6 (fun j hj => by rcases (show j = 0 ∨ j = 1 ∨ j = 2 ∨ j = 3 ∨ j = 4 by omega) with rfl | rfl | rfl | rfl | rfl <;> rfl) rfl rfl (Nat.le_of_ble_eq_true rfl) (Nat.le_of_ble_eq_true rfl) (fun _ => zk_snoc) 8 rfl (fun q1 => ?_)
  refine zk_dup dX4_init_8 rfl 9 rfl ?_
  refine zk_callIN (st := [.ref q1, .ref h]) (n_X7 E l q1) dX4_init_9 gX4_init_X7_init_n11 rfl rfl rfl kX4_init_6 (by decide +kernel) kX4_init_7 rfl (by decide +kernel) ⟨(Nat.le_of_ble_eq_true rfl), (Nat.le_of_ble_eq_true rfl)⟩ 2 125 rfl rfl (Nat.le_of_ble_eq_true rfl) (Nat.le_of_ble_eq_true rfl) _ (fun r9_1 a9_1 => (zk_j [[(h, .inr (4, [.null, .null, .null, .int 0, .int 0, .int 0, .int 0, .int 0]))], gX7 E (q1, a9_1) r9_1])) (zk_p1 (gs := [[(h, .inr (4, [.null, .null, .null, .int 0, .int 0, .int 0, .int 0, .int 0]))], [(q1, .inr (7, [.null, .int 0, .int 0, .int 0, .int 0]))]]) (i := 1) rfl) (fun r9_1 a9_1 => zk_q1 (gs := [[(h, .inr (4, [.null, .null, .null, .int 0, .int 0, .int 0, .int 0, .int 0]))], [(q1, .inr (7, [.null, .int 0, .int 0, .int 0, .int 0]))]]) (i := 1) rfl rfl) (Nat.le_of_ble_eq_true rfl) 12 rfl (fun r9_1 a9_1 => ?_)
  refine zk_putF tyX4 (zk_j [[(h, .inr (4, [.ref q1, .null, .null, .int 0, .int 0, .int 0, .int 0, .int 0]))], gX7 E (q1, a9_1) r9_1]) dX4_init_12 0 rfl rfl kX4_init_inX4 tyX4_ok nmX4 0 (by decide) kX4_init_9 rfl hin rfl (tyX4_ok 0 (by decide)) rfl rfl (Nat.le_of_ble_eq_true rfl) rfl 15 rfl ?_
  refine zk_aload_n dX4_init_15 0 rfl 16 rfl ?_
  refine zk_iconst 3 dX4_init_16 (by decide) 17 rfl ?_
  refine zk_newaI 3 (fun q2 => (zk_j [[(h, .inr (4, [.ref q1, .null, .null, .int 0, .int 0, .int 0, .int 0, .int 0]))], gX7 E (q1, a9_1) r9_1, [(q2, .inl (zk_ci E, 3, .inl (fun _ => 0)))]])) 3 128 dX4_init_17 kX4_init_10 (by decide) (by decide) (Nat.le_of_ble_eq_true rfl) rfl rfl (Nat.le_of_ble_eq_true rfl) (Nat.le_of_ble_eq_true rfl) (fun _ => zk_snoc) 19 rfl (fun q2 => ?_)
  refine zk_putF tyX4 (zk_j [[(h, .inr (4, [.ref q1, .ref q2, .null, .int 0, .int 0, .int 0, .int 0, .int 0]))], gX7 E (q1, a9_1) r9_1, [(q2, .inl (zk_ci E, 3, .inl (fun _ => 0)))]]) dX4_init_19 0 rfl rfl kX4_init_inX4 tyX4_ok nmX4 1 (by decide) kX4_init_11 rfl hin rfl (tyX4_ok 1 (by decide)) rfl rfl (Nat.le_of_ble_eq_true rfl) rfl 22 rfl ?_
  refine zk_aload_n dX4_init_22 0 rfl 23 rfl ?_
  refine zk_iconst 4 dX4_init_23 (by decide) 24 rfl ?_
  refine zk_newaI 4 (fun q3 => (zk_j [[(h, .inr (4, [.ref q1, .ref q2, .null, .int 0, .int 0, .int 0, .int 0, .int 0]))], gX7 E (q1, a9_1) r9_1, [(q2, .inl (zk_ci E, 3, .inl (fun _ => 0)))], [(q3, .inl (zk_ci E, 4, .inl (fun _ => 0)))]])) 4 132 dX4_init_24 kX4_init_10 (by decide) (by decide) (Nat.le_of_ble_eq_true rfl) rfl rfl (Nat.le_of_ble_eq_true rfl) (Nat.le_of_ble_eq_true rfl) (fun _ => zk_snoc) 26 rfl (fun q3 => ?_)
  refine zk_putF tyX4 (zk_j [[(h, .inr (4, [.ref q1, .ref q2, .ref q3, .int 0, .int 0, .int 0, .int 0, .int 0]))], gX7 E (q1, a9_1) r9_1, [(q2, .inl (zk_ci E, 3, .inl (fun _ => 0)))], [(q3, .inl (zk_ci E, 4, .inl (fun _ => 0)))]]) dX4_init_26 0 rfl rfl kX4_init_inX4 tyX4_ok nmX4 2 (by decide) kX4_init_12 rfl hin rfl (tyX4_ok 2 (by decide)) rfl rfl (Nat.le_of_ble_eq_true rfl) rfl 29 rfl ?_
  refine zk_perm _ (zk_mv2 [(h, .inr (4, [.ref q1, .ref q2, .ref q3, .int 0, .int 0, .int 0, .int 0, .int 0]))] (gX7 E (q1, a9_1) r9_1) ([(q2, .inl (zk_ci E, 3, .inl (fun _ => 0)))] ++ [(q3, .inl (zk_ci E, 4, .inl (fun _ => 0)))]) []) ?_
  exact zk_vretN ((q1, a9_1), q2, q3) hQ dX4_init_29 rfl

def f_X6_init : Option (VX6) := f_X8_init.bind fun r9_1 => f_X8_init.bind fun r46_4 => f_X8_init.bind fun r46_5 => some (r9_1, (fun i => if i = 0 then r46_4 else r46_5), (fun _ => 0))
theorem kX6_init_0 : Cond.methodLink RX6 3 Lib.objectInit ∈ wsX6_init := by decide +kernel
theorem kX6_init_1 : Cond.instanceMethod Lib.objectInit ∈ wsX6_init := by decide +kernel
theorem kX6_init_2 : Cond.code Lib.objectInit ⟨#[0xb1]⟩ 1 none ∈ wsX6_init := by decide +kernel
theorem kX6_init_inX8 : ∀ w ∈ u_ws RX8 TX8 13, w ∈ wsX6_init := by decide +kernel
theorem kX6_init_4 : Cond.classLink RX6 9 RX8 ∈ wsX6_init := by decide +kernel
theorem kX6_init_5 : Cond.instantiable RX8 13 ∈ wsX6_init := by decide +kernel
theorem kX6_init_6 : Cond.initialized RX8 ∈ wsX6_init := by decide +kernel
theorem kX6_init_7 : Cond.instanceMethod yX8_init ∈ wsX6_init := by decide +kernel
theorem kX6_init_inX6 : ∀ w ∈ u_ws RX6 TX6 3, w ∈ wsX6_init := by decide +kernel
theorem kX6_init_9 : Cond.fieldLink RX6 12 (TX6 0).1 (TX6 0).2.1 (TX6 0).2.2.1 ∈ wsX6_init := by decide +kernel
theorem kX6_init_10 : Cond.fieldLink RX6 18 (TX6 1).1 (TX6 1).2.1 (TX6 1).2.2.1 ∈ wsX6_init := by decide +kernel
theorem kX6_init_11 : Cond.arrayClass .boolean ∈ wsX6_init := by decide +kernel
theorem kX6_init_12 : Cond.fieldLink RX6 22 (TX6 2).1 (TX6 2).2.1 (TX6 2).2.2.1 ∈ wsX6_init := by decide +kernel
set_option maxRecDepth 100000 in
set_option maxHeartbeats 4000000 in
theorem n_X6 (E : zk_Env) (l : Launch) (h : Nat) : zk_Mn E l yX6_init wsX6_init ({ frames := 3, cells := 35, slots := 1363, locals := 63 } : Room) [.ref h] [(h, .inr (6, [.null, .null, .null]))] f_X6_init (fun r a => gX6 E (h, a) r) 35 1363 := by
  refine zk_MN (cc := cX6_init) (nL := 2) (by decide) rfl (Nat.le_of_ble_eq_true rfl) rfl (fun X Q hQ hin => ?_)
  refine zk_eqv (w1 := zk_j [[(h, .inr (6, [.null, .null, .null]))]]) (lv1 := [(0, .ref h)]) (st1 := []) (o1 := f_X6_init) rfl rfl rfl rfl ?_
  unfold f_X6_init
  refine zk_aload_n dX6_init_0 0 rfl 1 rfl ?_
  refine zk_objInit dX6_init_1 kX6_init_0 kX6_init_1 kX6_init_2 (Nat.le_of_ble_eq_true rfl) (Nat.le_of_ble_eq_true rfl) 4 rfl ?_
  refine zk_aload_n dX6_init_4 0 rfl 5 rfl ?_
  refine zk_new (ci := 8) (fs := [.null, .null, .null, .int 0, .int 0, .int 0, .int 0, .int 0, .int 0, .int 0, .int 0, .int 0, .int 0]) (C := RX8) (T := TX8) (N := 13) tyX8 (fun q1 => (zk_j [[(h, .inr (6, [.null, .null, .null]))], [(q1, .inr (8, [.null, .null, .null, .int 0, .int 0, .int 0, .int 0, .int 0, .int 0, .int 0, .int 0, .int 0, .int 0]))]])) 1 13 dX6_init_5 rfl kX6_init_inX8 tyX8_ok kX6_init_4 kX6_init_5 kX6_init_6 (fun j hj => by rcases (show j = 0 ∨ j = 1 ∨ j = 2 ∨ j = 3 ∨ j = 4 ∨ j = 5 ∨ j = 6 ∨ j = 7 ∨ j = 8 ∨ j = 9 ∨ j = 10 ∨ j = 11 ∨ j = 12 by omega) with rfl | rfl | rfl | rfl | rfl | rfl | rfl | rfl | rfl | rfl | rfl | rfl | rfl <;> rfl) rfl rfl (Nat.le_of_ble_eq_true rfl) (Nat.le_of_ble_eq_true rfl) (fun _ => zk_snoc) 8 rfl (fun q1 => ?_)
  refine zk_dup dX6_init_8 rfl 9 rfl ?_
  refine zk_callIN (st := [.ref q1, .ref h]) (n_X8 E l q1) dX6_init_9 gX6_init_X8_init_n11 rfl rfl rfl kX6_init_6 (by decide +kernel) kX6_init_7 rfl (by decide +kernel) ⟨(Nat.le_of_ble_eq_true rfl), (Nat.le_of_ble_eq_true rfl)⟩ 11 453 rfl rfl (Nat.le_of_ble_eq_true rfl) (Nat.le_of_ble_eq_true rfl) _ (fun r9_1 a9_1 => (zk_j [[(h, .inr (6, [.null, .null, .null]))], gX8 E (q1, a9_1) r9_1])) (zk_p1 (gs := [[(h, .inr (6, [.null, .null, .null]))], [(q1, .inr (8, [.null, .null, .null, .int 0, .int 0, .int 0, .int 0, .int 0, .int 0, .int 0, .int 0, .int 0, .int 0]))]]) (i := 1) rfl) (fun r9_1 a9_1 => zk_q1 (gs := [[(h, .inr (6, [.null, .null, .null]))], [(q1, .inr (8, [.null, .null, .null, .int 0, .int 0, .int 0, .int 0, .int 0, .int 0, .int 0, .int 0, .int 0, .int 0]))]]) (i := 1) rfl rfl) (Nat.le_of_ble_eq_true rfl) 12 rfl (fun r9_1 a9_1 => ?_)
  refine zk_putF tyX6 (zk_j [[(h, .inr (6, [.ref q1, .null, .null]))], gX8 E (q1, a9_1) r9_1]) dX6_init_12 0 rfl rfl kX6_init_inX6 tyX6_ok nmX6 0 (by decide) kX6_init_9 rfl hin rfl (tyX6_ok 0 (by decide)) rfl rfl (Nat.le_of_ble_eq_true rfl) rfl 15 rfl ?_
  refine zk_aload_n dX6_init_15 0 rfl 16 rfl ?_
  refine zk_iconst 2 dX6_init_16 (by decide) 17 rfl ?_
  refine zk_newqW 2 (fun q2 => (zk_j [[(h, .inr (6, [.ref q1, .null, .null]))], gX8 E (q1, a9_1) r9_1, [(q2, .inl (zk_cw E, 2, .inr (.inr (.inr (.inr (fun _ => none))))))]])) 12 455 dX6_init_17 kX6_init_4 (by decide) (by decide) (Nat.le_of_ble_eq_true rfl) rfl rfl (Nat.le_of_ble_eq_true rfl) (Nat.le_of_ble_eq_true rfl) (fun _ => zk_snoc) 20 rfl (fun q2 => ?_)
  refine zk_putF tyX6 (zk_j [[(h, .inr (6, [.ref q1, .ref q2, .null]))], gX8 E (q1, a9_1) r9_1, [(q2, .inl (zk_cw E, 2, .inr (.inr (.inr (.inr (fun _ => none))))))]]) dX6_init_20 0 rfl rfl kX6_init_inX6 tyX6_ok nmX6 1 (by decide) kX6_init_10 rfl hin rfl (tyX6_ok 1 (by decide)) rfl rfl (Nat.le_of_ble_eq_true rfl) rfl 23 rfl ?_
  refine zk_aload_n dX6_init_23 0 rfl 24 rfl ?_
  refine zk_iconst 2 dX6_init_24 (by decide) 25 rfl ?_
  refine zk_newaZ 2 (fun q3 => (zk_j [[(h, .inr (6, [.ref q1, .ref q2, .null]))], gX8 E (q1, a9_1) r9_1, [(q2, .inl (zk_cw E, 2, .inr (.inr (.inr (.inr (fun _ => none))))))], [(q3, .inl (zk_cz E, 2, .inl (fun _ => 0)))]])) 13 457 dX6_init_25 kX6_init_11 (by decide) (by decide) (Nat.le_of_ble_eq_true rfl) rfl rfl (Nat.le_of_ble_eq_true rfl) (Nat.le_of_ble_eq_true rfl) (fun _ => zk_snoc) 27 rfl (fun q3 => ?_)
  refine zk_putF tyX6 (zk_j [[(h, .inr (6, [.ref q1, .ref q2, .ref q3]))], gX8 E (q1, a9_1) r9_1, [(q2, .inl (zk_cw E, 2, .inr (.inr (.inr (.inr (fun _ => none))))))], [(q3, .inl (zk_cz E, 2, .inl (fun _ => 0)))]]) dX6_init_27 0 rfl rfl kX6_init_inX6 tyX6_ok nmX6 2 (by decide) kX6_init_12 rfl hin rfl (tyX6_ok 2 (by decide)) rfl rfl (Nat.le_of_ble_eq_true rfl) rfl 30 rfl ?_
  refine zk_iconst 0 dX6_init_30 (by decide) 31 rfl ?_
  refine zk_istore_n [(1, .int 0), (0, .ref h)] dX6_init_31 (by decide) rfl 32 rfl ?_
  refine zk_iload_n dX6_init_32 0 rfl 33 rfl ?_
  refine zk_iconst 2 dX6_init_33 (by decide) 34 rfl ?_
  refine zk_icmp_geF dX6_init_34 (by decide) 56 (by decide) 37 rfl ?_
  refine zk_aload_n dX6_init_37 1 rfl 38 rfl ?_
  refine zk_get dX6_init_38 0 rfl rfl kX6_init_inX6 1 (by decide) kX6_init_10 rfl 41 rfl ?_
  refine zk_iload_n dX6_init_41 0 rfl 42 rfl ?_
  refine zk_new (ci := 8) (fs := [.null, .null, .null, .int 0, .int 0, .int 0, .int 0, .int 0, .int 0, .int 0, .int 0, .int 0, .int 0]) (C := RX8) (T := TX8) (N := 13) tyX8 (fun q4 => (zk_j [[(h, .inr (6, [.ref q1, .ref q2, .ref q3]))], gX8 E (q1, a9_1) r9_1, [(q2, .inl (zk_cw E, 2, .inr (.inr (.inr (.inr (fun _ => none))))))], [(q3, .inl (zk_cz E, 2, .inl (fun _ => 0)))], [(q4, .inr (8, [.null, .null, .null, .int 0, .int 0, .int 0, .int 0, .int 0, .int 0, .int 0, .int 0, .int 0, .int 0]))]])) 14 470 dX6_init_42 rfl kX6_init_inX8 tyX8_ok kX6_init_4 kX6_init_5 kX6_init_6 (fun j hj => by rcases (show j = 0 ∨ j = 1 ∨ j = 2 ∨ j = 3 ∨ j = 4 ∨ j = 5 ∨ j = 6 ∨ j = 7 ∨ j = 8 ∨ j = 9 ∨ j = 10 ∨ j = 11 ∨ j = 12 by omega) with rfl | rfl | rfl | rfl | rfl | rfl | rfl | rfl | rfl | rfl | rfl | rfl | rfl <;> rfl) rfl rfl (Nat.le_of_ble_eq_true rfl) (Nat.le_of_ble_eq_true rfl) (fun _ => zk_snoc) 45 rfl (fun q4 => ?_)
  refine zk_dup dX6_init_45 rfl 46 rfl ?_
  refine zk_callIN (st := [.ref q4, .int 0, .ref q2]) (n_X8 E l q4) dX6_init_46 gX6_init_X8_init_n11 rfl rfl rfl kX6_init_6 (by decide +kernel) kX6_init_7 rfl (by decide +kernel) ⟨(Nat.le_of_ble_eq_true rfl), (Nat.le_of_ble_eq_true rfl)⟩ 24 910 rfl rfl (Nat.le_of_ble_eq_true rfl) (Nat.le_of_ble_eq_true rfl) _ (fun r46_4 a46_4 => (zk_j [[(h, .inr (6, [.ref q1, .ref q2, .ref q3]))], gX8 E (q1, a9_1) r9_1, [(q2, .inl (zk_cw E, 2, .inr (.inr (.inr (.inr (fun _ => none))))))], [(q3, .inl (zk_cz E, 2, .inl (fun _ => 0)))], gX8 E (q4, a46_4) r46_4])) (zk_p1 (gs := [[(h, .inr (6, [.ref q1, .ref q2, .ref q3]))], gX8 E (q1, a9_1) r9_1, [(q2, .inl (zk_cw E, 2, .inr (.inr (.inr (.inr (fun _ => none))))))], [(q3, .inl (zk_cz E, 2, .inl (fun _ => 0)))], [(q4, .inr (8, [.null, .null, .null, .int 0, .int 0, .int 0, .int 0, .int 0, .int 0, .int 0, .int 0, .int 0, .int 0]))]]) (i := 4) rfl) (fun r46_4 a46_4 => zk_q1 (gs := [[(h, .inr (6, [.ref q1, .ref q2, .ref q3]))], gX8 E (q1, a9_1) r9_1, [(q2, .inl (zk_cw E, 2, .inr (.inr (.inr (.inr (fun _ => none))))))], [(q3, .inl (zk_cz E, 2, .inl (fun _ => 0)))], [(q4, .inr (8, [.null, .null, .null, .int 0, .int 0, .int 0, .int 0, .int 0, .int 0, .int 0, .int 0, .int 0, .int 0]))]]) (i := 4) rfl rfl) (Nat.le_of_ble_eq_true rfl) 49 rfl (fun r46_4 a46_4 => ?_)
  refine zk_aast (ci := 8) 2 (zk_j [[(h, .inr (6, [.ref q1, .ref q2, .ref q3]))], gX8 E (q1, a9_1) r9_1, [(q2, .inl (zk_cw E, 2, .inr (.inr (.inr (.inr (va_up (fun _ => none) 0 (some q4)))))))], [(q3, .inl (zk_cz E, 2, .inl (fun _ => 0)))], gX8 E (q4, a46_4) r46_4]) 0 dX6_init_49 12 14 rfl rfl rfl rfl (by unfold vp_in; decide) (by decide) rfl 50 rfl ?_
  refine zk_iinc 1 [(1, .int 1), (0, .ref h)] dX6_init_50 0 rfl (by decide) (by decide) rfl 53 rfl ?_
  refine zk_goto dX6_init_53 32 (by decide) ?_
  refine zk_iload_n dX6_init_32 0 rfl 33 rfl ?_
  refine zk_iconst 2 dX6_init_33 (by decide) 34 rfl ?_
  refine zk_icmp_geF dX6_init_34 (by decide) 56 (by decide) 37 rfl ?_
  refine zk_aload_n dX6_init_37 1 rfl 38 rfl ?_
  refine zk_get dX6_init_38 0 rfl rfl kX6_init_inX6 1 (by decide) kX6_init_10 rfl 41 rfl ?_
  refine zk_iload_n dX6_init_41 0 rfl 42 rfl ?_
  refine zk_new (ci := 8) (fs := [.null, .null, .null, .int 0, .int 0, .int 0, .int 0, .int 0, .int 0, .int 0, .int 0, .int 0, .int 0]) (C := RX8) (T := TX8) (N := 13) tyX8 (fun q5 => (zk_j [[(h, .inr (6, [.ref q1, .ref q2, .ref q3]))], gX8 E (q1, a9_1) r9_1, [(q2, .inl (zk_cw E, 2, .inr (.inr (.inr (.inr (va_up (fun _ => none) 0 (some q4)))))))], [(q3, .inl (zk_cz E, 2, .inl (fun _ => 0)))], gX8 E (q4, a46_4) r46_4, [(q5, .inr (8, [.null, .null, .null, .int 0, .int 0, .int 0, .int 0, .int 0, .int 0, .int 0, .int 0, .int 0, .int 0]))]])) 25 923 dX6_init_42 rfl kX6_init_inX8 tyX8_ok kX6_init_4 kX6_init_5 kX6_init_6 (fun j hj => by rcases (show j = 0 ∨ j = 1 ∨ j = 2 ∨ j = 3 ∨ j = 4 ∨ j = 5 ∨ j = 6 ∨ j = 7 ∨ j = 8 ∨ j = 9 ∨ j = 10 ∨ j = 11 ∨ j = 12 by omega) with rfl | rfl | rfl | rfl | rfl | rfl | rfl | rfl | rfl | rfl | rfl | rfl | rfl <;> rfl) rfl rfl (Nat.le_of_ble_eq_true rfl) (Nat.le_of_ble_eq_true rfl) (fun _ => zk_snoc) 45 rfl (fun q5 => ?_)
  refine zk_dup dX6_init_45 rfl 46 rfl ?_
  refine zk_callIN (st := [.ref q5, .int 1, .ref q2]) (n_X8 E l q5) dX6_init_46 gX6_init_X8_init_n11 rfl rfl rfl kX6_init_6 (by decide +kernel) kX6_init_7 rfl (by decide +kernel) ⟨(Nat.le_of_ble_eq_true rfl), (Nat.le_of_ble_eq_true rfl)⟩ 35 1363 rfl rfl (Nat.le_of_ble_eq_true rfl) (Nat.le_of_ble_eq_true rfl) _ (fun r46_5 a46_5 => (zk_j [[(h, .inr (6, [.ref q1, .ref q2, .ref q3]))], gX8 E (q1, a9_1) r9_1, [(q2, .inl (zk_cw E, 2, .inr (.inr (.inr (.inr (va_up (fun _ => none) 0 (some q4)))))))], [(q3, .inl (zk_cz E, 2, .inl (fun _ => 0)))], gX8 E (q4, a46_4) r46_4, gX8 E (q5, a46_5) r46_5])) (zk_p1 (gs := [[(h, .inr (6, [.ref q1, .ref q2, .ref q3]))], gX8 E (q1, a9_1) r9_1, [(q2, .inl (zk_cw E, 2, .inr (.inr (.inr (.inr (va_up (fun _ => none) 0 (some q4)))))))], [(q3, .inl (zk_cz E, 2, .inl (fun _ => 0)))], gX8 E (q4, a46_4) r46_4, [(q5, .inr (8, [.null, .null, .null, .int 0, .int 0, .int 0, .int 0, .int 0, .int 0, .int 0, .int 0, .int 0, .int 0]))]]) (i := 5) rfl) (fun r46_5 a46_5 => zk_q1 (gs := [[(h, .inr (6, [.ref q1, .ref q2, .ref q3]))], gX8 E (q1, a9_1) r9_1, [(q2, .inl (zk_cw E, 2, .inr (.inr (.inr (.inr (va_up (fun _ => none) 0 (some q4)))))))], [(q3, .inl (zk_cz E, 2, .inl (fun _ => 0)))], gX8 E (q4, a46_4) r46_4, [(q5, .inr (8, [.null, .null, .null, .int 0, .int 0, .int 0, .int 0, .int 0, .int 0, .int 0, .int 0, .int 0, .int 0]))]]) (i := 5) rfl rfl) (Nat.le_of_ble_eq_true rfl) 49 rfl (fun r46_5 a46_5 => ?_)
  refine zk_aast (ci := 8) 2 (zk_j [[(h, .inr (6, [.ref q1, .ref q2, .ref q3]))], gX8 E (q1, a9_1) r9_1, [(q2, .inl (zk_cw E, 2, .inr (.inr (.inr (.inr (va_up (va_up (fun _ => none) 0 (some q4)) 1 (some q5)))))))], [(q3, .inl (zk_cz E, 2, .inl (fun _ => 0)))], gX8 E (q4, a46_4) r46_4, gX8 E (q5, a46_5) r46_5]) 1 dX6_init_49 12 25 rfl rfl rfl rfl (by unfold vp_in; decide) (by decide) rfl 50 rfl ?_
  refine zk_iinc 2 [(1, .int 2), (0, .ref h)] dX6_init_50 0 rfl (by decide) (by decide) rfl 53 rfl ?_
  refine zk_goto dX6_init_53 32 (by decide) ?_
  refine zk_iload_n dX6_init_32 0 rfl 33 rfl ?_
  refine zk_iconst 2 dX6_init_33 (by decide) 34 rfl ?_
  refine zk_icmp_geT dX6_init_34 (by decide) 56 (by decide) ?_
  refine zk_rowq (k := 12) (fun i => some ((fun i => if i = 0 then (q4, a46_4) else (q5, a46_5)) i).1) (zk_j [[(h, .inr (6, [.ref q1, .ref q2, .ref q3]))], gX8 E (q1, a9_1) r9_1, [(q2, .inl (zk_cw E, 2, .inr (.inr (.inr (.inr (fun i => some ((fun i => if i = 0 then (q4, a46_4) else (q5, a46_5)) i).1))))))], [(q3, .inl (zk_cz E, 2, .inl (fun _ => 0)))], gX8 E (q4, a46_4) r46_4, gX8 E (q5, a46_5) r46_5]) rfl (fun i hi => by rcases (show i = 0 ∨ i = 1 by omega) with rfl | rfl <;> rfl) rfl ?_
  refine zk_perm _ (zk_mv2 [(h, .inr (6, [.ref q1, .ref q2, .ref q3]))] (gX8 E (q1, a9_1) r9_1) ([(q2, .inl (zk_cw E, 2, .inr (.inr (.inr (.inr (fun i => some ((fun i => if i = 0 then (q4, a46_4) else (q5, a46_5)) i).1))))))] ++ [(q3, .inl (zk_cz E, 2, .inl (fun _ => 0)))]) (gX8 E (q4, a46_4) r46_4 ++ (gX8 E (q5, a46_5) r46_5 ++ []))) ?_
  exact zk_vretN ((q1, a9_1), (q2, (fun i => if i = 0 then (q4, a46_4) else (q5, a46_5))), q3) hQ dX6_init_56 rfl

def f_X2_init : Option (VX2) := f_X6_init.bind fun r30_2 => f_X6_init.bind fun r30_3 => f_X6_init.bind fun r30_4 => f_X6_init.bind fun r30_5 => f_X6_init.bind fun r30_6 => f_X6_init.bind fun r30_7 => some ((fun i => if i = 0 then r30_2 else if i = 1 then r30_3 else if i = 2 then r30_4 else if i = 3 then r30_5 else if i = 4 then r30_6 else r30_7), 0, 0)
theorem kX2_init_0 : Cond.methodLink RX2 5 Lib.objectInit ∈ wsX2_init := by decide +kernel
theorem kX2_init_1 : Cond.instanceMethod Lib.objectInit ∈ wsX2_init := by decide +kernel
theorem kX2_init_2 : Cond.code Lib.objectInit ⟨#[0xb1]⟩ 1 none ∈ wsX2_init := by decide +kernel
theorem kX2_init_3 : Cond.classLink RX2 11 RX6 ∈ wsX2_init := by decide +kernel
theorem kX2_init_inX2 : ∀ w ∈ u_ws RX2 TX2 3, w ∈ wsX2_init := by decide +kernel
theorem kX2_init_5 : Cond.fieldLink RX2 13 (TX2 0).1 (TX2 0).2.1 (TX2 0).2.2.1 ∈ wsX2_init := by decide +kernel
theorem kX2_init_inX6 : ∀ w ∈ u_ws RX6 TX6 3, w ∈ wsX2_init := by decide +kernel
theorem kX2_init_7 : Cond.instantiable RX6 3 ∈ wsX2_init := by decide +kernel
theorem kX2_init_8 : Cond.initialized RX6 ∈ wsX2_init := by decide +kernel
theorem kX2_init_9 : Cond.methodLink RX2 17 yX6_init ∈ wsX2_init := by decide +kernel
theorem kX2_init_10 : Cond.instanceMethod yX6_init ∈ wsX2_init := by decide +kernel
set_option maxRecDepth 100000 in
set_option maxHeartbeats 4000000 in
theorem n_X2 (E : zk_Env) (l : Launch) (h : Nat) : zk_Mn E l yX2_init wsX2_init ({ frames := 4, cells := 217, slots := 8202, locals := 84 } : Room) [.ref h] [(h, .inr (2, [.null, .int 0, .int 0]))] f_X2_init (fun r a => gX2 E (h, a) r) 217 8202 := by
  refine zk_MN (cc := cX2_init) (nL := 2) (by decide) rfl (Nat.le_of_ble_eq_true rfl) rfl (fun X Q hQ hin => ?_)
  refine zk_eqv (w1 := zk_j [[(h, .inr (2, [.null, .int 0, .int 0]))]]) (lv1 := [(0, .ref h)]) (st1 := []) (o1 := f_X2_init) rfl rfl rfl rfl ?_
  unfold f_X2_init
  refine zk_aload_n dX2_init_0 0 rfl 1 rfl ?_
  refine zk_objInit dX2_init_1 kX2_init_0 kX2_init_1 kX2_init_2 (Nat.le_of_ble_eq_true rfl) (Nat.le_of_ble_eq_true rfl) 4 rfl ?_
  refine zk_aload_n dX2_init_4 0 rfl 5 rfl ?_
  refine zk_bipush 6 dX2_init_5 (by decide) 7 rfl ?_
  refine zk_newqS 6 (fun q1 => (zk_j [[(h, .inr (2, [.null, .int 0, .int 0]))], [(q1, .inl (zk_cs E, 6, .inr (.inr (.inr (.inr (fun _ => none))))))]])) 1 6 dX2_init_7 kX2_init_3 (by decide) (by decide) (Nat.le_of_ble_eq_true rfl) rfl rfl (Nat.le_of_ble_eq_true rfl) (Nat.le_of_ble_eq_true rfl) (fun _ => zk_snoc) 10 rfl (fun q1 => ?_)
  refine zk_putF tyX2 (zk_j [[(h, .inr (2, [.ref q1, .int 0, .int 0]))], [(q1, .inl (zk_cs E, 6, .inr (.inr (.inr (.inr (fun _ => none))))))]]) dX2_init_10 0 rfl rfl kX2_init_inX2 tyX2_ok nmX2 0 (by decide) kX2_init_5 rfl hin rfl (tyX2_ok 0 (by decide)) rfl rfl (Nat.le_of_ble_eq_true rfl) rfl 13 rfl ?_
  refine zk_iconst 0 dX2_init_13 (by decide) 14 rfl ?_
  refine zk_istore_n [(1, .int 0), (0, .ref h)] dX2_init_14 (by decide) rfl 15 rfl ?_
  refine zk_iload_n dX2_init_15 0 rfl 16 rfl ?_
  refine zk_bipush 6 dX2_init_16 (by decide) 18 rfl ?_
  refine zk_icmp_geF dX2_init_18 (by decide) 40 (by decide) 21 rfl ?_
  refine zk_aload_n dX2_init_21 1 rfl 22 rfl ?_
  refine zk_get dX2_init_22 0 rfl rfl kX2_init_inX2 0 (by decide) kX2_init_5 rfl 25 rfl ?_
  refine zk_iload_n dX2_init_25 0 rfl 26 rfl ?_
  refine zk_new (ci := 6) (fs := [.null, .null, .null]) (C := RX6) (T := TX6) (N := 3) tyX6 (fun q2 => (zk_j [[(h, .inr (2, [.ref q1, .int 0, .int 0]))], [(q1, .inl (zk_cs E, 6, .inr (.inr (.inr (.inr (fun _ => none))))))], [(q2, .inr (6, [.null, .null, .null]))]])) 2 9 dX2_init_26 rfl kX2_init_inX6 tyX6_ok kX2_init_3 kX2_init_7 kX2_init_8 (fun j hj => by rcases (show j = 0 ∨ j = 1 ∨ j = 2 by omega) with rfl | rfl | rfl <;> rfl) rfl rfl (Nat.le_of_ble_eq_true rfl) (Nat.le_of_ble_eq_true rfl) (fun _ => zk_snoc) 29 rfl (fun q2 => ?_)
  refine zk_dup dX2_init_29 rfl 30 rfl ?_
  refine zk_callI (st := [.ref q2, .int 0, .ref q1]) (n_X6 E l q2) dX2_init_30 gX2_init_X6_init rfl rfl rfl kX2_init_8 kX2_init_9 kX2_init_10 rfl (by decide +kernel) ⟨(Nat.le_of_ble_eq_true rfl), (Nat.le_of_ble_eq_true rfl)⟩ 37 1372 rfl rfl (Nat.le_of_ble_eq_true rfl) (Nat.le_of_ble_eq_true rfl) _ (fun r30_2 a30_2 => (zk_j [[(h, .inr (2, [.ref q1, .int 0, .int 0]))], [(q1, .inl (zk_cs E, 6, .inr (.inr (.inr (.inr (fun _ => none))))))], gX6 E (q2, a30_2) r30_2])) (zk_p1 (gs := [[(h, .inr (2, [.ref q1, .int 0, .int 0]))], [(q1, .inl (zk_cs E, 6, .inr (.inr (.inr (.inr (fun _ => none))))))], [(q2, .inr (6, [.null, .null, .null]))]]) (i := 2) rfl) (fun r30_2 a30_2 => zk_q1 (gs := [[(h, .inr (2, [.ref q1, .int 0, .int 0]))], [(q1, .inl (zk_cs E, 6, .inr (.inr (.inr (.inr (fun _ => none))))))], [(q2, .inr (6, [.null, .null, .null]))]]) (i := 2) rfl rfl) (Nat.le_of_ble_eq_true rfl) 33 rfl (fun r30_2 a30_2 => ?_)
  refine zk_aast (ci := 6) 3 (zk_j [[(h, .inr (2, [.ref q1, .int 0, .int 0]))], [(q1, .inl (zk_cs E, 6, .inr (.inr (.inr (.inr (va_up (fun _ => none) 0 (some q2)))))))], gX6 E (q2, a30_2) r30_2]) 0 dX2_init_33 1 2 rfl rfl rfl rfl (by unfold vp_in; decide) (by decide) rfl 34 rfl ?_
  refine zk_iinc 1 [(1, .int 1), (0, .ref h)] dX2_init_34 0 rfl (by decide) (by decide) rfl 37 rfl ?_
  refine zk_goto dX2_init_37 15 (by decide) ?_
  refine zk_iload_n dX2_init_15 0 rfl 16 rfl ?_
  refine zk_bipush 6 dX2_init_16 (by decide) 18 rfl ?_
  refine zk_icmp_geF dX2_init_18 (by decide) 40 (by decide) 21 rfl ?_
  refine zk_aload_n dX2_init_21 1 rfl 22 rfl ?_
  refine zk_get dX2_init_22 0 rfl rfl kX2_init_inX2 0 (by decide) kX2_init_5 rfl 25 rfl ?_
  refine zk_iload_n dX2_init_25 0 rfl 26 rfl ?_
  refine zk_new (ci := 6) (fs := [.null, .null, .null]) (C := RX6) (T := TX6) (N := 3) tyX6 (fun q3 => (zk_j [[(h, .inr (2, [.ref q1, .int 0, .int 0]))], [(q1, .inl (zk_cs E, 6, .inr (.inr (.inr (.inr (va_up (fun _ => none) 0 (some q2)))))))], gX6 E (q2, a30_2) r30_2, [(q3, .inr (6, [.null, .null, .null]))]])) 38 1375 dX2_init_26 rfl kX2_init_inX6 tyX6_ok kX2_init_3 kX2_init_7 kX2_init_8 (fun j hj => by rcases (show j = 0 ∨ j = 1 ∨ j = 2 by omega) with rfl | rfl | rfl <;> rfl) rfl rfl (Nat.le_of_ble_eq_true rfl) (Nat.le_of_ble_eq_true rfl) (fun _ => zk_snoc) 29 rfl (fun q3 => ?_)
  refine zk_dup dX2_init_29 rfl 30 rfl ?_
  refine zk_callI (st := [.ref q3, .int 1, .ref q1]) (n_X6 E l q3) dX2_init_30 gX2_init_X6_init rfl rfl rfl kX2_init_8 kX2_init_9 kX2_init_10 rfl (by decide +kernel) ⟨(Nat.le_of_ble_eq_true rfl), (Nat.le_of_ble_eq_true rfl)⟩ 73 2738 rfl rfl (Nat.le_of_ble_eq_true rfl) (Nat.le_of_ble_eq_true rfl) _ (fun r30_3 a30_3 => (zk_j [[(h, .inr (2, [.ref q1, .int 0, .int 0]))], [(q1, .inl (zk_cs E, 6, .inr (.inr (.inr (.inr (va_up (fun _ => none) 0 (some q2)))))))], gX6 E (q2, a30_2) r30_2, gX6 E (q3, a30_3) r30_3])) (zk_p1 (gs := [[(h, .inr (2, [.ref q1, .int 0, .int 0]))], [(q1, .inl (zk_cs E, 6, .inr (.inr (.inr (.inr (va_up (fun _ => none) 0 (some q2)))))))], gX6 E (q2, a30_2) r30_2, [(q3, .inr (6, [.null, .null, .null]))]]) (i := 3) rfl) (fun r30_3 a30_3 => zk_q1 (gs := [[(h, .inr (2, [.ref q1, .int 0, .int 0]))], [(q1, .inl (zk_cs E, 6, .inr (.inr (.inr (.inr (va_up (fun _ => none) 0 (some q2)))))))], gX6 E (q2, a30_2) r30_2, [(q3, .inr (6, [.null, .null, .null]))]]) (i := 3) rfl rfl) (Nat.le_of_ble_eq_true rfl) 33 rfl (fun r30_3 a30_3 => ?_)
  refine zk_aast (ci := 6) 3 (zk_j [[(h, .inr (2, [.ref q1, .int 0, .int 0]))], [(q1, .inl (zk_cs E, 6, .inr (.inr (.inr (.inr (va_up (va_up (fun _ => none) 0 (some q2)) 1 (some q3)))))))], gX6 E (q2, a30_2) r30_2, gX6 E (q3, a30_3) r30_3]) 1 dX2_init_33 1 38 rfl rfl rfl rfl (by unfold vp_in; decide) (by decide) rfl 34 rfl ?_
  refine zk_iinc 2 [(1, .int 2), (0, .ref h)] dX2_init_34 0 rfl (by decide) (by decide) rfl 37 rfl ?_
  refine zk_goto dX2_init_37 15 (by decide) ?_
  refine zk_iload_n dX2_init_15 0 rfl 16 rfl ?_
  refine zk_bipush 6 dX2_init_16 (by decide) 18 rfl ?_
  refine zk_icmp_geF dX2_init_18 (by decide) 40 (by decide) 21 rfl ?_
  refine zk_aload_n dX2_init_21 1 rfl 22 rfl ?_
  refine zk_get dX2_init_22 0 rfl rfl kX2_init_inX2 0 (by decide) kX2_init_5 rfl 25 rfl ?_
  refine zk_iload_n dX2_init_25 0 rfl 26 rfl ?_
  refine zk_new (ci := 6) (fs := [.null, .null, .null]) (C := RX6) (T := TX6) (N := 3) tyX6 (fun q4 => (zk_j [[(h, .inr (2, [.ref q1, .int 0, .int 0]))], [(q1, .inl (zk_cs E, 6, .inr (.inr (.inr (.inr (va_up (va_up (fun _ => none) 0 (some q2)) 1 (some q3)))))))], gX6 E (q2, a30_2) r30_2, gX6 E (q3, a30_3) r30_3, [(q4, .inr (6, [.null, .null, .null]))]])) 74 2741 dX2_init_26 rfl kX2_init_inX6 tyX6_ok kX2_init_3 kX2_init_7 kX2_init_8 (fun j hj => by rcases (show j = 0 ∨ j = 1 ∨ j = 2 by omega) with rfl | rfl | rfl <;> rfl) rfl rfl (Nat.le_of_ble_eq_true rfl) (Nat.le_of_ble_eq_true rfl) (fun _ => zk_snoc) 29 rfl (fun q4 => ?_)
  refine zk_dup dX2_init_29 rfl 30 rfl ?_
  refine zk_callI (st := [.ref q4, .int 2, .ref q1]) (n_X6 E l q4) dX2_init_30 gX2_init_X6_init rfl rfl rfl kX2_init_8 kX2_init_9 kX2_init_10 rfl (by decide +kernel) ⟨(Nat.le_of_ble_eq_true rfl), (Nat.le_of_ble_eq_true rfl)⟩ 109 4104 rfl rfl (Nat.le_of_ble_eq_true rfl) (Nat.le_of_ble_eq_true rfl) _ (fun r30_4 a30_4 => (zk_j [[(h, .inr (2, [.ref q1, .int 0, .int 0]))], [(q1, .inl (zk_cs E, 6, .inr (.inr (.inr (.inr (va_up (va_up (fun _ => none) 0 (some q2)) 1 (some q3)))))))], gX6 E (q2, a30_2) r30_2, gX6 E (q3, a30_3) r30_3, gX6 E (q4, a30_4) r30_4])) (zk_p1 (gs := [[(h, .inr (2, [.ref q1, .int 0, .int 0]))], [(q1, .inl (zk_cs E, 6, .inr (.inr (.inr (.inr (va_up (va_up (fun _ => none) 0 (some q2)) 1 (some q3)))))))], gX6 E (q2, a30_2) r30_2, gX6 E (q3, a30_3) r30_3, [(q4, .inr (6, [.null, .null, .null]))]]) (i := 4) rfl) (fun r30_4 a30_4 => zk_q1 (gs := [[(h, .inr (2, [.ref q1, .int 0, .int 0]))], [(q1, .inl (zk_cs E, 6, .inr (.inr (.inr (.inr (va_up (va_up (fun _ => none) 0 (some q2)) 1 (some q3)))))))], gX6 E (q2, a30_2) r30_2, gX6 E (q3, a30_3) r30_3, [(q4, .inr (6, [.null, .null, .null]))]]) (i := 4) rfl rfl) (Nat.le_of_ble_eq_true rfl) 33 rfl (fun r30_4 a30_4 => ?_)
  refine zk_aast (ci := 6) 3 (zk_j [[(h, .inr (2, [.ref q1, .int 0, .int 0]))], [(q1, .inl (zk_cs E, 6, .inr (.inr (.inr (.inr (va_up (va_up (va_up (fun _ => none) 0 (some q2)) 1 (some q3)) 2 (some q4)))))))], gX6 E (q2, a30_2) r30_2, gX6 E (q3, a30_3) r30_3, gX6 E (q4, a30_4) r30_4]) 2 dX2_init_33 1 74 rfl rfl rfl rfl (by unfold vp_in; decide) (by decide) rfl 34 rfl ?_
  refine zk_iinc 3 [(1, .int 3), (0, .ref h)] dX2_init_34 0 rfl (by decide) (by decide) rfl 37 rfl ?_
  refine zk_goto dX2_init_37 15 (by decide) ?_
  refine zk_iload_n dX2_init_15 0 rfl 16 rfl ?_
  refine zk_bipush 6 dX2_init_16 (by decide) 18 rfl ?_
  refine zk_icmp_geF dX2_init_18 (by decide) 40 (by decide) 21 rfl ?_
  refine zk_aload_n dX2_init_21 1 rfl 22 rfl ?_
  refine zk_get dX2_init_22 0 rfl rfl kX2_init_inX2 0 (by decide) kX2_init_5 rfl 25 rfl ?_
  refine zk_iload_n dX2_init_25 0 rfl 26 rfl ?_
  refine zk_new (ci := 6) (fs := [.null, .null, .null]) (C := RX6) (T := TX6) (N := 3) tyX6 (fun q5 => (zk_j [[(h, .inr (2, [.ref q1, .int 0, .int 0]))], [(q1, .inl (zk_cs E, 6, .inr (.inr (.inr (.inr (va_up (va_up (va_up (fun _ => none) 0 (some q2)) 1 (some q3)) 2 (some q4)))))))], gX6 E (q2, a30_2) r30_2, gX6 E (q3, a30_3) r30_3, gX6 E (q4, a30_4) r30_4, [(q5, .inr (6, [.null, .null, .null]))]])) 110 4107 dX2_init_26 rfl kX2_init_inX6 tyX6_ok kX2_init_3 kX2_init_7 kX2_init_8 (fun j hj => by rcases (show j = 0 ∨ j = 1 ∨ j = 2 by omega) with rfl | rfl | rfl <;> rfl) rfl rfl (Nat.le_of_ble_eq_true rfl) (Nat.le_of_ble_eq_true rfl) (fun _ => zk_snoc) 29 rfl (fun q5 => ?_)
  refine zk_dup dX2_init_29 rfl 30 rfl ?_
  refine zk_callI (st := [.ref q5, .int 3, .ref q1]) (n_X6 E l q5) dX2_init_30 gX2_init_X6_init rfl rfl rfl kX2_init_8 kX2_init_9 kX2_init_10 rfl (by decide +kernel) ⟨(Nat.le_of_ble_eq_true rfl), (Nat.le_of_ble_eq_true rfl)⟩ 145 5470 rfl rfl (Nat.le_of_ble_eq_true rfl) (Nat.le_of_ble_eq_true rfl) _ (fun r30_5 a30_5 => (zk_j [[(h, .inr (2, [.ref q1, .int 0, .int 0]))], [(q1, .inl (zk_cs E, 6, .inr (.inr (.inr (.inr (va_up (va_up (va_up (fun _ => none) 0 (some q2)) 1 (some q3)) 2 (some q4)))))))], gX6 E (q2, a30_2) r30_2, gX6 E (q3, a30_3) r30_3, gX6 E (q4, a30_4) r30_4, gX6 E (q5, a30_5) r30_5])) (zk_p1 (gs := [[(h, .inr (2, [.ref q1, .int 0, .int 0]))], [(q1, .inl (zk_cs E, 6, .inr (.inr (.inr (.inr (va_up (va_up (va_up (fun _ => none) 0 (some q2)) 1 (some q3)) 2 (some q4)))))))], gX6 E (q2, a30_2) r30_2, gX6 E (q3, a30_3) r30_3, gX6 E (q4, a30_4) r30_4, [(q5, .inr (6, [.null, .null, .null]))]]) (i := 5) rfl) (fun r30_5 a30_5 => zk_q1 (gs := [[(h, .inr (2, [.ref q1, .int 0, .int 0]))], [(q1, .inl (zk_cs E, 6, .inr (.inr (.inr (.inr (va_up (va_up (va_up (fun _ => none) 0 (some q2)) 1 (some q3)) 2 (some q4)))))))], gX6 E (q2, a30_2) r30_2, gX6 E (q3, a30_3) r30_3, gX6 E (q4, a30_4) r30_4, [(q5, .inr (6, [.null, .null, .null]))]]) (i := 5) rfl rfl) (Nat.le_of_ble_eq_true rfl) 33 rfl (fun r30_5 a30_5 => ?_)
  refine zk_aast (ci := 6) 3 (zk_j [[(h, .inr (2, [.ref q1, .int 0, .int 0]))], [(q1, .inl (zk_cs E, 6, .inr (.inr (.inr (.inr (va_up (va_up (va_up (va_up (fun _ => none) 0 (some q2)) 1 (some q3)) 2 (some q4)) 3 (some q5)))))))], gX6 E (q2, a30_2) r30_2, gX6 E (q3, a30_3) r30_3, gX6 E (q4, a30_4) r30_4, gX6 E (q5, a30_5) r30_5]) 3 dX2_init_33 1 110 rfl rfl rfl rfl (by unfold vp_in; decide) (by decide) rfl 34 rfl ?_
  refine zk_iinc 4 [(1, .int 4), (0, .ref h)] dX2_init_34 0 rfl (by decide) (by decide) rfl 37 rfl ?_
  refine zk_goto dX2_init_37 15 (by decide) ?_
  refine zk_iload_n dX2_init_15 0 rfl 16 rfl ?_
  refine zk_bipush 6 dX2_init_16 (by decide) 18 rfl ?_
  refine zk_icmp_geF dX2_init_18 (by decide) 40 (by decide) 21 rfl ?_
  refine zk_aload_n dX2_init_21 1 rfl 22 rfl ?_
  refine zk_get dX2_init_22 0 rfl rfl kX2_init_inX2 0 (by decide) kX2_init_5 rfl 25 rfl ?_
  refine zk_iload_n dX2_init_25 0 rfl 26 rfl ?_
  refine zk_new (ci := 6) (fs := [.null, .null, .null]) (C := RX6) (T := TX6) (N := 3) tyX6 (fun q6 => (zk_j [[(h, .inr (2, [.ref q1, .int 0, .int 0]))], [(q1, .inl (zk_cs E, 6, .inr (.inr (.inr (.inr (va_up (va_up (va_up (va_up (fun _ => none) 0 (some q2)) 1 (some q3)) 2 (some q4)) 3 (some q5)))))))], gX6 E (q2, a30_2) r30_2, gX6 E (q3, a30_3) r30_3, gX6 E (q4, a30_4) r30_4, gX6 E (q5, a30_5) r30_5, [(q6, .inr (6, [.null, .null, .null]))]])) 146 5473 dX2_init_26 rfl kX2_init_inX6 tyX6_ok kX2_init_3 kX2_init_7 kX2_init_8 (fun j hj => by rcases (show j = 0 ∨ j = 1 ∨ j = 2 by omega) with rfl | rfl | rfl <;> rfl) rfl rfl (Nat.le_of_ble_eq_true rfl) (Nat.le_of_ble_eq_true rfl) (fun _ => zk_snoc) 29 rfl (fun q6 => ?_)
  refine zk_dup dX2_init_29 rfl 30 rfl ?_
  refine zk_callI (st := [.ref q6, .int 4, .ref q1]) (n_X6 E l q6) dX2_init_30 gX2_init_X6_init rfl rfl rfl kX2_init_8 kX2_init_9 kX2_init_10 rfl (by decide +kernel) ⟨(Nat.le_of_ble_eq_true rfl), (Nat.le_of_ble_eq_true rfl)⟩ 181 6836 rfl rfl (Nat.le_of_ble_eq_true rfl) (Nat.le_of_ble_eq_true rfl) _ (fun r30_6 a30_6 => (zk_j [[(h, .inr (2, [.ref q1, .int 0, .int 0]))], [(q1, .inl (zk_cs E, 6, .inr (.inr (.inr (.inr (va_up (va_up (va_up (va_up (fun _ => none) 0 (some q2)) 1 (some q3)) 2 (some q4)) 3 (some q5)))))))], gX6 E (q2, a30_2) r30_2, gX6 E (q3, a30_3) r30_3, gX6 E (q4, a30_4) r30_4, gX6 E (q5, a30_5) r30_5, gX6 E (q6, a30_6) r30_6])) (zk_p1 (gs := [[(h, .inr (2, [.ref q1, .int 0, .int 0]))], [(q1, .inl (zk_cs E, 6, .inr (.inr (.inr (.inr (va_up (va_up (va_up (va_up (fun _ => none) 0 (some q2)) 1 (some q3)) 2 (some q4)) 3 (some q5)))))))], gX6 E (q2, a30_2) r30_2, gX6 E (q3, a30_3) r30_3, gX6 E (q4, a30_4) r30_4, gX6 E (q5, a30_5) r30_5, [(q6, .inr (6, [.null, .null, .null]))]]) (i := 6) rfl) (fun r30_6 a30_6 => zk_q1 (gs := [[(h, .inr (2, [.ref q1, .int 0, .int 0]))], [(q1, .inl (zk_cs E, 6, .inr (.inr (.inr (.inr (va_up (va_up (va_up (va_up (fun _ => none) 0 (some q2)) 1 (some q3)) 2 (some q4)) 3 (some q5)))))))], gX6 E (q2, a30_2) r30_2, gX6 E (q3, a30_3) r30_3, gX6 E (q4, a30_4) r30_4, gX6 E (q5, a30_5) r30_5, [(q6, .inr (6, [.null, .null, .null]))]]) (i := 6) rfl rfl) (Nat.le_of_ble_eq_true rfl) 33 rfl (fun r30_6 a30_6 => ?_)
  refine zk_aast (ci := 6) 3 (zk_j [[(h, .inr (2, [.ref q1, .int 0, .int 0]))], [(q1, .inl (zk_cs E, 6, .inr (.inr (.inr (.inr (va_up (va_up (va_up (va_up (va_up (fun _ => none) 0 (some q2)) 1 (some q3)) 2 (some q4)) 3 (some q5)) 4 (some q6)))))))], gX6 E (q2, a30_2) r30_2, gX6 E (q3, a30_3) r30_3, gX6 E (q4, a30_4) r30_4, gX6 E (q5, a30_5) r30_5, gX6 E (q6, a30_6) r30_6]) 4 dX2_init_33 1 146 rfl rfl rfl rfl (by unfold vp_in; decide) (by decide) rfl 34 rfl ?_
  refine zk_iinc 5 [(1, .int 5), (0, .ref h)] dX2_init_34 0 rfl (by decide) (by decide) rfl 37 rfl ?_
  refine zk_goto dX2_init_37 15 (by decide) ?_
  refine zk_iload_n dX2_init_15 0 rfl 16 rfl ?_
  refine zk_bipush 6 dX2_init_16 (by decide) 18 rfl ?_
  refine zk_icmp_geF dX2_init_18 (by decide) 40 (by decide) 21 rfl ?_
  refine zk_aload_n dX2_init_21 1 rfl 22 rfl ?_
  refine zk_get dX2_init_22 0 rfl rfl kX2_init_inX2 0 (by decide) kX2_init_5 rfl 25 rfl ?_
  refine zk_iload_n dX2_init_25 0 rfl 26 rfl ?_
  refine zk_new (ci := 6) (fs := [.null, .null, .null]) (C := RX6) (T := TX6) (N := 3) tyX6 (fun q7 => (zk_j [[(h, .inr (2, [.ref q1, .int 0, .int 0]))], [(q1, .inl (zk_cs E, 6, .inr (.inr (.inr (.inr (va_up (va_up (va_up (va_up (va_up (fun _ => none) 0 (some q2)) 1 (some q3)) 2 (some q4)) 3 (some q5)) 4 (some q6)))))))], gX6 E (q2, a30_2) r30_2, gX6 E (q3, a30_3) r30_3, gX6 E (q4, a30_4) r30_4, gX6 E (q5, a30_5) r30_5, gX6 E (q6, a30_6) r30_6, [(q7, .inr (6, [.null, .null, .null]))]])) 182 6839 dX2_init_26 rfl kX2_init_inX6 tyX6_ok kX2_init_3 kX2_init_7 kX2_init_8 (fun j hj => by rcases (show j = 0 ∨ j = 1 ∨ j = 2 by omega) with rfl | rfl | rfl <;> rfl) rfl rfl (Nat.le_of_ble_eq_true rfl) (Nat.le_of_ble_eq_true rfl) (fun _ => zk_snoc) 29 rfl (fun q7 => ?_)
  refine zk_dup dX2_init_29 rfl 30 rfl ?_
  refine zk_callI (st := [.ref q7, .int 5, .ref q1]) (n_X6 E l q7) dX2_init_30 gX2_init_X6_init rfl rfl rfl kX2_init_8 kX2_init_9 kX2_init_10 rfl (by decide +kernel) ⟨(Nat.le_of_ble_eq_true rfl), (Nat.le_of_ble_eq_true rfl)⟩ 217 8202 rfl rfl (Nat.le_of_ble_eq_true rfl) (Nat.le_of_ble_eq_true rfl) _ (fun r30_7 a30_7 => (zk_j [[(h, .inr (2, [.ref q1, .int 0, .int 0]))], [(q1, .inl (zk_cs E, 6, .inr (.inr (.inr (.inr (va_up (va_up (va_up (va_up (va_up (fun _ => none) 0 (some q2)) 1 (some q3)) 2 (some q4)) 3 (some q5)) 4 (some q6)))))))], gX6 E (q2, a30_2) r30_2, gX6 E (q3, a30_3) r30_3, gX6 E (q4, a30_4) r30_4, gX6 E (q5, a30_5) r30_5, gX6 E (q6, a30_6) r30_6, gX6 E (q7, a30_7) r30_7])) (zk_p1 (gs := [[(h, .inr (2, [.ref q1, .int 0, .int 0]))], [(q1, .inl (zk_cs E, 6, .inr (.inr (.inr (.inr (va_up (va_up (va_up (va_up (va_up (fun _ => none) 0 (some q2)) 1 (some q3)) 2 (some q4)) 3 (some q5)) 4 (some q6)))))))], gX6 E (q2, a30_2) r30_2, gX6 E (q3, a30_3) r30_3, gX6 E (q4, a30_4) r30_4, gX6 E (q5, a30_5) r30_5, gX6 E (q6, a30_6) r30_6, [(q7, .inr (6, [.null, .null, .null]))]]) (i := 7) rfl) (fun r30_7 a30_7 => zk_q1 (gs := [[(h, .inr (2, [.ref q1, .int 0, .int 0]))], [(q1, .inl (zk_cs E, 6, .inr (.inr (.inr (.inr (va_up (va_up (va_up (va_up (va_up (fun _ => none) 0 (some q2)) 1 (some q3)) 2 (some q4)) 3 (some q5)) 4 (some q6)))))))], gX6 E (q2, a30_2) r30_2, gX6 E (q3, a30_3) r30_3, gX6 E (q4, a30_4) r30_4, gX6 E (q5, a30_5) r30_5, gX6 E (q6, a30_6) r30_6, [(q7, .inr (6, [.null, .null, .null]))]]) (i := 7) rfl rfl) (Nat.le_of_ble_eq_true rfl) 33 rfl (fun r30_7 a30_7 => ?_)
  refine zk_aast (ci := 6) 3 (zk_j [[(h, .inr (2, [.ref q1, .int 0, .int 0]))], [(q1, .inl (zk_cs E, 6, .inr (.inr (.inr (.inr (va_up (va_up (va_up (va_up (va_up (va_up (fun _ => none) 0 (some q2)) 1 (some q3)) 2 (some q4)) 3 (some q5)) 4 (some q6)) 5 (some q7)))))))], gX6 E (q2, a30_2) r30_2, gX6 E (q3, a30_3) r30_3, gX6 E (q4, a30_4) r30_4, gX6 E (q5, a30_5) r30_5, gX6 E (q6, a30_6) r30_6, gX6 E (q7, a30_7) r30_7]) 5 dX2_init_33 1 182 rfl rfl rfl rfl (by unfold vp_in; decide) (by decide) rfl 34 rfl ?_
  refine zk_iinc 6 [(1, .int 6), (0, .ref h)] dX2_init_34 0 rfl (by decide) (by decide) rfl 37 rfl ?_
  refine zk_goto dX2_init_37 15 (by decide) ?_
  refine zk_iload_n dX2_init_15 0 rfl 16 rfl ?_
  refine zk_bipush 6 dX2_init_16 (by decide) 18 rfl ?_
  refine zk_icmp_geT dX2_init_18 (by decide) 40 (by decide) ?_
  refine zk_rowq (k := 1) (fun i => some ((fun i => if i = 0 then (q2, a30_2) else if i = 1 then (q3, a30_3) else if i = 2 then (q4, a30_4) else if i = 3 then (q5, a30_5) else if i = 4 then (q6, a30_6) else (q7, a30_7)) i).1) (zk_j [[(h, .inr (2, [.ref q1, .int 0, .int 0]))], [(q1, .inl (zk_cs E, 6, .inr (.inr (.inr (.inr (fun i => some ((fun i => if i = 0 then (q2, a30_2) else if i = 1 then (q3, a30_3) else if i = 2 then (q4, a30_4) else if i = 3 then (q5, a30_5) else if i = 4 then (q6, a30_6) else (q7, a30_7)) i).1))))))], gX6 E (q2, a30_2) r30_2, gX6 E (q3, a30_3) r30_3, gX6 E (q4, a30_4) r30_4, gX6 E (q5, a30_5) r30_5, gX6 E (q6, a30_6) r30_6, gX6 E (q7, a30_7) r30_7]) rfl (fun i hi => by rcases (show i = 0 ∨ i = 1 ∨ i = 2 ∨ i = 3 ∨ i = 4 ∨ i = 5 by omega) with rfl | rfl | rfl | rfl | rfl | rfl <;> rfl) rfl ?_
  exact zk_vretN (q1, (fun i => if i = 0 then (q2, a30_2) else if i = 1 then (q3, a30_3) else if i = 2 then (q4, a30_4) else if i = 3 then (q5, a30_5) else if i = 4 then (q6, a30_6) else (q7, a30_7))) hQ dX2_init_40 rfl

def f_X1_init : Option (VX1) := f_X8_init.bind fun r9_1 => some r9_1
theorem kX1_init_0 : Cond.methodLink RX1 3 Lib.objectInit ∈ wsX1_init := by decide +kernel
theorem kX1_init_1 : Cond.instanceMethod Lib.objectInit ∈ wsX1_init := by decide +kernel
theorem kX1_init_2 : Cond.code Lib.objectInit ⟨#[0xb1]⟩ 1 none ∈ wsX1_init := by decide +kernel
theorem kX1_init_inX8 : ∀ w ∈ u_ws RX8 TX8 13, w ∈ wsX1_init := by decide +kernel
theorem kX1_init_4 : Cond.classLink RX1 9 RX8 ∈ wsX1_init := by decide +kernel
theorem kX1_init_5 : Cond.instantiable RX8 13 ∈ wsX1_init := by decide +kernel
theorem kX1_init_6 : Cond.initialized RX8 ∈ wsX1_init := by decide +kernel
theorem kX1_init_7 : Cond.instanceMethod yX8_init ∈ wsX1_init := by decide +kernel
theorem kX1_init_inX1 : ∀ w ∈ u_ws RX1 TX1 1, w ∈ wsX1_init := by decide +kernel
theorem kX1_init_9 : Cond.fieldLink RX1 12 (TX1 0).1 (TX1 0).2.1 (TX1 0).2.2.1 ∈ wsX1_init := by decide +kernel
set_option maxRecDepth 100000 in
set_option maxHeartbeats 4000000 in
theorem n_X1 (E : zk_Env) (l : Launch) (h : Nat) : zk_Mn E l yX1_init wsX1_init ({ frames := 3, cells := 11, slots := 453, locals := 63 } : Room) [.ref h] [(h, .inr (1, [.null]))] f_X1_init (fun r a => gX1 E (h, a) r) 11 453 := by
  refine zk_MN (cc := cX1_init) (nL := 1) (by decide) rfl (Nat.le_of_ble_eq_true rfl) rfl (fun X Q hQ hin => ?_)
  refine zk_eqv (w1 := zk_j [[(h, .inr (1, [.null]))]]) (lv1 := [(0, .ref h)]) (st1 := []) (o1 := f_X1_init) rfl rfl rfl rfl ?_
  unfold f_X1_init
  refine zk_aload_n dX1_init_0 0 rfl 1 rfl ?_
  refine zk_objInit dX1_init_1 kX1_init_0 kX1_init_1 kX1_init_2 (Nat.le_of_ble_eq_true rfl) (Nat.le_of_ble_eq_true rfl) 4 rfl ?_
  refine zk_aload_n dX1_init_4 0 rfl 5 rfl ?_
  refine zk_new (ci := 8) (fs := [.null, .null, .null, .int 0, .int 0, .int 0, .int 0, .int 0, .int 0, .int 0, .int 0, .int 0, .int 0]) (C := RX8) (T := TX8) (N := 13) tyX8 (fun q1 => (zk_j [[(h, .inr (1, [.null]))], [(q1, .inr (8, [.null, .null, .null, .int 0, .int 0, .int 0, .int 0, .int 0, .int 0, .int 0, .int 0, .int 0, .int 0]))]])) 1 13 dX1_init_5 rfl kX1_init_inX8 tyX8_ok kX1_init_4 kX1_init_5 kX1_init_6 (fun j hj => by rcases (show j = 0 ∨ j = 1 ∨ j = 2 ∨ j = 3 ∨ j = 4 ∨ j = 5 ∨ j = 6 ∨ j = 7 ∨ j = 8 ∨ j = 9 ∨ j = 10 ∨ j = 11 ∨ j = 12 by omega) with rfl | rfl | rfl | rfl | rfl | rfl | rfl | rfl | rfl | rfl | rfl | rfl | rfl <;> rfl) rfl rfl (Nat.le_of_ble_eq_true rfl) (Nat.le_of_ble_eq_true rfl) (fun _ => zk_snoc) 8 rfl (fun q1 => ?_)
  refine zk_dup dX1_init_8 rfl 9 rfl ?_
  refine zk_callIN (st := [.ref q1, .ref h]) (n_X8 E l q1) dX1_init_9 gX1_init_X8_init_n11 rfl rfl rfl kX1_init_6 (by decide +kernel) kX1_init_7 rfl (by decide +kernel) ⟨(Nat.le_of_ble_eq_true rfl), (Nat.le_of_ble_eq_true rfl)⟩ 11 453 rfl rfl (Nat.le_of_ble_eq_true rfl) (Nat.le_of_ble_eq_true rfl) _ (fun r9_1 a9_1 => (zk_j [[(h, .inr (1, [.null]))], gX8 E (q1, a9_1) r9_1])) (zk_p1 (gs := [[(h, .inr (1, [.null]))], [(q1, .inr (8, [.null, .null, .null, .int 0, .int 0, .int 0, .int 0, .int 0, .int 0, .int 0, .int 0, .int 0, .int 0]))]]) (i := 1) rfl) (fun r9_1 a9_1 => zk_q1 (gs := [[(h, .inr (1, [.null]))], [(q1, .inr (8, [.null, .null, .null, .int 0, .int 0, .int 0, .int 0, .int 0, .int 0, .int 0, .int 0, .int 0, .int 0]))]]) (i := 1) rfl rfl) (Nat.le_of_ble_eq_true rfl) 12 rfl (fun r9_1 a9_1 => ?_)
  refine zk_putF tyX1 (zk_j [[(h, .inr (1, [.ref q1]))], gX8 E (q1, a9_1) r9_1]) dX1_init_12 0 rfl rfl kX1_init_inX1 tyX1_ok nmX1 0 (by decide) kX1_init_9 rfl hin rfl (tyX1_ok 0 (by decide)) rfl rfl (Nat.le_of_ble_eq_true rfl) rfl 15 rfl ?_
  exact zk_vretN (q1, a9_1) hQ dX1_init_15 rfl

def f_X9_init : Option (VX9) := f_X6_init.bind fun r9_1 => f_X2_init.bind fun r20_2 => f_X4_init.bind fun r31_3 => f_X1_init.bind fun r42_4 => some (r9_1, r20_2, r31_3, r42_4)
theorem kX9_init_0 : Cond.methodLink RX9 3 Lib.objectInit ∈ wsX9_init := by decide +kernel
theorem kX9_init_1 : Cond.instanceMethod Lib.objectInit ∈ wsX9_init := by decide +kernel
theorem kX9_init_2 : Cond.code Lib.objectInit ⟨#[0xb1]⟩ 1 none ∈ wsX9_init := by decide +kernel
theorem kX9_init_inX6 : ∀ w ∈ u_ws RX6 TX6 3, w ∈ wsX9_init := by decide +kernel
theorem kX9_init_4 : Cond.classLink RX9 9 RX6 ∈ wsX9_init := by decide +kernel
theorem kX9_init_5 : Cond.instantiable RX6 3 ∈ wsX9_init := by decide +kernel
theorem kX9_init_6 : Cond.initialized RX6 ∈ wsX9_init := by decide +kernel
theorem kX9_init_7 : Cond.methodLink RX9 11 yX6_init ∈ wsX9_init := by decide +kernel
theorem kX9_init_8 : Cond.instanceMethod yX6_init ∈ wsX9_init := by decide +kernel
theorem kX9_init_inX9 : ∀ w ∈ u_ws RX9 TX9 4, w ∈ wsX9_init := by decide +kernel
theorem kX9_init_10 : Cond.fieldLink RX9 12 (TX9 0).1 (TX9 0).2.1 (TX9 0).2.2.1 ∈ wsX9_init := by decide +kernel
theorem kX9_init_inX2 : ∀ w ∈ u_ws RX2 TX2 3, w ∈ wsX9_init := by decide +kernel
theorem kX9_init_12 : Cond.classLink RX9 16 RX2 ∈ wsX9_init := by decide +kernel
theorem kX9_init_13 : Cond.instantiable RX2 3 ∈ wsX9_init := by decide +kernel
theorem kX9_init_14 : Cond.initialized RX2 ∈ wsX9_init := by decide +kernel
theorem kX9_init_15 : Cond.methodLink RX9 18 yX2_init ∈ wsX9_init := by decide +kernel
theorem kX9_init_16 : Cond.instanceMethod yX2_init ∈ wsX9_init := by decide +kernel
theorem kX9_init_17 : Cond.fieldLink RX9 19 (TX9 1).1 (TX9 1).2.1 (TX9 1).2.2.1 ∈ wsX9_init := by decide +kernel
theorem kX9_init_inX4 : ∀ w ∈ u_ws RX4 TX4 8, w ∈ wsX9_init := by decide +kernel
theorem kX9_init_19 : Cond.classLink RX9 23 RX4 ∈ wsX9_init := by decide +kernel
theorem kX9_init_20 : Cond.instantiable RX4 8 ∈ wsX9_init := by decide +kernel
theorem kX9_init_21 : Cond.initialized RX4 ∈ wsX9_init := by decide +kernel
theorem kX9_init_22 : Cond.instanceMethod yX4_init ∈ wsX9_init := by decide +kernel
theorem kX9_init_23 : Cond.fieldLink RX9 26 (TX9 2).1 (TX9 2).2.1 (TX9 2).2.2.1 ∈ wsX9_init := by decide +kernel
theorem kX9_init_inX1 : ∀ w ∈ u_ws RX1 TX1 1, w ∈ wsX9_init := by decide +kernel
theorem kX9_init_25 : Cond.classLink RX9 30 RX1 ∈ wsX9_init := by decide +kernel
theorem kX9_init_26 : Cond.instantiable RX1 1 ∈ wsX9_init := by decide +kernel
theorem kX9_init_27 : Cond.initialized RX1 ∈ wsX9_init := by decide +kernel
theorem kX9_init_28 : Cond.instanceMethod yX1_init ∈ wsX9_init := by decide +kernel
theorem kX9_init_29 : Cond.fieldLink RX9 33 (TX9 3).1 (TX9 3).2.1 (TX9 3).2.2.1 ∈ wsX9_init := by decide +kernel
set_option maxRecDepth 100000 in
set_option maxHeartbeats 4000000 in
theorem n_X9 (E : zk_Env) (l : Launch) (h : Nat) : zk_Mn E l yX9_init wsX9_init ({ frames := 5, cells := 271, slots := 10165, locals := 105 } : Room) [.ref h] [(h, .inr (9, [.null, .null, .null, .null]))] f_X9_init (fun r a => gX9 E (h, a) r) 271 10165 := by
  refine zk_MN (cc := cX9_init) (nL := 1) (by decide) rfl (Nat.le_of_ble_eq_true rfl) rfl (fun X Q hQ hin => ?_)
  refine zk_eqv (w1 := zk_j [[(h, .inr (9, [.null, .null, .null, .null]))]]) (lv1 := [(0, .ref h)]) (st1 := []) (o1 := f_X9_init) rfl rfl rfl rfl ?_
  unfold f_X9_init
  refine zk_aload_n dX9_init_0 0 rfl 1 rfl ?_
  refine zk_objInit dX9_init_1 kX9_init_0 kX9_init_1 kX9_init_2 (Nat.le_of_ble_eq_true rfl) (Nat.le_of_ble_eq_true rfl) 4 rfl ?_
  refine zk_aload_n dX9_init_4 0 rfl 5 rfl ?_
  refine zk_new (ci := 6) (fs := [.null, .null, .null]) (C := RX6) (T := TX6) (N := 3) tyX6 (fun q1 => (zk_j [[(h, .inr (9, [.null, .null, .null, .null]))], [(q1, .inr (6, [.null, .null, .null]))]])) 1 3 dX9_init_5 rfl kX9_init_inX6 tyX6_ok kX9_init_4 kX9_init_5 kX9_init_6 (fun j hj => by rcases (show j = 0 ∨ j = 1 ∨ j = 2 by omega) with rfl | rfl | rfl <;> rfl) rfl rfl (Nat.le_of_ble_eq_true rfl) (Nat.le_of_ble_eq_true rfl) (fun _ => zk_snoc) 8 rfl (fun q1 => ?_)
  refine zk_dup dX9_init_8 rfl 9 rfl ?_
  refine zk_callI (st := [.ref q1, .ref h]) (n_X6 E l q1) dX9_init_9 gX9_init_X6_init rfl rfl rfl kX9_init_6 kX9_init_7 kX9_init_8 rfl (by decide +kernel) ⟨(Nat.le_of_ble_eq_true rfl), (Nat.le_of_ble_eq_true rfl)⟩ 36 1366 rfl rfl (Nat.le_of_ble_eq_true rfl) (Nat.le_of_ble_eq_true rfl) _ (fun r9_1 a9_1 => (zk_j [[(h, .inr (9, [.null, .null, .null, .null]))], gX6 E (q1, a9_1) r9_1])) (zk_p1 (gs := [[(h, .inr (9, [.null, .null, .null, .null]))], [(q1, .inr (6, [.null, .null, .null]))]]) (i := 1) rfl) (fun r9_1 a9_1 => zk_q1 (gs := [[(h, .inr (9, [.null, .null, .null, .null]))], [(q1, .inr (6, [.null, .null, .null]))]]) (i := 1) rfl rfl) (Nat.le_of_ble_eq_true rfl) 12 rfl (fun r9_1 a9_1 => ?_)
  refine zk_putF tyX9 (zk_j [[(h, .inr (9, [.ref q1, .null, .null, .null]))], gX6 E (q1, a9_1) r9_1]) dX9_init_12 0 rfl rfl kX9_init_inX9 tyX9_ok nmX9 0 (by decide) kX9_init_10 rfl hin rfl (tyX9_ok 0 (by decide)) rfl rfl (Nat.le_of_ble_eq_true rfl) rfl 15 rfl ?_
  refine zk_aload_n dX9_init_15 0 rfl 16 rfl ?_
  refine zk_new (ci := 2) (fs := [.null, .int 0, .int 0]) (C := RX2) (T := TX2) (N := 3) tyX2 (fun q2 => (zk_j [[(h, .inr (9, [.ref q1, .null, .null, .null]))], gX6 E (q1, a9_1) r9_1, [(q2, .inr (2, [.null, .int 0, .int 0]))]])) 37 1369 dX9_init_16 rfl kX9_init_inX2 tyX2_ok kX9_init_12 kX9_init_13 kX9_init_14 (fun j hj => by rcases (show j = 0 ∨ j = 1 ∨ j = 2 by omega) with rfl | rfl | rfl <;> rfl) rfl rfl (Nat.le_of_ble_eq_true rfl) (Nat.le_of_ble_eq_true rfl) (fun _ => zk_snoc) 19 rfl (fun q2 => ?_)
  refine zk_dup dX9_init_19 rfl 20 rfl ?_
  refine zk_callI (st := [.ref q2, .ref h]) (n_X2 E l q2) dX9_init_20 gX9_init_X2_init rfl rfl rfl kX9_init_14 kX9_init_15 kX9_init_16 rfl (by decide +kernel) ⟨(Nat.le_of_ble_eq_true rfl), (Nat.le_of_ble_eq_true rfl)⟩ 254 9571 rfl rfl (Nat.le_of_ble_eq_true rfl) (Nat.le_of_ble_eq_true rfl) _ (fun r20_2 a20_2 => (zk_j [[(h, .inr (9, [.ref q1, .null, .null, .null]))], gX6 E (q1, a9_1) r9_1, gX2 E (q2, a20_2) r20_2])) (zk_p1 (gs := [[(h, .inr (9, [.ref q1, .null, .null, .null]))], gX6 E (q1, a9_1) r9_1, [(q2, .inr (2, [.null, .int 0, .int 0]))]]) (i := 2) rfl) (fun r20_2 a20_2 => zk_q1 (gs := [[(h, .inr (9, [.ref q1, .null, .null, .null]))], gX6 E (q1, a9_1) r9_1, [(q2, .inr (2, [.null, .int 0, .int 0]))]]) (i := 2) rfl rfl) (Nat.le_of_ble_eq_true rfl) 23 rfl (fun r20_2 a20_2 => ?_)
  refine zk_putF tyX9 (zk_j [[(h, .inr (9, [.ref q1, .ref q2, .null, .null]))], gX6 E (q1, a9_1) r9_1, gX2 E (q2, a20_2) r20_2]) dX9_init_23 0 rfl rfl kX9_init_inX9 tyX9_ok nmX9 1 (by decide) kX9_init_17 rfl hin rfl (tyX9_ok 1 (by decide)) rfl rfl (Nat.le_of_ble_eq_true rfl) rfl 26 rfl ?_
  refine zk_aload_n dX9_init_26 0 rfl 27 rfl ?_
  refine zk_new (ci := 4) (fs := [.null, .null, .null, .int 0, .int 0, .int 0, .int 0, .int 0]) (C := RX4) (T := TX4) (N := 8) tyX4 (fun q3 => (zk_j [[(h, .inr (9, [.ref q1, .ref q2, .null, .null]))], gX6 E (q1, a9_1) r9_1, gX2 E (q2, a20_2) r20_2, [(q3, .inr (4, [.null, .null, .null, .int 0, .int 0, .int 0, .int 0, .int 0]))]])) 255 9579 dX9_init_27 rfl kX9_init_inX4 tyX4_ok kX9_init_19 kX9_init_20 kX9_init_21 (fun j hj => by rcases (show j = 0 ∨ j = 1 ∨ j = 2 ∨ j = 3 ∨ j = 4 ∨ j = 5 ∨ j = 6 ∨ j = 7 by omega) with rfl | rfl | rfl | rfl | rfl | rfl | rfl | rfl <;> rfl) rfl rfl (Nat.le_of_ble_eq_true rfl) (Nat.le_of_ble_eq_true rfl) (fun _ => zk_snoc) 30 rfl (fun q3 => ?_)
  refine zk_dup dX9_init_30 rfl 31 rfl ?_
  refine zk_callIN (st := [.ref q3, .ref h]) (n_X4 E l q3) dX9_init_31 gX9_init_X4_init_n25 rfl rfl rfl kX9_init_21 (by decide +kernel) kX9_init_22 rfl (by decide +kernel) ⟨(Nat.le_of_ble_eq_true rfl), (Nat.le_of_ble_eq_true rfl)⟩ 259 9711 rfl rfl (Nat.le_of_ble_eq_true rfl) (Nat.le_of_ble_eq_true rfl) _ (fun r31_3 a31_3 => (zk_j [[(h, .inr (9, [.ref q1, .ref q2, .null, .null]))], gX6 E (q1, a9_1) r9_1, gX2 E (q2, a20_2) r20_2, gX4 E (q3, a31_3) r31_3])) (zk_p1 (gs := [[(h, .inr (9, [.ref q1, .ref q2, .null, .null]))], gX6 E (q1, a9_1) r9_1, gX2 E (q2, a20_2) r20_2, [(q3, .inr (4, [.null, .null, .null, .int 0, .int 0, .int 0, .int 0, .int 0]))]]) (i := 3) rfl) (fun r31_3 a31_3 => zk_q1 (gs := [[(h, .inr (9, [.ref q1, .ref q2, .null, .null]))], gX6 E (q1, a9_1) r9_1, gX2 E (q2, a20_2) r20_2, [(q3, .inr (4, [.null, .null, .null, .int 0, .int 0, .int 0, .int 0, .int 0]))]]) (i := 3) rfl rfl) (Nat.le_of_ble_eq_true rfl) 34 rfl (fun r31_3 a31_3 => ?_)
  refine zk_putF tyX9 (zk_j [[(h, .inr (9, [.ref q1, .ref q2, .ref q3, .null]))], gX6 E (q1, a9_1) r9_1, gX2 E (q2, a20_2) r20_2, gX4 E (q3, a31_3) r31_3]) dX9_init_34 0 rfl rfl kX9_init_inX9 tyX9_ok nmX9 2 (by decide) kX9_init_23 rfl hin rfl (tyX9_ok 2 (by decide)) rfl rfl (Nat.le_of_ble_eq_true rfl) rfl 37 rfl ?_
  refine zk_aload_n dX9_init_37 0 rfl 38 rfl ?_
  refine zk_new (ci := 1) (fs := [.null]) (C := RX1) (T := TX1) (N := 1) tyX1 (fun q4 => (zk_j [[(h, .inr (9, [.ref q1, .ref q2, .ref q3, .null]))], gX6 E (q1, a9_1) r9_1, gX2 E (q2, a20_2) r20_2, gX4 E (q3, a31_3) r31_3, [(q4, .inr (1, [.null]))]])) 260 9712 dX9_init_38 rfl kX9_init_inX1 tyX1_ok kX9_init_25 kX9_init_26 kX9_init_27 (fun j hj => by rcases (show j = 0 by omega) with rfl <;> rfl) rfl rfl (Nat.le_of_ble_eq_true rfl) (Nat.le_of_ble_eq_true rfl) (fun _ => zk_snoc) 41 rfl (fun q4 => ?_)
  refine zk_dup dX9_init_41 rfl 42 rfl ?_
  refine zk_callIN (st := [.ref q4, .ref h]) (n_X1 E l q4) dX9_init_42 gX9_init_X1_init_n32 rfl rfl rfl kX9_init_27 (by decide +kernel) kX9_init_28 rfl (by decide +kernel) ⟨(Nat.le_of_ble_eq_true rfl), (Nat.le_of_ble_eq_true rfl)⟩ 271 10165 rfl rfl (Nat.le_of_ble_eq_true rfl) (Nat.le_of_ble_eq_true rfl) _ (fun r42_4 a42_4 => (zk_j [[(h, .inr (9, [.ref q1, .ref q2, .ref q3, .null]))], gX6 E (q1, a9_1) r9_1, gX2 E (q2, a20_2) r20_2, gX4 E (q3, a31_3) r31_3, gX1 E (q4, a42_4) r42_4])) (zk_p1 (gs := [[(h, .inr (9, [.ref q1, .ref q2, .ref q3, .null]))], gX6 E (q1, a9_1) r9_1, gX2 E (q2, a20_2) r20_2, gX4 E (q3, a31_3) r31_3, [(q4, .inr (1, [.null]))]]) (i := 4) rfl) (fun r42_4 a42_4 => zk_q1 (gs := [[(h, .inr (9, [.ref q1, .ref q2, .ref q3, .null]))], gX6 E (q1, a9_1) r9_1, gX2 E (q2, a20_2) r20_2, gX4 E (q3, a31_3) r31_3, [(q4, .inr (1, [.null]))]]) (i := 4) rfl rfl) (Nat.le_of_ble_eq_true rfl) 45 rfl (fun r42_4 a42_4 => ?_)
  refine zk_putF tyX9 (zk_j [[(h, .inr (9, [.ref q1, .ref q2, .ref q3, .ref q4]))], gX6 E (q1, a9_1) r9_1, gX2 E (q2, a20_2) r20_2, gX4 E (q3, a31_3) r31_3, gX1 E (q4, a42_4) r42_4]) dX9_init_45 0 rfl rfl kX9_init_inX9 tyX9_ok nmX9 3 (by decide) kX9_init_29 rfl hin rfl (tyX9_ok 3 (by decide)) rfl rfl (Nat.le_of_ble_eq_true rfl) rfl 48 rfl ?_
  refine zk_perm _ (zk_mv3 [(h, .inr (9, [.ref q1, .ref q2, .ref q3, .ref q4]))] (gX6 E (q1, a9_1) r9_1) (gX2 E (q2, a20_2) r20_2) (gX4 E (q3, a31_3) r31_3) (gX1 E (q4, a42_4) r42_4)) ?_
  exact zk_vretN ((q1, a9_1), (q2, a20_2), (q3, a31_3), (q4, a42_4)) hQ dX9_init_48 rfl
