/-! text constants: coder, length, isLatin1, charAt -/
section ZKS
variable {ρ ρ' : Type} {E : zk_Env} {l : Launch} {X : zk_X} {cc : ByteArray} {nL : Nat} {ret : Option FieldType} {own : String} {Ts : List Cond} {R : Room} {kc ks : Nat} {Q : ρ → State → Prop} {w : va_W} {lv : List (Nat × Value)} {pc : Nat} {st : List Value} {o : Option ρ}
/-- a guard: a char -/
def zk_cg {α : Type} (v : Int32) (k : Option α) : Option α := if (v.toUInt32 % 65536).toInt32 = v then k else none
theorem zk_nret {rv : ρ → Option Value} {w' : ρ → va_W} {r0 : ρ} {v : Int32} {ty : FieldType} (hQ : Q = zk_Q E X rv w') (hdg : decode cc pc = .ok (.ireturn, 1)) (hn : narrow ty (.int v) = .int v) (hv : rv r0 = some (.int v)) (hw : w = w' r0) : zk_G E l X cc nL (some ty) own Ts R 0 0 Q w lv pc [.int v] (some r0) := by
  obtain ⟨p, e, s, m, args, below, meth, c, w0⟩ := X
  intro r hr hC H locs ls hP hD hS hl
  obtain ⟨hx, hb, hml, hret, hown, hts, hE, hlk⟩ := id hC
  cases hr
  subst hQ
  exact W.zret (v := v) hx hb hret hn (fun t ht hW => ⟨⟨by rw [hv], by rw [ht, ← hw]; exact hP, by rw [← hw]; exact hD⟩, hS.F ht⟩) hS.2.2 hdg hlk
theorem zk_cret {rv : ρ → Option Value} {w' : ρ → va_W} {r0 : ρ} {v : Int32} (hQ : Q = zk_Q E X rv w') (hdg : decode cc pc = .ok (.ireturn, 1)) (hv : rv r0 = some (.int v)) (hw : w = w' r0) : zk_G E l X cc nL (some .char) own Ts R 0 0 Q w lv pc [.int v] (zk_cg v (some r0)) := by
  unfold zk_cg
  refine zk_if (fun h => ?_) (fun _ => zk_none)
  exact zk_nret hQ hdg (by rw [← h]; exact pk_nc v) hv hw
theorem zk_if_eqF {x : Int32} {off : Int} (hdg : decode cc pc = .ok (.ifCond .eq off, 3)) (h : ¬ x = 0) (tgt : Nat) (ht : (pc : Int) + off = (tgt : Int)) (pc' : Nat) (hp : pc + 3 = pc') (kk : zk_G E l X cc nL ret own Ts R kc ks Q w lv pc' st o) : zk_G E l X cc nL ret own Ts R kc ks Q w lv pc (.int x :: st) o := by
  obtain ⟨p, e, s, m, args, below, meth, c, w0⟩ := X
  intro r hr hC H locs ls hP hD hS hl
  obtain ⟨hx, hb, hml, hret, hown, hts, hE, hlk⟩ := id hC
  subst hp
  exact lv_if_eq hx hb hdg ht (fun c0 => absurd c0 h) (fun _ => kk r hr hC H locs ls hP hD hS hl)
theorem zk_if_neF {x : Int32} {off : Int} (hdg : decode cc pc = .ok (.ifCond .ne off, 3)) (h : x = 0) (tgt : Nat) (ht : (pc : Int) + off = (tgt : Int)) (pc' : Nat) (hp : pc + 3 = pc') (kk : zk_G E l X cc nL ret own Ts R kc ks Q w lv pc' st o) : zk_G E l X cc nL ret own Ts R kc ks Q w lv pc (.int x :: st) o := by
  obtain ⟨p, e, s, m, args, below, meth, c, w0⟩ := X
  intro r hr hC H locs ls hP hD hS hl
  obtain ⟨hx, hb, hml, hret, hown, hts, hE, hlk⟩ := id hC
  subst hp
  exact lv_if_ne hx hb hdg ht (fun c0 => absurd h c0) (fun _ => kk r hr hC H locs ls hP hD hS hl)
theorem zk_callVs {y : MethodName} {bytes : ByteArray} {maxL : Nat} {ret' : Option FieldType} {ws ws' : List Cond} {rm : Room} {As : List Value} {wc : va_W} {o1 : Option ρ'} {rv : ρ' → Option Value} {wc' : ρ' → va_W} {index i : Nat} {kf : ρ' → Option ρ} {sk : List Value}
    (hi : i < 5) (hM : zk_Mc E l y ws rm (.ref (E.2.2.1 i) :: As) wc o1 rv wc') (hdg : decode cc pc = .ok (.invokevirtual index, 3)) (n : Nat) (hG : GoodIn Ts (wsV own index "java/lang/String" y ws)) (hws : ws = Cond.code y bytes maxL ret' :: ws') (hrc : rm.cells = 0) (hrs : rm.slots = 0)
    (hd : y.cls = "java/lang/String" ∧ y.cls ≠ "java/lang/invoke/MethodHandle" ∧ y.cls ≠ "java/lang/invoke/VarHandle" ∧ (parseMethodDescriptor y.desc).map (fun d => d.parameters.length) = some n) (hR : rm.frames + 1 ≤ R.frames ∧ 8 + (maxL + 11) + rm.locals ≤ R.locals) (hcs : kc ≤ R.cells ∧ ks ≤ R.slots)
    (wr : va_W) (w1 : ρ' → va_W) (hp : w.Perm (wc ++ wr)) (hp1 : ∀ r, (wc' r ++ wr).Perm (w1 r)) (hn : As.length = n) (hsk : sk = As.reverse ++ .ref (E.2.2.1 i) :: st) (hst : (st.map fun v => v.category).sum ≤ 8)
    (s1 : ρ' → List Value) (hs1 : ∀ r, (rv r).toList ++ st = s1 r) (pc' : Nat) (hpc : pc + 3 = pc') (kk : ∀ r, zk_G E l X cc nL ret own Ts R kc ks Q (w1 r) lv pc' (s1 r) (kf r)) : zk_G E l X cc nL ret own Ts R kc ks Q w lv pc sk (o1.bind kf) := by
  obtain ⟨p, e, s, m, args, below, meth, c, w0⟩ := X
  intro r hr hC H locs ls hP hD hS hl
  obtain ⟨hx, hb, hml, hret, hown, hts, hE, hlk⟩ := id hC
  obtain ⟨r1, ho, hr1⟩ := zk_bind_e hr
  subst hsk
  subst hpc
  obtain ⟨hPc, hDc, hF⟩ := zk_pre hP hD hS zk_hA hp
  have hcw := cwV (args := args) (s := s) (R := R) (rm := rm) (mc := 0) (ms := 0) (bytes := bytes) (maxL := maxL) (ret := ret') n hts hG hws hrc hrs hd hR
  have run := va_runV (p := p) (e := e) (below := below) (meth := meth) (H := H) (locs := locs) (cells := kc) (slots := ks) (g := F0 m pc ls (As.reverse ++ .ref (E.2.2.1 i) :: st)) (As := As) (rest := st) (C := "java/lang/String") ⟨hx, hb, hml, hown, hts⟩ (hM r1 ho H.size) hcw
    ⟨fun a U g mk q => by obtain ⟨q0, q1, q2, q3, q4⟩ := q; exact ⟨q0, q1, q2, zk_E.calling q3, q4⟩, vk_recv hE.2.2.2.1 hi hS, fun U hU hW => ⟨rfl, by rw [hU], by rw [hU]; exact hPc, zk_E.warm hE hS hF hU hW, hDc⟩⟩ rfl hn hl.1 rfl (lv_room hst) hdg hcs
  intro T hT X'
  obtain ⟨v, st0, t, T', L, h0, X2, hL, e1, e2, ⟨⟨hv, hP1, hD1⟩, hz, hk⟩, go⟩ := run T hT X'
  rw [h0] at hz hk
  cases hv
  obtain ⟨hP2, hD2⟩ := zk_post (wc' := wc' r1) hP hD hp hk hF hP1 hD1
  rw [← e1] at hP2
  have hS1 : va_S (va_A w0 s.heap.size) s.heap T'.heap (locs ++ L) := ⟨Nat.le_trans hS.1 (by rw [e1]; exact hz), fun q h1 h2 => by rw [e1, hk q (Nat.lt_of_lt_of_le h1 hS.1) (fun z => h2 (hF q z))]; exact hS.2.1 q h1 h2, fun q hq => by
    rcases List.mem_append.mp hq with h | h
    · exact hS.2.2 q h
    · exact hF _ (hL q h)⟩
  have kk1 := kk r1 r hr1 hC T'.heap (locs ++ L) ls (zk_P_perm (hp1 r1) hP2) (zk_D_perm (hp1 r1) hD2) hS1 hl
  rw [← hs1 r1] at kk1
  obtain ⟨t2, a1, b1⟩ := kk1 T' rfl X2
  exact ⟨t2, go t2 a1, b1⟩
end ZKS
theorem ks_cod0 : Cond.fieldLink RJ0 38 "java/lang/String" "COMPACT_STRINGS" "Z" ∈ wsJ0_coder_7d493 := by decide +kernel
theorem ks_cod1 : Cond.fieldLink RJ0 15 "java/lang/String" "coder" "B" ∈ wsJ0_coder_7d493 := by decide +kernel
def f_J0_coder : Option Int32 := some 0
set_option maxRecDepth 100000 in
set_option maxHeartbeats 4000000 in
theorem c_J0_coder (E : zk_Env) (l : Launch) (i : Nat) (hi : i < 5) : zk_Mc E l yJ0_coder_7d493 wsJ0_coder_7d493 ({ frames := 0, cells := 0, slots := 0, locals := 0 } : Room) [.ref (E.2.2.1 i)] [] (f_J0_coder) (fun r => some (.int r)) (fun _ => []) := by
  refine zk_MF (cc := cJ0_coder_7d493) (nL := 1) (ret := (some .byte)) (by decide +kernel) rfl (Nat.le_of_ble_eq_true rfl) (fun X Q hQ => ?_)
  refine zk_eqv (w1 := []) (lv1 := [(0, .ref (E.2.2.1 i))]) (st1 := []) (o1 := f_J0_coder) rfl rfl rfl rfl ?_
  unfold f_J0_coder
  refine zk_gets dJ0_coder_7d493_0 ks_cod0 3 rfl ?_
  refine zk_if_eqF dJ0_coder_7d493_3 (by decide) 13 (by decide) 6 rfl ?_
  refine zk_aload_n dJ0_coder_7d493_6 0 rfl 7 rfl ?_
  refine zk_scod hi dJ0_coder_7d493_7 ks_cod1 10 rfl ?_
  refine zk_goto dJ0_coder_7d493_10 14 (by decide) ?_
  exact zk_nret hQ dJ0_coder_7d493_14 rfl rfl rfl
theorem ks_lat0 : Cond.fieldLink RJ0 38 "java/lang/String" "COMPACT_STRINGS" "Z" ∈ wsJ0_isLatin1_aae02 := by decide +kernel
theorem ks_lat1 : Cond.fieldLink RJ0 15 "java/lang/String" "coder" "B" ∈ wsJ0_isLatin1_aae02 := by decide +kernel
def f_J0_isLatin1 : Option Int32 := some 1
set_option maxRecDepth 100000 in
set_option maxHeartbeats 4000000 in
theorem c_J0_isLatin1 (E : zk_Env) (l : Launch) (i : Nat) (hi : i < 5) : zk_Mc E l yJ0_isLatin1_aae02 wsJ0_isLatin1_aae02 ({ frames := 0, cells := 0, slots := 0, locals := 0 } : Room) [.ref (E.2.2.1 i)] [] (f_J0_isLatin1) (fun r => some (.int r)) (fun _ => []) := by
  refine zk_MF (cc := cJ0_isLatin1_aae02) (nL := 1) (ret := (some .boolean)) (by decide +kernel) rfl (Nat.le_of_ble_eq_true rfl) (fun X Q hQ => ?_)
  refine zk_eqv (w1 := []) (lv1 := [(0, .ref (E.2.2.1 i))]) (st1 := []) (o1 := f_J0_isLatin1) rfl rfl rfl rfl ?_
  unfold f_J0_isLatin1
  refine zk_gets dJ0_isLatin1_aae02_0 ks_lat0 3 rfl ?_
  refine zk_if_eqF dJ0_isLatin1_aae02_3 (by decide) 17 (by decide) 6 rfl ?_
  refine zk_aload_n dJ0_isLatin1_aae02_6 0 rfl 7 rfl ?_
  refine zk_scod hi dJ0_isLatin1_aae02_7 ks_lat1 10 rfl ?_
  refine zk_if_neF dJ0_isLatin1_aae02_10 rfl 17 (by decide) 13 rfl ?_
  refine zk_iconst 1 dJ0_isLatin1_aae02_13 (by decide) 14 rfl ?_
  refine zk_goto dJ0_isLatin1_aae02_14 18 (by decide) ?_
  exact zk_nret hQ dJ0_isLatin1_aae02_18 rfl rfl rfl
theorem cd_J0_coder : yJ0_coder_7d493.cls = "java/lang/String" ∧ yJ0_coder_7d493.cls ≠ "java/lang/invoke/MethodHandle" ∧ yJ0_coder_7d493.cls ≠ "java/lang/invoke/VarHandle" ∧ (parseMethodDescriptor yJ0_coder_7d493.desc).map (fun d => d.parameters.length) = some 0 := by decide +kernel
theorem cd_J0_isLatin1 : yJ0_isLatin1_aae02.cls = "java/lang/String" ∧ yJ0_isLatin1_aae02.cls ≠ "java/lang/invoke/MethodHandle" ∧ yJ0_isLatin1_aae02.cls ≠ "java/lang/invoke/VarHandle" ∧ (parseMethodDescriptor yJ0_isLatin1_aae02.desc).map (fun d => d.parameters.length) = some 0 := by decide +kernel
theorem cd_J0_length : yJ0_length_8abf5.cls = "java/lang/String" ∧ yJ0_length_8abf5.cls ≠ "java/lang/invoke/MethodHandle" ∧ yJ0_length_8abf5.cls ≠ "java/lang/invoke/VarHandle" ∧ (parseMethodDescriptor yJ0_length_8abf5.desc).map (fun d => d.parameters.length) = some 0 := by decide +kernel
theorem cd_J0_charAt : yJ0_charAt_5068e.cls = "java/lang/String" ∧ yJ0_charAt_5068e.cls ≠ "java/lang/invoke/MethodHandle" ∧ yJ0_charAt_5068e.cls ≠ "java/lang/invoke/VarHandle" ∧ (parseMethodDescriptor yJ0_charAt_5068e.desc).map (fun d => d.parameters.length) = some 1 := by decide +kernel
theorem cd_J3_checkIndex : yJ3_checkIndex_8e157.cls ≠ "java/lang/invoke/MethodHandle" ∧ yJ3_checkIndex_8e157.cls ≠ "java/lang/invoke/VarHandle" ∧ (parseMethodDescriptor yJ3_checkIndex_8e157.desc).map (fun d => d.parameters.length) = some 3 := by decide +kernel
theorem cd_J0_checkIndex : yJ0_checkIndex_df160.cls ≠ "java/lang/invoke/MethodHandle" ∧ yJ0_checkIndex_df160.cls ≠ "java/lang/invoke/VarHandle" ∧ (parseMethodDescriptor yJ0_checkIndex_df160.desc).map (fun d => d.parameters.length) = some 2 := by decide +kernel
theorem cd_J1_charAt : yJ1_charAt_3b067.cls ≠ "java/lang/invoke/MethodHandle" ∧ yJ1_charAt_3b067.cls ≠ "java/lang/invoke/VarHandle" ∧ (parseMethodDescriptor yJ1_charAt_3b067.desc).map (fun d => d.parameters.length) = some 2 := by decide +kernel
theorem ks_len0 : Cond.fieldLink RJ0 9 "java/lang/String" "value" "[B" ∈ wsJ0_length_8abf5 := by decide +kernel
def f_J0_length (i : Nat) : Option Int32 := f_J0_coder.bind fun r => some (nI (zk_len.getD i 0) >>> (r &&& 31))
set_option maxRecDepth 100000 in
set_option maxHeartbeats 4000000 in
theorem c_J0_length (E : zk_Env) (l : Launch) (i : Nat) (hi : i < 5) : zk_Mc E l yJ0_length_8abf5 wsJ0_length_8abf5 ({ frames := 1, cells := 0, slots := 0, locals := 20 } : Room) [.ref (E.2.2.1 i)] [] (f_J0_length i) (fun r => some (.int r)) (fun _ => []) := by
  refine zk_MF (cc := cJ0_length_8abf5) (nL := 1) (ret := (some .int)) (by decide +kernel) rfl (Nat.le_of_ble_eq_true rfl) (fun X Q hQ => ?_)
  refine zk_eqv (w1 := []) (lv1 := [(0, .ref (E.2.2.1 i))]) (st1 := []) (o1 := f_J0_length i) rfl rfl rfl rfl ?_
  unfold f_J0_length
  refine zk_aload_n dJ0_length_8abf5_0 0 rfl 1 rfl ?_
  refine zk_sval hi dJ0_length_8abf5_1 ks_len0 4 rfl ?_
  refine zk_slen hi dJ0_length_8abf5_4 5 rfl ?_
  refine zk_aload_n dJ0_length_8abf5_5 0 rfl 6 rfl ?_
  refine zk_callVs (st := [.int (nI (zk_len.getD i 0))]) hi (c_J0_coder E l i hi) dJ0_length_8abf5_6 0 gJ0_length_8abf5_J0_coder_7d493 rfl rfl rfl cd_J0_coder ⟨(Nat.le_of_ble_eq_true rfl), (Nat.le_of_ble_eq_true rfl)⟩ ⟨Nat.zero_le _, Nat.zero_le _⟩ _ (fun _ => []) zk_pn (fun _ => List.Perm.refl _) rfl rfl (Nat.le_of_ble_eq_true rfl) (fun r => [.int r, .int (nI (zk_len.getD i 0))]) (fun _ => rfl) 9 rfl (fun r => ?_)
  refine zk_ishr dJ0_length_8abf5_9 10 rfl ?_
  exact zk_iret hQ dJ0_length_8abf5_10 rfl rfl
def f_J3_checkIndex (x0 x1 : Int32) : Option Int32 := if x0 < 0 then none else if x0 < x1 then some x0 else none
set_option maxRecDepth 100000 in
set_option maxHeartbeats 4000000 in
theorem c_J3_checkIndex (E : zk_Env) (l : Launch) (x0 x1 : Int32) (v : Option Nat) : zk_Mc E l yJ3_checkIndex_8e157 wsJ3_checkIndex_8e157 ({ frames := 0, cells := 0, slots := 0, locals := 0 } : Room) [.int x0, .int x1, va_rf v] [] (f_J3_checkIndex x0 x1) (fun r => some (.int r)) (fun _ => []) := by
  refine zk_MF (cc := cJ3_checkIndex_8e157) (nL := 3) (ret := (some .int)) (by decide +kernel) rfl (by cases v <;> exact Nat.le_of_ble_eq_true rfl) (fun X Q hQ => ?_)
  refine zk_eqv (w1 := []) (lv1 := [(0, .int x0), (1, .int x1), (2, va_rf v)]) (st1 := []) (o1 := f_J3_checkIndex x0 x1) rfl rfl rfl rfl ?_
  unfold f_J3_checkIndex
  refine zk_iload_n dJ3_checkIndex_8e157_0 0 rfl 1 rfl ?_
  refine zk_if_lt dJ3_checkIndex_8e157_1 9 (by decide) 4 rfl (fun _ => zk_none) (fun _ => ?_)
  refine zk_iload_n dJ3_checkIndex_8e157_4 0 rfl 5 rfl ?_
  refine zk_iload_n dJ3_checkIndex_8e157_5 1 rfl 6 rfl ?_
  refine zk_icmp_lt dJ3_checkIndex_8e157_6 16 (by decide) 9 rfl (fun _ => ?_) (fun _ => zk_none)
  refine zk_iload_n dJ3_checkIndex_8e157_16 0 rfl 17 rfl ?_
  exact zk_iret hQ dJ3_checkIndex_8e157_17 rfl rfl
theorem ks_chk0 : Cond.fieldLink RJ0 1053 "jdk/internal/util/Preconditions" "SIOOBE_FORMATTER" "Ljava/util/function/BiFunction;" ∈ wsJ0_checkIndex_df160 := by decide +kernel
def f_J0_checkIndex (x0 x1 : Int32) : Option Unit := (f_J3_checkIndex x0 x1).bind fun _ => some ()
set_option maxRecDepth 100000 in
set_option maxHeartbeats 4000000 in
theorem c_J0_checkIndex (E : zk_Env) (l : Launch) (x0 x1 : Int32) : zk_Mc E l yJ0_checkIndex_df160 wsJ0_checkIndex_df160 ({ frames := 1, cells := 0, slots := 0, locals := 22 } : Room) [.int x0, .int x1] [] (f_J0_checkIndex x0 x1) (fun _ => none) (fun _ => []) := by
  refine zk_MF (cc := cJ0_checkIndex_df160) (nL := 2) (ret := none) (by decide +kernel) rfl (Nat.le_of_ble_eq_true rfl) (fun X Q hQ => ?_)
  refine zk_eqv (w1 := []) (lv1 := [(0, .int x0), (1, .int x1)]) (st1 := []) (o1 := f_J0_checkIndex x0 x1) rfl rfl rfl rfl ?_
  unfold f_J0_checkIndex
  refine zk_iload_n dJ0_checkIndex_df160_0 0 rfl 1 rfl ?_
  refine zk_iload_n dJ0_checkIndex_df160_1 1 rfl 2 rfl ?_
  refine zk_getsq dJ0_checkIndex_df160_2 ks_chk0 5 rfl (fun v => ?_)
  refine zk_callS (st := []) (c_J3_checkIndex E l x0 x1 v) dJ0_checkIndex_df160_5 3 gJ0_checkIndex_df160_J3_checkIndex_8e157 rfl rfl rfl cd_J3_checkIndex ⟨(Nat.le_of_ble_eq_true rfl), (Nat.le_of_ble_eq_true rfl)⟩ ⟨Nat.zero_le _, Nat.zero_le _⟩ _ (fun _ => []) zk_pn (fun _ => List.Perm.refl _) rfl rfl (Nat.le_of_ble_eq_true rfl) (fun r => [.int r]) (fun _ => rfl) 8 rfl (fun r => ?_)
  refine zk_pop dJ0_checkIndex_df160_8 rfl 9 rfl ?_
  exact zk_vret hQ dJ0_checkIndex_df160_9 rfl rfl
def f_J1_charAt (i : Nat) (x : Int32) : Option Int32 := (f_J0_checkIndex x (nI (zk_len.getD i 0))).bind fun _ => zk_ck x (zk_len.getD i 0) (some ((((zk_byt.getD i []).getD x.toNatClampNeg 0) &&& 255).toUInt32 % 65536).toInt32)
set_option maxRecDepth 100000 in
set_option maxHeartbeats 4000000 in
theorem c_J1_charAt (E : zk_Env) (l : Launch) (i : Nat) (hi : i < 5) (x : Int32) : zk_Mc E l yJ1_charAt_3b067 wsJ1_charAt_3b067 ({ frames := 2, cells := 0, slots := 0, locals := 43 } : Room) [.ref (E.2.2.2 i), .int x] [] (f_J1_charAt i x) (fun r => some (.int r)) (fun _ => []) := by
  refine zk_MF (cc := cJ1_charAt_3b067) (nL := 2) (ret := (some .char)) (by decide +kernel) rfl (Nat.le_of_ble_eq_true rfl) (fun X Q hQ => ?_)
  refine zk_eqv (w1 := []) (lv1 := [(0, .ref (E.2.2.2 i)), (1, .int x)]) (st1 := []) (o1 := f_J1_charAt i x) rfl rfl rfl rfl ?_
  unfold f_J1_charAt
  refine zk_iload_n dJ1_charAt_3b067_0 1 rfl 1 rfl ?_
  refine zk_aload_n dJ1_charAt_3b067_1 0 rfl 2 rfl ?_
  refine zk_slen hi dJ1_charAt_3b067_2 3 rfl ?_
  refine zk_callS (st := []) (c_J0_checkIndex E l x (nI (zk_len.getD i 0))) dJ1_charAt_3b067_3 2 gJ1_charAt_3b067_J0_checkIndex_df160 rfl rfl rfl cd_J0_checkIndex ⟨(Nat.le_of_ble_eq_true rfl), (Nat.le_of_ble_eq_true rfl)⟩ ⟨Nat.zero_le _, Nat.zero_le _⟩ _ (fun _ => []) zk_pn (fun _ => List.Perm.refl _) rfl rfl (Nat.le_of_ble_eq_true rfl) (fun r => []) (fun _ => rfl) 6 rfl (fun r => ?_)
  refine zk_aload_n dJ1_charAt_3b067_6 0 rfl 7 rfl ?_
  refine zk_iload_n dJ1_charAt_3b067_7 1 rfl 8 rfl ?_
  refine zk_sbyt hi dJ1_charAt_3b067_8 9 rfl ?_
  refine zk_sipush 255 dJ1_charAt_3b067_9 (by decide) 12 rfl ?_
  refine zk_iand dJ1_charAt_3b067_12 13 rfl ?_
  refine zk_i2c dJ1_charAt_3b067_13 14 rfl ?_
  exact zk_nret hQ dJ1_charAt_3b067_14 (pk_nc _) rfl rfl
theorem ks_cha0 : Cond.fieldLink RJ0 9 "java/lang/String" "value" "[B" ∈ wsJ0_charAt_5068e := by decide +kernel
def f_J0_charAt (i : Nat) (x : Int32) : Option Int32 := f_J0_isLatin1.bind fun r => if r = 0 then none else (f_J1_charAt i x).bind fun r2 => zk_cg r2 (some r2)
set_option maxRecDepth 100000 in
set_option maxHeartbeats 4000000 in
theorem c_J0_charAt (E : zk_Env) (l : Launch) (i : Nat) (hi : i < 5) (x : Int32) : zk_Mc E l yJ0_charAt_5068e wsJ0_charAt_5068e ({ frames := 3, cells := 0, slots := 0, locals := 64 } : Room) [.ref (E.2.2.1 i), .int x] [] (f_J0_charAt i x) (fun r => some (.int r)) (fun _ => []) := by
  refine zk_MF (cc := cJ0_charAt_5068e) (nL := 2) (ret := (some .char)) (by decide +kernel) rfl (Nat.le_of_ble_eq_true rfl) (fun X Q hQ => ?_)
  refine zk_eqv (w1 := []) (lv1 := [(0, .ref (E.2.2.1 i)), (1, .int x)]) (st1 := []) (o1 := f_J0_charAt i x) rfl rfl rfl rfl ?_
  unfold f_J0_charAt
  refine zk_aload_n dJ0_charAt_5068e_0 0 rfl 1 rfl ?_
  refine zk_callVs (st := []) hi (c_J0_isLatin1 E l i hi) dJ0_charAt_5068e_1 0 gJ0_charAt_5068e_J0_isLatin1_aae02 rfl rfl rfl cd_J0_isLatin1 ⟨(Nat.le_of_ble_eq_true rfl), (Nat.le_of_ble_eq_true rfl)⟩ ⟨Nat.zero_le _, Nat.zero_le _⟩ _ (fun _ => []) zk_pn (fun _ => List.Perm.refl _) rfl rfl (Nat.le_of_ble_eq_true rfl) (fun r => [.int r]) (fun _ => rfl) 4 rfl (fun r => ?_)
  refine zk_if_eq dJ0_charAt_5068e_4 16 (by decide) 7 rfl (fun _ => zk_none) (fun _ => ?_)
  refine zk_aload_n dJ0_charAt_5068e_7 0 rfl 8 rfl ?_
  refine zk_sval hi dJ0_charAt_5068e_8 ks_cha0 11 rfl ?_
  refine zk_iload_n dJ0_charAt_5068e_11 1 rfl 12 rfl ?_
  refine zk_callS (st := []) (c_J1_charAt E l i hi x) dJ0_charAt_5068e_12 2 gJ0_charAt_5068e_J1_charAt_3b067 rfl rfl rfl cd_J1_charAt ⟨(Nat.le_of_ble_eq_true rfl), (Nat.le_of_ble_eq_true rfl)⟩ ⟨Nat.zero_le _, Nat.zero_le _⟩ _ (fun _ => []) zk_pn (fun _ => List.Perm.refl _) rfl rfl (Nat.le_of_ble_eq_true rfl) (fun r2 => [.int r2]) (fun _ => rfl) 15 rfl (fun r2 => ?_)
  exact zk_cret hQ dJ0_charAt_5068e_15 rfl rfl
