/-! THE CLAIM OUT OF ONE WALK OF THE LAW'S BODY. Your part is whole_start (and what it stands on); all else here is the same for every law, but numbers. -/
def R_law : String := "PromiseWheelLaw"
def lw_P (b : Addr) (xs : List Int32) (args : Array Value) (s : State) : Prop := args = #[.ref b] ∧ s.IntsAt b xs ∧ xs.length ≤ 260 ∧ (Jvm.Cond.and given_1 narrow_1).before args s = true
def lw_Q (_ : Array Value) (s : State) (o : Outcome) (t : State) : Prop := o = .returned (some (.int 1)) ∧ Framed s o t [] 600000 7302250
def lw_Z (below : List Frame) (a : Array Value) (s : State) : State → Prop := fun t => ∃ o, t.status = .running ∧ Ended t below o ∧ lw_Q a s o t
/-- the law's own end, with 1 on the stack, nothing written that was there before, its room as the claim has it -/
theorem lw_ret {p : Program} {l : Launch} {e : Env} {s : State} {m : MethodId} {below : List Frame} {meth : Method} {c : Code} {b : Nat} (hx : p.tables.exec = Jvm.exec) (hb : c.code = code) (hr : meth.sig.returnType = ret) (hlocks : meth.locks = false) {pc : Nat} {H : Heap} {ls : Array Slot} (hdg : decode code pc = .ok (.ireturn, 1)) : W p l e room_1 s m #[Value.ref b] below meth c H [] 600000 7302250 (lw_Z below #[Value.ref b] s) (F0 m pc ls [.int 1]) := by
  intro T hT X
  obtain ⟨fs, hret, hrun, hended, hW, hframe⟩ := X.leave (v := some (.int 1)) (hlocks := hlocks) (fun h => by rw [hr] at h; cases h)
  have hmeth' : T.vm.method? m = some meth := X.method'
  refine ⟨T.setFrames fs, ?_, .returned (some (.int 1)), hrun, hended, rfl, ⟨_, rfl⟩, hW, hframe⟩
  jvm_step X.here [X.here.top, hx, hb, hdg, hmeth', hr, ret, narrow_b1]
  (try refine ⟨rfl, ?_⟩); (try refine ⟨rfl, ?_⟩)
  first | (intro acts; rw [hret _ acts rfl rfl rfl]) | rw [hret _ _ rfl rfl rfl]
  exact Steps.refl _
/-- what holds at the law's entry: the machine, the code, the tables' words (any of lw_tbl by 'hts w (by decide +kernel)'), the script of L ints xs at the cell b, what the Statement gives of the start (any of its parts by flat_of_before) -/
def lw_At (p : Program) (s : State) (m : MethodId) (meth : Method) (c : Code) (b L : Nat) (xs : Nat → Int32) : Prop :=
  p.tables.exec = Jvm.exec ∧ c.code = code ∧ meth.sig.returnType = ret ∧ c.maxLocals = 7 ∧ s.vm.findClass R_law = some m.cls ∧ (∀ w ∈ lw_tbl, w.before #[Value.ref b] s = true) ∧ va_X b L xs s s.heap ∧ b < s.heap.size ∧ meth.locks = false ∧ (Jvm.Cond.and given_1 narrow_1).before #[Value.ref b] s = true
section ZF
set_option maxRecDepth 100000 in
set_option maxHeartbeats 4000000 in
theorem zf_walk (E : zk_Env) (l : Launch) (X : zk_X) (Q : Int32 → State → Prop) (h1 : ∀ w lv r, zk_G E l X cL_law 7 (some .boolean) yL_law.cls wsL_law room_1 545 20378 Q w lv 203 [.int r] (some r)) (h0 : ∀ w lv pc, zk_G E l X cL_law 7 (some .boolean) yL_law.cls wsL_law room_1 545 20378 Q w lv pc [.int 0] (some 0)) : zk_G E l X cL_law 7 (some .boolean) yL_law.cls wsL_law room_1 0 0 Q [] [(0, .ref E.2.2.1)] 0 [] (f_X9_init.bind fun vx => f_X9_init.bind fun vy => f_L_law E.2.2.2.1 E.2.2.2.2 vx.1 vx.2.1 vx.2.2.1 vx.2.2.2 vy.1 vy.2.1 vy.2.2.1 (fun _ => 0)) := by
  refine zk_new (ci := 9) (fs := [.null, .null, .null, .null]) (C := RX9) (T := TX9) (N := 4) tyX9 (fun q1 => (zk_j [[(q1, .inr (9, [.null, .null, .null, .null]))]])) 1 4 dL_law_0 rfl inlX9 tyX9_ok (by decide +kernel) (by decide +kernel) (by decide +kernel) (fun j hj => by rcases (show j = 0 ∨ j = 1 ∨ j = 2 ∨ j = 3 by omega) with rfl | rfl | rfl | rfl <;> rfl) rfl rfl (Nat.le_of_ble_eq_true rfl) (Nat.le_of_ble_eq_true rfl) (fun _ => rfl) 3 rfl (fun q1 => ?_)
  refine zk_dup dL_law_3 rfl 4 rfl ?_
  refine zk_callI (st := [.ref q1]) (n_X9 E l q1) dL_law_4 gL_law_X9_init rfl rfl rfl (by decide +kernel) (by decide +kernel) (by decide +kernel) rfl (by decide +kernel) ⟨(Nat.le_of_ble_eq_true rfl), (Nat.le_of_ble_eq_true rfl)⟩ 272 10169 rfl rfl (Nat.le_of_ble_eq_true rfl) (Nat.le_of_ble_eq_true rfl) _ (fun r a => zk_j [gX9 E (q1, a) r]) (zk_p1 (gs := [[(q1, .inr (9, [.null, .null, .null, .null]))]]) (i := 0) rfl) (fun r a => zk_q1 (gs := [[(q1, .inr (9, [.null, .null, .null, .null]))]]) (i := 0) rfl rfl) (Nat.le_of_ble_eq_true rfl) 7 rfl (fun vx a1 => ?_)
  refine zk_astore_n [(1, .ref q1), (0, .ref E.2.2.1)] dL_law_7 (by decide) rfl 8 rfl ?_
  refine zk_new (ci := 9) (fs := [.null, .null, .null, .null]) (C := RX9) (T := TX9) (N := 4) tyX9 (fun q2 => (zk_j [gX9 E (q1, a1) vx, [(q2, .inr (9, [.null, .null, .null, .null]))]])) 273 10173 dL_law_8 rfl inlX9 tyX9_ok (by decide +kernel) (by decide +kernel) (by decide +kernel) (fun j hj => by rcases (show j = 0 ∨ j = 1 ∨ j = 2 ∨ j = 3 by omega) with rfl | rfl | rfl | rfl <;> rfl) rfl rfl (Nat.le_of_ble_eq_true rfl) (Nat.le_of_ble_eq_true rfl) (fun _ => zk_snoc) 11 rfl (fun q2 => ?_)
  refine zk_dup dL_law_11 rfl 12 rfl ?_
  refine zk_callI (st := [.ref q2]) (n_X9 E l q2) dL_law_12 gL_law_X9_init rfl rfl rfl (by decide +kernel) (by decide +kernel) (by decide +kernel) rfl (by decide +kernel) ⟨(Nat.le_of_ble_eq_true rfl), (Nat.le_of_ble_eq_true rfl)⟩ 544 20338 rfl rfl (Nat.le_of_ble_eq_true rfl) (Nat.le_of_ble_eq_true rfl) _ (fun r a => zk_j [gX9 E (q1, a1) vx, gX9 E (q2, a) r]) (zk_p1 (gs := [gX9 E (q1, a1) vx, [(q2, .inr (9, [.null, .null, .null, .null]))]]) (i := 1) rfl) (fun r a => zk_q1 (gs := [gX9 E (q1, a1) vx, [(q2, .inr (9, [.null, .null, .null, .null]))]]) (i := 1) rfl rfl) (Nat.le_of_ble_eq_true rfl) 15 rfl (fun vy a2 => ?_)
  refine zk_astore_n [(2, .ref q2), (1, .ref q1), (0, .ref E.2.2.1)] dL_law_15 (by decide) rfl 16 rfl ?_
  refine zk_bipush 40 dL_law_16 (by decide) 18 rfl ?_
  refine zk_newaI 40 (fun q3 => (zk_j [gX9 E (q1, a1) vx, gX9 E (q2, a2) vy, gA E q3 (fun _ => 0)])) 545 20378 dL_law_18 (by decide +kernel) (by decide) (by decide) (Nat.le_of_ble_eq_true rfl) rfl rfl (Nat.le_of_ble_eq_true rfl) (Nat.le_of_ble_eq_true rfl) (fun _ => zk_snoc) 20 rfl (fun q3 => ?_)
  refine zk_astore_n [(3, .ref q3), (2, .ref q2), (1, .ref q1), (0, .ref E.2.2.1)] dL_law_20 (by decide) rfl 21 rfl ?_
  exact c_law E l X Q h1 h0 (q1, a1) vx (q2, a2) vy q3 (fun _ => 0)
/-- what is left of the claim, without the machine -/
def zf_pure (lng : Nat) (xs : Nat → Int32) : Prop := (f_X9_init.bind fun vx => f_X9_init.bind fun vy => f_L_law lng xs vx.1 vx.2.1 vx.2.2.1 vx.2.2.2 vy.1 vy.2.1 vy.2.2.1 (fun _ => 0)) = some 1
def zf_Q (A : State → Prop) (r : Int32) : State → Prop := if r = 1 then A else fun _ => True
theorem zf_Q1 {A : State → Prop} : zf_Q A 1 = A := if_pos rfl
theorem zf_Q0 {A : State → Prop} {r : Int32} (h : ¬ r = 1) : zf_Q A r = fun _ => True := if_neg h
theorem zf_start {p : Program} {e : Env} {s : State} {m : MethodId} {below : List Frame} {meth : Method} {c : Code} (l : Launch) {b L : Nat} {xs : Nat → Int32} (C0 : lw_At p s m meth c b L xs) (hp : zf_pure L xs) : W p l e room_1 s m #[Value.ref b] below meth c s.heap [] 0 0 (lw_Z below #[Value.ref b] s) (entryFrame m ([Value.ref b] : List Value).toArray 7) := by
  obtain ⟨hx, hb, hret, hml, hown, hts, hX, hbl, hlk, hgv⟩ := C0
  obtain ⟨E, hE2, hE⟩ := zs_env hX hbl hts hgv
  obtain ⟨D, ids, b', L', xs'⟩ := E
  cases hE2
  have key := zf_walk (D, ids, b, L, xs) l (p, e, s, m, #[Value.ref b], below, meth, c, []) (zf_Q (lw_Z below #[Value.ref b] s)) ?_ ?_ 1 hp ⟨hx, hb, hml, hret, hown, fun w hw => hts w (wsL_law_in w hw), hE, hlk⟩ s.heap [] _ (fun k q hq => by cases hq) ⟨fun i j p q hi => (by cases hi), fun k q hq => by cases hq⟩ va_S.rf (lv_entry [Value.ref b] (n := 7) (Nat.le_of_ble_eq_true rfl))
  · rw [lg_entry_eq]
    rw [zf_Q1] at key
    exact key
  · intro w lv r0 r hr hK H locs ls hP hD hS hl
    cases hr
    by_cases h1 : r0 = 1
    · subst h1
      rw [zf_Q1]
      refine va_forget (fun q hq => ?_) (W.widen (k := 600000) (n := 7302250) (Nat.le_of_ble_eq_true rfl) (Nat.le_of_ble_eq_true rfl) (lw_ret hx hb hret hlk dL_law_203))
      rcases hS.2.2 q hq with ⟨k, x, h⟩ | h
      · cases h
      · exact h
    · rw [zf_Q0 h1]
      intro T hT Y
      exact ⟨_, Steps.refl _, trivial⟩
  · intro w lv pc r hr hK H locs ls hP hD hS hl
    cases hr
    rw [zf_Q0 (by decide)]
    intro T hT Y
    exact ⟨_, Steps.refl _, trivial⟩
end ZF
