/-! MY KIT: worlds in groups, an environment, a judgement whose functional side is an Option, its rows -/
def zk_j (gs : List va_W) : va_W := gs.foldr (fun g r => g ++ r) []
theorem zk_j_cons (g : va_W) (gs : List va_W) : zk_j (g :: gs) = g ++ zk_j gs := rfl
theorem zk_j_app (a b : List va_W) : zk_j (a ++ b) = zk_j a ++ zk_j b := by
  induction a with
  | nil => rfl
  | cons g a ih => rw [List.cons_append, zk_j_cons, ih, zk_j_cons, List.append_assoc]
theorem zk_j_one (g : va_W) : zk_j [g] = g := List.append_nil g
theorem zk_at : ∀ (gs : List va_W) (i : Nat) (g : va_W), gs[i]? = some g → (zk_j gs).Perm (g ++ zk_j (gs.set i []))
  | [], i, g, h => by simp at h
  | g0 :: gs, 0, g, h => by
    rw [List.getElem?_cons_zero] at h
    cases h
    exact List.Perm.refl _
  | g0 :: gs, i + 1, g, h => by
    rw [List.getElem?_cons_succ] at h
    have ih := zk_at gs i g h
    show (g0 ++ zk_j gs).Perm (g ++ (g0 ++ zk_j (gs.set i [])))
    refine (List.Perm.append_left g0 ih).trans ?_
    rw [← List.append_assoc, ← List.append_assoc]
    exact List.Perm.append_right _ List.perm_append_comm
theorem zk_put (gs : List va_W) (i : Nat) (g' : va_W) (h : i < gs.length) : (zk_j (gs.set i g')).Perm (g' ++ zk_j (gs.set i [])) := by
  have h1 := zk_at (gs.set i g') i g' (List.getElem?_set_self h)
  rwa [List.set_set] at h1
theorem zk_lt {gs : List va_W} {i : Nat} {g : va_W} (h : gs[i]? = some g) : i < gs.length := (List.getElem?_eq_some_iff.mp h).1
/-- two groups out of a world -/
theorem zk_at2 (gs : List va_W) (i j : Nat) (g h : va_W) (hi : gs[i]? = some g) (hj : gs[j]? = some h) (n : i ≠ j) : (zk_j gs).Perm ((g ++ h) ++ zk_j ((gs.set i []).set j [])) := by
  have h2 := zk_at (gs.set i []) j h (by rw [List.getElem?_set_ne n]; exact hj)
  rw [List.append_assoc]
  exact (zk_at gs i g hi).trans (List.Perm.append_left g h2)
theorem zk_put2 (gs : List va_W) (i j : Nat) (g' h' : va_W) (hi : i < gs.length) (hj : j < gs.length) (n : i ≠ j) : (zk_j ((gs.set i g').set j h')).Perm ((g' ++ h') ++ zk_j ((gs.set i []).set j [])) := by
  have h1 := zk_at2 ((gs.set i g').set j h') i j g' h' (by rw [List.getElem?_set_ne (Ne.symm n)]; exact List.getElem?_set_self hi) (List.getElem?_set_self (by rw [List.length_set]; exact hj)) n
  have e : ((((gs.set i g').set j h').set i []).set j []) = (gs.set i []).set j [] := by
    rw [List.set_comm _ _ (Ne.symm n), List.set_set, List.set_set]
  rwa [e] at h1
theorem zk_P_mem {D : va_G} {cl : List vw_C} {ws : va_W} {H : Heap} : va_P D cl ws H ↔ ∀ q ∈ ws, va_at D cl q H :=
  ⟨fun h q hq => by obtain ⟨k, hk⟩ := List.getElem?_of_mem hq; exact h k q hk, fun h k q hk => h q (List.mem_of_getElem? hk)⟩
theorem zk_P_perm {D : va_G} {cl : List vw_C} {ws ws' : va_W} {H : Heap} (h : ws.Perm ws') (hP : va_P D cl ws H) : va_P D cl ws' H := zk_P_mem.mpr (fun q hq => zk_P_mem.mp hP q (h.mem_iff.mpr hq))
theorem zk_D_iff {A : Nat → Prop} {ws : va_W} : va_D A ws ↔ (ws.map (fun q => q.1)).Nodup ∧ ∀ q ∈ ws, A q.1 := by
  constructor
  · intro h
    refine ⟨?_, fun q hq => ?_⟩
    · refine List.pairwise_iff_getElem.mpr (fun i j hi hj hij e => ?_)
      rw [List.length_map] at hi hj
      rw [List.getElem_map, List.getElem_map] at e
      have := h.1 i j ws[i] ws[j] (List.getElem?_eq_getElem hi) (List.getElem?_eq_getElem hj) e
      omega
    · obtain ⟨k, hk⟩ := List.getElem?_of_mem hq
      exact h.2 k q hk
  · rintro ⟨h1, h2⟩
    refine ⟨fun i j p q hi hj e => ?_, fun k q hk => h2 q (List.mem_of_getElem? hk)⟩
    obtain ⟨hi1, hi2⟩ := List.getElem?_eq_some_iff.mp hi
    obtain ⟨hj1, hj2⟩ := List.getElem?_eq_some_iff.mp hj
    have key := List.pairwise_iff_getElem.mp h1
    rcases Nat.lt_trichotomy i j with g | g | g
    · exact absurd (by rw [List.getElem_map, List.getElem_map, hi2, hj2]; exact e) (key i j (by rw [List.length_map]; exact hi1) (by rw [List.length_map]; exact hj1) g)
    · exact g
    · exact absurd (by rw [List.getElem_map, List.getElem_map, hi2, hj2]; exact e.symm) (key j i (by rw [List.length_map]; exact hj1) (by rw [List.length_map]; exact hi1) g)
theorem zk_D_perm {A : Nat → Prop} {ws ws' : va_W} (h : ws.Perm ws') (hD : va_D A ws) : va_D A ws' := by
  obtain ⟨h1, h2⟩ := zk_D_iff.mp hD
  exact zk_D_iff.mpr ⟨(h.map _).nodup_iff.mp h1, fun q hq => h2 q (h.mem_iff.mpr hq)⟩
theorem zk_pre {A0 : Nat → Prop} {D : va_G} {cl : List vw_C} {ws wc wr : va_W} {H0 H : Heap} {locs : List Loc} (hP : va_P D cl ws H) (hD : va_D A0 ws) (hS : va_S A0 H0 H locs) (hA : ∀ q, H0.size ≤ q → A0 q) (hp : ws.Perm (wc ++ wr)) : va_P D cl wc H ∧ va_D (fun _ => True) wc ∧ ∀ q, va_A wc H.size q → A0 q := by
  have hP2 := zk_P_mem.mp (zk_P_perm hp hP)
  have hD2 := zk_D_iff.mp (zk_D_perm hp hD)
  refine ⟨zk_P_mem.mpr fun q hq => hP2 q (List.mem_append_left _ hq), zk_D_iff.mpr ⟨?_, fun _ _ => trivial⟩, fun q h => ?_⟩
  · have h1 := hD2.1
    rw [List.map_append] at h1
    exact (List.nodup_append.mp h1).1
  · rcases h with ⟨k, e, h⟩ | h
    · exact hD2.2 (q, e) (List.mem_append_left _ (List.mem_of_getElem? h))
    · exact hA q (Nat.le_trans hS.1 h)
theorem zk_post {A0 : Nat → Prop} {D : va_G} {cl : List vw_C} {ws wc wr wc' : va_W} {H H1 : Heap} (hP : va_P D cl ws H) (hD : va_D A0 ws) (hp : ws.Perm (wc ++ wr)) (hk : ∀ q : Nat, q < H.size → ¬ va_A wc H.size q → H1[q]? = H[q]?) (hF : ∀ q, va_A wc H.size q → A0 q) (hP1 : va_P D cl wc' H1) (hD1 : va_D (va_A wc H.size) wc') : va_P D cl (wc' ++ wr) H1 ∧ va_D A0 (wc' ++ wr) := by
  have hP2 := zk_P_mem.mp (zk_P_perm hp hP)
  obtain ⟨hN, hA⟩ := zk_D_iff.mp (zk_D_perm hp hD)
  rw [List.map_append] at hN
  obtain ⟨n1, n2, n3⟩ := List.nodup_append.mp hN
  have ap : ∀ q ∈ wr, q.1 < H.size ∧ ¬ va_A wc H.size q.1 := fun q hq => by
    have hl := (hP2 q (List.mem_append_right _ hq)).lt
    refine ⟨hl, fun h => ?_⟩
    rcases h with ⟨k, e, h⟩ | h
    · exact n3 q.1 (List.mem_map.mpr ⟨(q.1, e), List.mem_of_getElem? h, rfl⟩) q.1 (List.mem_map.mpr ⟨q, hq, rfl⟩) rfl
    · omega
  obtain ⟨m1, m2⟩ := zk_D_iff.mp hD1
  refine ⟨va_P.app hP1 (zk_P_mem.mpr fun q hq => (hP2 q (List.mem_append_right _ hq)).kept (hk q.1 (ap q hq).1 (ap q hq).2)), zk_D_iff.mpr ⟨?_, fun q hq => ?_⟩⟩
  · rw [List.map_append]
    refine List.nodup_append.mpr ⟨m1, n2, fun a ha b hb e => ?_⟩
    obtain ⟨x, hx, rfl⟩ := List.mem_map.mp ha
    obtain ⟨z, hz, rfl⟩ := List.mem_map.mp hb
    exact (ap z hz).2 (by rw [← e]; exact m2 x hx)
  · rcases List.mem_append.mp hq with h | h
    · exact hF _ (m2 q h)
    · exact hA q (List.mem_append_right _ h)
/-! the environment: classes, array classes, nest words, the script -/
abbrev zk_Env : Type := va_G × (ClassId × ClassId × ClassId × ClassId × ClassId) × Nat × Nat × (Nat → Int32)
abbrev zk_ci (E : zk_Env) : ClassId := E.2.1.1
abbrev zk_cz (E : zk_Env) : ClassId := E.2.1.2.1
abbrev zk_cc (E : zk_Env) : ClassId := E.2.1.2.2.1
abbrev zk_cw (E : zk_Env) : ClassId := E.2.1.2.2.2.1
abbrev zk_cs (E : zk_Env) : ClassId := E.2.1.2.2.2.2
abbrev zk_T (E : zk_Env) : List (ClassId × FieldType) := [(zk_ci E, .int), (zk_cz E, .boolean), (zk_cw E, .object RX8), (zk_cs E, .object RX6)]
def zk_NF : List (String × Nat × String × String × String) := [
  (RX9, 132, RX8, "promises", "LPromiseWheel$Promises;"), (RX9, 159, RX8, "diary", "LPromiseWheel$Diary;"), (RX9, 41, RX6, "wheel", "LPromiseWheel$Wheel;"), (RX9, 82, RX4, "text", "LPromiseWheel$Text;"),
  (RX1, 22, RX8, "promises", "LPromiseWheel$Promises;"), (RX1, 35, RX8, "now", "I"), (RX1, 48, RX8, "diary", "LPromiseWheel$Diary;"), (RX1, 58, RX8, "lateCalls", "I"), (RX1, 61, RX8, "room", "I")]
def zk_NM : List (String × Nat × MethodName) := [(RX9, 25, yX4_init), (RX9, 32, yX1_init), (RX1, 11, yX8_init), (RX4, 11, yX7_init), (RX6, 11, yX8_init), (RX8, 11, yX5_init), (RX8, 27, yX0_init)]
def zk_E (E : zk_Env) (A : Nat → Prop) (U : State) (H : Heap) : Prop :=
  va_K E.1 vwCl (zk_T E) U ∧ (∀ q ∈ zk_NF, va_Nw (.fieldLinkNest q.1 q.2.1 q.2.2.1 q.2.2.2.1 q.2.2.2.2 RX9) U) ∧ (∀ q ∈ zk_NM, va_Nw (.methodLinkNest q.1 q.2.1 q.2.2 RX9) U) ∧
  (va_X E.2.2.1 E.2.2.2.1 E.2.2.2.2 U H ∧ E.2.2.1 < H.size ∧ ¬ A E.2.2.1) ∧ va_AO RX8 U ∧ va_AO RX6 U
theorem zk_E.warm {E : zk_Env} {A B : Nat → Prop} {s U : State} {H : Heap} {locs : List Loc} (h : zk_E E A s s.heap) (hS : va_S A s.heap H locs) (hAB : ∀ q, B q → A q) (hU : U.heap = H) (hW : s.WarmedH U.vm) : zk_E E B U U.heap := by
  obtain ⟨h1, h2, h3, ⟨h4, h5, h6⟩, h8, h9⟩ := h
  rw [hU]
  exact ⟨va_K.moved hW.alike h1, fun q hq => va_Nw.warmF hW (h2 q hq), fun q hq => va_Nw.warmM hW (h3 q hq), ⟨(va_X.moved hW.alike h4).kept (hS.2.1 _ h5 h6), Nat.lt_of_lt_of_le h5 hS.1, fun z => h6 (hAB _ z)⟩, va_AO.moved hW.alike h8, va_AO.moved hW.alike h9⟩
theorem zk_E.calling {E : zk_Env} {A : Nat → Prop} {U : State} {a : Array Value} {g : JFrame} {mk : MethodId} (h : zk_E E A U U.heap) : zk_E E A (U.calling g mk a) (U.calling g mk a).heap := by
  obtain ⟨h1, h2, h3, ⟨h4, h5, h6⟩, h8, h9⟩ := h
  exact ⟨va_K.moved (u := U) (U := U.calling g mk a) (Vm.Alike.refl U.vm) h1, fun q hq => va_Nw.same (w := .fieldLinkNest q.1 q.2.1 q.2.2.1 q.2.2.2.1 q.2.2.2.2 RX9) rfl (u := U) rfl (h2 q hq), fun q hq => va_Nw.same (w := .methodLinkNest q.1 q.2.1 q.2.2 RX9) rfl (u := U) rfl (h3 q hq), ⟨va_X.moved (u := U) (U := U.calling g mk a) (Vm.Alike.refl U.vm) h4, h5, h6⟩, va_AO.moved (u := U) (U := U.calling g mk a) (Vm.Alike.refl U.vm) h8, va_AO.moved (u := U) (U := U.calling g mk a) (Vm.Alike.refl U.vm) h9⟩
/-! contracts: what a method answers is a function's value -/
def zk_Pc (E : zk_Env) (w : va_W) (sz : Nat) (U : State) : Prop := U.heap.size = sz ∧ va_P E.1 vwCl w U.heap ∧ zk_E E (va_A w sz) U U.heap ∧ va_D (fun _ => True) w
def zk_Qc (E : zk_Env) (w : va_W) (sz : Nat) (v : Option Value) (w' : va_W) : Array Value → State → Outcome → State → Prop := fun _ st oc t => (oc = .returned v ∧ va_P E.1 vwCl w' t.heap ∧ va_D (va_A w sz) w') ∧ va_F (va_A w sz) st t
def zk_Mc {ρ : Type} (E : zk_Env) (l : Launch) (y : MethodName) (ws : List Cond) (rm : Room) (av : List Value) (w : va_W) (o : Option ρ) (rv : ρ → Option Value) (w' : ρ → va_W) : Prop :=
  ∀ r, o = some r → ∀ sz, Met l y ws rm (va_Pc av (zk_Pc E w sz)) (zk_Qc E w sz (rv r) (w' r)) 0 0 (va_A w sz)
/-- a constructor: its world comes with addresses -/
def zk_Qn {α : Type} (E : zk_Env) (w : va_W) (sz : Nat) (w' : α → va_W) : Array Value → State → Outcome → State → Prop := fun _ st oc t => (∃ a, oc = .returned none ∧ va_P E.1 vwCl (w' a) t.heap ∧ va_D (va_A w sz) (w' a)) ∧ va_F (va_A w sz) st t
def zk_Mn {ρ α : Type} (E : zk_Env) (l : Launch) (y : MethodName) (ws : List Cond) (rm : Room) (av : List Value) (w : va_W) (o : Option ρ) (w' : ρ → α → va_W) (mc ms : Nat) : Prop :=
  ∀ r, o = some r → ∀ sz, Met l y ws rm (va_Pc av (zk_Pc E w sz)) (zk_Qn E w sz (w' r)) mc ms (va_A w sz)
/-! the judgement -/
abbrev zk_X : Type := Program × Env × State × MethodId × Array Value × List Frame × Method × Code × va_W
def zk_K (E : zk_Env) : zk_X → ByteArray → Nat → Option FieldType → String → List Cond → Prop
  | (p, _, s, m, args, _, meth, c, w0), cc, nL, ret, own, Ts => p.tables.exec = Jvm.exec ∧ c.code = cc ∧ c.maxLocals = nL ∧ meth.sig.returnType = ret ∧ s.vm.findClass own = some m.cls ∧ (∀ w ∈ Ts, w.before args s = true) ∧ zk_E E (va_A w0 s.heap.size) s s.heap ∧ meth.locks = false
def zk_G {ρ : Type} (E : zk_Env) (l : Launch) : zk_X → ByteArray → Nat → Option FieldType → String → List Cond → Room → Nat → Nat → (ρ → State → Prop) → va_W → List (Nat × Value) → Nat → List Value → Option ρ → Prop
  | (p, e, s, m, args, below, meth, c, w0), cc, nL, ret, own, Ts, R, kc, ks, Q, w, lv, pc, st, o => ∀ r, o = some r → zk_K E (p, e, s, m, args, below, meth, c, w0) cc nL ret own Ts → ∀ (H : Heap) (locs : List Loc) (ls : Array Slot), va_P E.1 vwCl w H → va_D (va_A w0 s.heap.size) w → va_S (va_A w0 s.heap.size) s.heap H locs → lv_has ls nL lv → W p l e R s m args below meth c H locs kc ks (Q r) (F0 m pc ls st)
theorem zk_hA {w0 : va_W} {n : Nat} : ∀ q : Nat, n ≤ q → va_A w0 n q := fun _ h => Or.inr h
section ZKR
variable {ρ : Type} {E : zk_Env} {l : Launch} {X : zk_X} {cc : ByteArray} {nL : Nat} {ret : Option FieldType} {own : String} {Ts : List Cond} {R : Room} {kc ks : Nat} {Q : ρ → State → Prop} {w : va_W} {lv : List (Nat × Value)} {pc : Nat} {st : List Value} {o : Option ρ}

theorem zk_iconst {n : Int} (v : Int32) (hdg : decode cc pc = .ok (.iconst n, 1)) (hv : Int32.ofInt n = v) (pc' : Nat) (hp : pc + 1 = pc') (kk : zk_G E l X cc nL ret own Ts R kc ks Q w lv pc' (.int v :: st) o) : zk_G E l X cc nL ret own Ts R kc ks Q w lv pc (st) o := by
  obtain ⟨p, e, s, m, args, below, meth, c, w0⟩ := X
  intro r hr hC H locs ls hP hD hS hl
  obtain ⟨hx, hb, hml, hret, hown, hts, hE, hlk⟩ := id hC
  subst hp
  exact lv_iconst hx hb hdg hv (kk r hr hC H locs ls hP hD hS hl)
theorem zk_bipush {n : Int} (v : Int32) (hdg : decode cc pc = .ok (.bipush n, 2)) (hv : (Int8.ofInt n).toInt32 = v) (pc' : Nat) (hp : pc + 2 = pc') (kk : zk_G E l X cc nL ret own Ts R kc ks Q w lv pc' (.int v :: st) o) : zk_G E l X cc nL ret own Ts R kc ks Q w lv pc (st) o := by
  obtain ⟨p, e, s, m, args, below, meth, c, w0⟩ := X
  intro r hr hC H locs ls hP hD hS hl
  obtain ⟨hx, hb, hml, hret, hown, hts, hE, hlk⟩ := id hC
  subst hp
  exact lv_bipush hx hb hdg hv (kk r hr hC H locs ls hP hD hS hl)
theorem zk_sipush {n : Int} (v : Int32) (hdg : decode cc pc = .ok (.sipush n, 3)) (hv : (Int16.ofInt n).toInt32 = v) (pc' : Nat) (hp : pc + 3 = pc') (kk : zk_G E l X cc nL ret own Ts R kc ks Q w lv pc' (.int v :: st) o) : zk_G E l X cc nL ret own Ts R kc ks Q w lv pc (st) o := by
  obtain ⟨p, e, s, m, args, below, meth, c, w0⟩ := X
  intro r hr hC H locs ls hP hD hS hl
  obtain ⟨hx, hb, hml, hret, hown, hts, hE, hlk⟩ := id hC
  subst hp
  exact lv_sipush hx hb hdg hv (kk r hr hC H locs ls hP hD hS hl)
theorem zk_iload_n {k : Fin 4} {x : Int32} (hdg : decode cc pc = .ok (.iload_n k, 1)) (j : Nat) (hj : lv[j]? = some (k.val, .int x)) (pc' : Nat) (hp : pc + 1 = pc') (kk : zk_G E l X cc nL ret own Ts R kc ks Q w lv pc' (.int x :: st) o) : zk_G E l X cc nL ret own Ts R kc ks Q w lv pc (st) o := by
  obtain ⟨p, e, s, m, args, below, meth, c, w0⟩ := X
  intro r hr hC H locs ls hP hD hS hl
  obtain ⟨hx, hb, hml, hret, hown, hts, hE, hlk⟩ := id hC
  subst hp
  exact lv_iload_n hx hb hdg rfl (lv_at hl j hj) (kk r hr hC H locs ls hP hD hS hl)
theorem zk_iload {i : Nat} {x : Int32} (hdg : decode cc pc = .ok (.iload i, 2)) (j : Nat) (hj : lv[j]? = some (i, .int x)) (pc' : Nat) (hp : pc + 2 = pc') (kk : zk_G E l X cc nL ret own Ts R kc ks Q w lv pc' (.int x :: st) o) : zk_G E l X cc nL ret own Ts R kc ks Q w lv pc (st) o := by
  obtain ⟨p, e, s, m, args, below, meth, c, w0⟩ := X
  intro r hr hC H locs ls hP hD hS hl
  obtain ⟨hx, hb, hml, hret, hown, hts, hE, hlk⟩ := id hC
  subst hp
  exact lv_iload hx hb hdg (lv_at hl j hj) (kk r hr hC H locs ls hP hD hS hl)
theorem zk_aload_n {k : Fin 4} {x : Nat} (hdg : decode cc pc = .ok (.aload_n k, 1)) (j : Nat) (hj : lv[j]? = some (k.val, .ref x)) (pc' : Nat) (hp : pc + 1 = pc') (kk : zk_G E l X cc nL ret own Ts R kc ks Q w lv pc' (.ref x :: st) o) : zk_G E l X cc nL ret own Ts R kc ks Q w lv pc (st) o := by
  obtain ⟨p, e, s, m, args, below, meth, c, w0⟩ := X
  intro r hr hC H locs ls hP hD hS hl
  obtain ⟨hx, hb, hml, hret, hown, hts, hE, hlk⟩ := id hC
  subst hp
  exact lv_aload_n hx hb hdg rfl (lv_at hl j hj) (kk r hr hC H locs ls hP hD hS hl)
theorem zk_aload_nN {k : Fin 4} (hdg : decode cc pc = .ok (.aload_n k, 1)) (j : Nat) (hj : lv[j]? = some (k.val, .null)) (pc' : Nat) (hp : pc + 1 = pc') (kk : zk_G E l X cc nL ret own Ts R kc ks Q w lv pc' (.null :: st) o) : zk_G E l X cc nL ret own Ts R kc ks Q w lv pc (st) o := by
  obtain ⟨p, e, s, m, args, below, meth, c, w0⟩ := X
  intro r hr hC H locs ls hP hD hS hl
  obtain ⟨hx, hb, hml, hret, hown, hts, hE, hlk⟩ := id hC
  subst hp
  exact lv_aload_nN hx hb hdg rfl (lv_at hl j hj) (kk r hr hC H locs ls hP hD hS hl)
theorem zk_aload {i : Nat} {x : Nat} (hdg : decode cc pc = .ok (.aload i, 2)) (j : Nat) (hj : lv[j]? = some (i, .ref x)) (pc' : Nat) (hp : pc + 2 = pc') (kk : zk_G E l X cc nL ret own Ts R kc ks Q w lv pc' (.ref x :: st) o) : zk_G E l X cc nL ret own Ts R kc ks Q w lv pc (st) o := by
  obtain ⟨p, e, s, m, args, below, meth, c, w0⟩ := X
  intro r hr hC H locs ls hP hD hS hl
  obtain ⟨hx, hb, hml, hret, hown, hts, hE, hlk⟩ := id hC
  subst hp
  exact lv_aload hx hb hdg (lv_at hl j hj) (kk r hr hC H locs ls hP hD hS hl)
theorem zk_istore_n {k : Fin 4} {x : Int32} (lv' : List (Nat × Value)) (hdg : decode cc pc = .ok (.istore_n k, 1)) (hn : k.val < nL) (hv : (k.val, Value.int x) :: lv.filter (fun q => !(q.1 == k.val) && !(q.1 + 1 == k.val && q.2.category == 2)) = lv') (pc' : Nat) (hp : pc + 1 = pc') (kk : zk_G E l X cc nL ret own Ts R kc ks Q w lv' pc' (st) o) : zk_G E l X cc nL ret own Ts R kc ks Q w lv pc (.int x :: st) o := by
  obtain ⟨p, e, s, m, args, below, meth, c, w0⟩ := X
  intro r hr hC H locs ls hP hD hS hl
  obtain ⟨hx, hb, hml, hret, hown, hts, hE, hlk⟩ := id hC
  subst hp
  exact lv_istore_n hx hb hdg rfl hl hn hv (fun ls1 hl1 => kk r hr hC H locs ls1 hP hD hS hl1)
theorem zk_istore {i : Nat} {x : Int32} (lv' : List (Nat × Value)) (hdg : decode cc pc = .ok (.istore i, 2)) (hn : i < nL) (hv : (i, Value.int x) :: lv.filter (fun q => !(q.1 == i) && !(q.1 + 1 == i && q.2.category == 2)) = lv') (pc' : Nat) (hp : pc + 2 = pc') (kk : zk_G E l X cc nL ret own Ts R kc ks Q w lv' pc' (st) o) : zk_G E l X cc nL ret own Ts R kc ks Q w lv pc (.int x :: st) o := by
  obtain ⟨p, e, s, m, args, below, meth, c, w0⟩ := X
  intro r hr hC H locs ls hP hD hS hl
  obtain ⟨hx, hb, hml, hret, hown, hts, hE, hlk⟩ := id hC
  subst hp
  exact lv_istore hx hb hdg hl hn hv (fun ls1 hl1 => kk r hr hC H locs ls1 hP hD hS hl1)
theorem zk_astore_n {k : Fin 4} {x : Nat} (lv' : List (Nat × Value)) (hdg : decode cc pc = .ok (.astore_n k, 1)) (hn : k.val < nL) (hv : (k.val, Value.ref x) :: lv.filter (fun q => !(q.1 == k.val) && !(q.1 + 1 == k.val && q.2.category == 2)) = lv') (pc' : Nat) (hp : pc + 1 = pc') (kk : zk_G E l X cc nL ret own Ts R kc ks Q w lv' pc' (st) o) : zk_G E l X cc nL ret own Ts R kc ks Q w lv pc (.ref x :: st) o := by
  obtain ⟨p, e, s, m, args, below, meth, c, w0⟩ := X
  intro r hr hC H locs ls hP hD hS hl
  obtain ⟨hx, hb, hml, hret, hown, hts, hE, hlk⟩ := id hC
  subst hp
  exact lv_astore_n hx hb hdg rfl hl hn hv (fun ls1 hl1 => kk r hr hC H locs ls1 hP hD hS hl1)
theorem zk_astore_nN {k : Fin 4} (lv' : List (Nat × Value)) (hdg : decode cc pc = .ok (.astore_n k, 1)) (hn : k.val < nL) (hv : (k.val, Value.null) :: lv.filter (fun q => !(q.1 == k.val) && !(q.1 + 1 == k.val && q.2.category == 2)) = lv') (pc' : Nat) (hp : pc + 1 = pc') (kk : zk_G E l X cc nL ret own Ts R kc ks Q w lv' pc' (st) o) : zk_G E l X cc nL ret own Ts R kc ks Q w lv pc (.null :: st) o := by
  obtain ⟨p, e, s, m, args, below, meth, c, w0⟩ := X
  intro r hr hC H locs ls hP hD hS hl
  obtain ⟨hx, hb, hml, hret, hown, hts, hE, hlk⟩ := id hC
  subst hp
  exact lv_astore_nN hx hb hdg rfl hl hn hv (fun ls1 hl1 => kk r hr hC H locs ls1 hP hD hS hl1)
theorem zk_astore {i : Nat} {x : Nat} (lv' : List (Nat × Value)) (hdg : decode cc pc = .ok (.astore i, 2)) (hn : i < nL) (hv : (i, Value.ref x) :: lv.filter (fun q => !(q.1 == i) && !(q.1 + 1 == i && q.2.category == 2)) = lv') (pc' : Nat) (hp : pc + 2 = pc') (kk : zk_G E l X cc nL ret own Ts R kc ks Q w lv' pc' (st) o) : zk_G E l X cc nL ret own Ts R kc ks Q w lv pc (.ref x :: st) o := by
  obtain ⟨p, e, s, m, args, below, meth, c, w0⟩ := X
  intro r hr hC H locs ls hP hD hS hl
  obtain ⟨hx, hb, hml, hret, hown, hts, hE, hlk⟩ := id hC
  subst hp
  exact lv_astore hx hb hdg hl hn hv (fun ls1 hl1 => kk r hr hC H locs ls1 hP hD hS hl1)
theorem zk_iinc {i : Nat} {n : Int} {x : Int32} (v : Int32) (lv' : List (Nat × Value)) (hdg : decode cc pc = .ok (.iinc i n, 3)) (j : Nat) (hj : lv[j]? = some (i, .int x)) (hv : x + Int32.ofInt n = v) (hn : i < nL) (hl' : (i, Value.int v) :: lv.filter (fun q => !(q.1 == i) && !(q.1 + 1 == i && q.2.category == 2)) = lv') (pc' : Nat) (hp : pc + 3 = pc') (kk : zk_G E l X cc nL ret own Ts R kc ks Q w lv' pc' (st) o) : zk_G E l X cc nL ret own Ts R kc ks Q w lv pc (st) o := by
  obtain ⟨p, e, s, m, args, below, meth, c, w0⟩ := X
  intro r hr hC H locs ls hP hD hS hl
  obtain ⟨hx, hb, hml, hret, hown, hts, hE, hlk⟩ := id hC
  subst hp
  exact lv_iinc hx hb hdg hl (k := j) hj hv hn hl' (fun ls1 hl1 => kk r hr hC H locs ls1 hP hD hS hl1)
theorem zk_iadd {x y : Int32} (hdg : decode cc pc = .ok (.iadd, 1)) (pc' : Nat) (hp : pc + 1 = pc') (kk : zk_G E l X cc nL ret own Ts R kc ks Q w lv pc' (.int (x + y) :: st) o) : zk_G E l X cc nL ret own Ts R kc ks Q w lv pc (.int y :: .int x :: st) o := by
  obtain ⟨p, e, s, m, args, below, meth, c, w0⟩ := X
  intro r hr hC H locs ls hP hD hS hl
  obtain ⟨hx, hb, hml, hret, hown, hts, hE, hlk⟩ := id hC
  subst hp
  exact lv_iadd hx hb hdg (kk r hr hC H locs ls hP hD hS hl)
theorem zk_isub {x y : Int32} (hdg : decode cc pc = .ok (.isub, 1)) (pc' : Nat) (hp : pc + 1 = pc') (kk : zk_G E l X cc nL ret own Ts R kc ks Q w lv pc' (.int (x - y) :: st) o) : zk_G E l X cc nL ret own Ts R kc ks Q w lv pc (.int y :: .int x :: st) o := by
  obtain ⟨p, e, s, m, args, below, meth, c, w0⟩ := X
  intro r hr hC H locs ls hP hD hS hl
  obtain ⟨hx, hb, hml, hret, hown, hts, hE, hlk⟩ := id hC
  subst hp
  exact lv_isub hx hb hdg (kk r hr hC H locs ls hP hD hS hl)
theorem zk_imul {x y : Int32} (hdg : decode cc pc = .ok (.imul, 1)) (pc' : Nat) (hp : pc + 1 = pc') (kk : zk_G E l X cc nL ret own Ts R kc ks Q w lv pc' (.int (x * y) :: st) o) : zk_G E l X cc nL ret own Ts R kc ks Q w lv pc (.int y :: .int x :: st) o := by
  obtain ⟨p, e, s, m, args, below, meth, c, w0⟩ := X
  intro r hr hC H locs ls hP hD hS hl
  obtain ⟨hx, hb, hml, hret, hown, hts, hE, hlk⟩ := id hC
  subst hp
  exact lv_imul hx hb hdg (kk r hr hC H locs ls hP hD hS hl)
theorem zk_iand {x y : Int32} (hdg : decode cc pc = .ok (.iand, 1)) (pc' : Nat) (hp : pc + 1 = pc') (kk : zk_G E l X cc nL ret own Ts R kc ks Q w lv pc' (.int (x &&& y) :: st) o) : zk_G E l X cc nL ret own Ts R kc ks Q w lv pc (.int y :: .int x :: st) o := by
  obtain ⟨p, e, s, m, args, below, meth, c, w0⟩ := X
  intro r hr hC H locs ls hP hD hS hl
  obtain ⟨hx, hb, hml, hret, hown, hts, hE, hlk⟩ := id hC
  subst hp
  exact lv_iand hx hb hdg (kk r hr hC H locs ls hP hD hS hl)
theorem zk_ixor {x y : Int32} (hdg : decode cc pc = .ok (.ixor, 1)) (pc' : Nat) (hp : pc + 1 = pc') (kk : zk_G E l X cc nL ret own Ts R kc ks Q w lv pc' (.int (x ^^^ y) :: st) o) : zk_G E l X cc nL ret own Ts R kc ks Q w lv pc (.int y :: .int x :: st) o := by
  obtain ⟨p, e, s, m, args, below, meth, c, w0⟩ := X
  intro r hr hC H locs ls hP hD hS hl
  obtain ⟨hx, hb, hml, hret, hown, hts, hE, hlk⟩ := id hC
  subst hp
  exact lv_ixor hx hb hdg (kk r hr hC H locs ls hP hD hS hl)
theorem zk_ishr {x y : Int32} (hdg : decode cc pc = .ok (.ishr, 1)) (pc' : Nat) (hp : pc + 1 = pc') (kk : zk_G E l X cc nL ret own Ts R kc ks Q w lv pc' (.int (x >>> (y &&& 31)) :: st) o) : zk_G E l X cc nL ret own Ts R kc ks Q w lv pc (.int y :: .int x :: st) o := by
  obtain ⟨p, e, s, m, args, below, meth, c, w0⟩ := X
  intro r hr hC H locs ls hP hD hS hl
  obtain ⟨hx, hb, hml, hret, hown, hts, hE, hlk⟩ := id hC
  subst hp
  exact lv_ishr hx hb hdg (kk r hr hC H locs ls hP hD hS hl)
/-- a guard: the divisor -/
def zk_dv {α : Type} (y : Int32) (k : Option α) : Option α := if y = 0 then none else k
/-- a guard: an index -/
def zk_ck {α : Type} (i : Int32) (n : Nat) (k : Option α) : Option α := if i < 0 ∨ n ≤ i.toNatClampNeg then none else k
/-- a guard: a truth value -/
def zk_bz {α : Type} (i : Int32) (k : Option α) : Option α := if i = 0 ∨ i = 1 then k else none
theorem zk_dv_e {α : Type} {y : Int32} {k : Option α} {r : α} (h : zk_dv y k = some r) : ¬ y = 0 ∧ k = some r := by
  unfold zk_dv at h
  split at h
  · cases h
  · exact ⟨by assumption, h⟩
theorem zk_ck_e {α : Type} {i : Int32} {n : Nat} {k : Option α} {r : α} (h : zk_ck i n k = some r) : vp_in i n ∧ k = some r := by
  unfold zk_ck at h
  split at h
  · cases h
  · exact ⟨by assumption, h⟩
theorem zk_bz_e {α : Type} {i : Int32} {k : Option α} {r : α} (h : zk_bz i k = some r) : (i = 0 ∨ i = 1) ∧ k = some r := by
  unfold zk_bz at h
  split at h
  · exact ⟨by assumption, h⟩
  · cases h
def zk_rem (x y : Int32) : Int32 := x - x / y * y
theorem zk_idiv {x y : Int32} (hdg : decode cc pc = .ok (.idiv, 1)) (pc' : Nat) (hp : pc + 1 = pc') (kk : zk_G E l X cc nL ret own Ts R kc ks Q w lv pc' (.int (x / y) :: st) o) : zk_G E l X cc nL ret own Ts R kc ks Q w lv pc (.int y :: .int x :: st) (zk_dv y o) := by
  obtain ⟨p, e, s, m, args, below, meth, c, w0⟩ := X
  intro r hr hC H locs ls hP hD hS hl
  obtain ⟨hx, hb, hml, hret, hown, hts, hE, hlk⟩ := id hC
  obtain ⟨hne, hr⟩ := zk_dv_e hr
  subst hp
  exact lv_idiv hx hb hdg hne (kk r hr hC H locs ls hP hD hS hl)
theorem zk_irem {x y : Int32} (hdg : decode cc pc = .ok (.irem, 1)) (pc' : Nat) (hp : pc + 1 = pc') (kk : zk_G E l X cc nL ret own Ts R kc ks Q w lv pc' (.int (zk_rem x y) :: st) o) : zk_G E l X cc nL ret own Ts R kc ks Q w lv pc (.int y :: .int x :: st) (zk_dv y o) := by
  obtain ⟨p, e, s, m, args, below, meth, c, w0⟩ := X
  intro r hr hC H locs ls hP hD hS hl
  obtain ⟨hx, hb, hml, hret, hown, hts, hE, hlk⟩ := id hC
  obtain ⟨hne, hr⟩ := zk_dv_e hr
  subst hp
  exact lv_irem hx hb hdg hne (kk r hr hC H locs ls hP hD hS hl)
theorem zk_idivL {x y : Int32} (hdg : decode cc pc = .ok (.idiv, 1)) (hne : ¬ y = 0) (pc' : Nat) (hp : pc + 1 = pc') (kk : zk_G E l X cc nL ret own Ts R kc ks Q w lv pc' (.int (x / y) :: st) o) : zk_G E l X cc nL ret own Ts R kc ks Q w lv pc (.int y :: .int x :: st) o := by
  obtain ⟨p, e, s, m, args, below, meth, c, w0⟩ := X
  intro r hr hC H locs ls hP hD hS hl
  obtain ⟨hx, hb, hml, hret, hown, hts, hE, hlk⟩ := id hC
  subst hp
  exact lv_idiv hx hb hdg hne (kk r hr hC H locs ls hP hD hS hl)
theorem zk_iremL {x y : Int32} (hdg : decode cc pc = .ok (.irem, 1)) (hne : ¬ y = 0) (pc' : Nat) (hp : pc + 1 = pc') (kk : zk_G E l X cc nL ret own Ts R kc ks Q w lv pc' (.int (zk_rem x y) :: st) o) : zk_G E l X cc nL ret own Ts R kc ks Q w lv pc (.int y :: .int x :: st) o := by
  obtain ⟨p, e, s, m, args, below, meth, c, w0⟩ := X
  intro r hr hC H locs ls hP hD hS hl
  obtain ⟨hx, hb, hml, hret, hown, hts, hE, hlk⟩ := id hC
  subst hp
  exact lv_irem hx hb hdg hne (kk r hr hC H locs ls hP hD hS hl)
theorem zk_i2c {x : Int32} (hdg : decode cc pc = .ok (.i2c, 1)) (pc' : Nat) (hp : pc + 1 = pc') (kk : zk_G E l X cc nL ret own Ts R kc ks Q w lv pc' (.int ((x.toUInt32 % 65536).toInt32) :: st) o) : zk_G E l X cc nL ret own Ts R kc ks Q w lv pc (.int x :: st) o := by
  obtain ⟨p, e, s, m, args, below, meth, c, w0⟩ := X
  intro r hr hC H locs ls hP hD hS hl
  obtain ⟨hx, hb, hml, hret, hown, hts, hE, hlk⟩ := id hC
  subst hp
  exact lv_i2c hx hb hdg rfl (kk r hr hC H locs ls hP hD hS hl)
theorem zk_null (hdg : decode cc pc = .ok (.aconst_null, 1)) (pc' : Nat) (hp : pc + 1 = pc') (kk : zk_G E l X cc nL ret own Ts R kc ks Q w lv pc' (.null :: st) o) : zk_G E l X cc nL ret own Ts R kc ks Q w lv pc (st) o := by
  obtain ⟨p, e, s, m, args, below, meth, c, w0⟩ := X
  intro r hr hC H locs ls hP hD hS hl
  obtain ⟨hx, hb, hml, hret, hown, hts, hE, hlk⟩ := id hC
  subst hp
  exact lv_null hx hb hdg (kk r hr hC H locs ls hP hD hS hl)
theorem zk_dup {v : Value} (hdg : decode cc pc = .ok (.dup, 1)) (hv : v.category = 1) (pc' : Nat) (hp : pc + 1 = pc') (kk : zk_G E l X cc nL ret own Ts R kc ks Q w lv pc' (v :: v :: st) o) : zk_G E l X cc nL ret own Ts R kc ks Q w lv pc (v :: st) o := by
  obtain ⟨p, e, s, m, args, below, meth, c, w0⟩ := X
  intro r hr hC H locs ls hP hD hS hl
  obtain ⟨hx, hb, hml, hret, hown, hts, hE, hlk⟩ := id hC
  subst hp
  exact lv_dup hx hb hdg hv (kk r hr hC H locs ls hP hD hS hl)
theorem zk_dup2 {v u : Value} (hdg : decode cc pc = .ok (.dup2, 1)) (hv : v.category = 1) (hu : u.category = 1) (pc' : Nat) (hp : pc + 1 = pc') (kk : zk_G E l X cc nL ret own Ts R kc ks Q w lv pc' (v :: u :: v :: u :: st) o) : zk_G E l X cc nL ret own Ts R kc ks Q w lv pc (v :: u :: st) o := by
  obtain ⟨p, e, s, m, args, below, meth, c, w0⟩ := X
  intro r hr hC H locs ls hP hD hS hl
  obtain ⟨hx, hb, hml, hret, hown, hts, hE, hlk⟩ := id hC
  subst hp
  exact lv_dup2_11 hx hb hdg hv hu (kk r hr hC H locs ls hP hD hS hl)
theorem zk_pop {v : Value} (hdg : decode cc pc = .ok (.pop, 1)) (hv : v.category = 1) (pc' : Nat) (hp : pc + 1 = pc') (kk : zk_G E l X cc nL ret own Ts R kc ks Q w lv pc' (st) o) : zk_G E l X cc nL ret own Ts R kc ks Q w lv pc (v :: st) o := by
  obtain ⟨p, e, s, m, args, below, meth, c, w0⟩ := X
  intro r hr hC H locs ls hP hD hS hl
  obtain ⟨hx, hb, hml, hret, hown, hts, hE, hlk⟩ := id hC
  subst hp
  exact lv_pop hx hb hdg hv (kk r hr hC H locs ls hP hD hS hl)
theorem zk_goto {off : Int} (hdg : decode cc pc = .ok (.goto off, 3)) (tgt : Nat) (ht : (pc : Int) + off = (tgt : Int)) (kk : zk_G E l X cc nL ret own Ts R kc ks Q w lv tgt (st) o) : zk_G E l X cc nL ret own Ts R kc ks Q w lv pc (st) o := by
  obtain ⟨p, e, s, m, args, below, meth, c, w0⟩ := X
  intro r hr hC H locs ls hP hD hS hl
  obtain ⟨hx, hb, hml, hret, hown, hts, hE, hlk⟩ := id hC
  exact lv_goto hx hb hdg ht (kk r hr hC H locs ls hP hD hS hl)
theorem zk_if_eq {x : Int32} {off : Int} {a b : Option ρ} (hdg : decode cc pc = .ok (.ifCond .eq off, 3)) (tgt : Nat) (ht : (pc : Int) + off = (tgt : Int)) (pc' : Nat) (hp : pc + 3 = pc') (kt : x = 0 → zk_G E l X cc nL ret own Ts R kc ks Q w lv tgt (st) a) (kf : ¬ x = 0 → zk_G E l X cc nL ret own Ts R kc ks Q w lv pc' (st) b) : zk_G E l X cc nL ret own Ts R kc ks Q w lv pc (.int x :: st) (if x = 0 then a else b) := by
  obtain ⟨p, e, s, m, args, below, meth, c, w0⟩ := X
  intro r hr hC H locs ls hP hD hS hl
  obtain ⟨hx, hb, hml, hret, hown, hts, hE, hlk⟩ := id hC
  subst hp
  refine lv_if_eq hx hb hdg ht (fun c0 => ?_) (fun c0 => ?_)
  · rw [if_pos c0] at hr
    exact kt c0 r hr hC H locs ls hP hD hS hl
  · rw [if_neg c0] at hr
    exact kf c0 r hr hC H locs ls hP hD hS hl
theorem zk_icmp_eq {x y : Int32} {off : Int} {a b : Option ρ} (hdg : decode cc pc = .ok (.if_icmp .eq off, 3)) (tgt : Nat) (ht : (pc : Int) + off = (tgt : Int)) (pc' : Nat) (hp : pc + 3 = pc') (kt : x = y → zk_G E l X cc nL ret own Ts R kc ks Q w lv tgt (st) a) (kf : ¬ x = y → zk_G E l X cc nL ret own Ts R kc ks Q w lv pc' (st) b) : zk_G E l X cc nL ret own Ts R kc ks Q w lv pc (.int y :: .int x :: st) (if x = y then a else b) := by
  obtain ⟨p, e, s, m, args, below, meth, c, w0⟩ := X
  intro r hr hC H locs ls hP hD hS hl
  obtain ⟨hx, hb, hml, hret, hown, hts, hE, hlk⟩ := id hC
  subst hp
  refine lv_icmp_eq hx hb hdg ht (fun c0 => ?_) (fun c0 => ?_)
  · rw [if_pos c0] at hr
    exact kt c0 r hr hC H locs ls hP hD hS hl
  · rw [if_neg c0] at hr
    exact kf c0 r hr hC H locs ls hP hD hS hl
theorem zk_if_ne {x : Int32} {off : Int} {a b : Option ρ} (hdg : decode cc pc = .ok (.ifCond .ne off, 3)) (tgt : Nat) (ht : (pc : Int) + off = (tgt : Int)) (pc' : Nat) (hp : pc + 3 = pc') (kf : x = 0 → zk_G E l X cc nL ret own Ts R kc ks Q w lv pc' (st) a) (kt : ¬ x = 0 → zk_G E l X cc nL ret own Ts R kc ks Q w lv tgt (st) b) : zk_G E l X cc nL ret own Ts R kc ks Q w lv pc (.int x :: st) (if x = 0 then a else b) := by
  obtain ⟨p, e, s, m, args, below, meth, c, w0⟩ := X
  intro r hr hC H locs ls hP hD hS hl
  obtain ⟨hx, hb, hml, hret, hown, hts, hE, hlk⟩ := id hC
  subst hp
  refine lv_if_ne hx hb hdg ht (fun c0 => ?_) (fun c0 => ?_)
  · rw [if_neg c0] at hr
    exact kt c0 r hr hC H locs ls hP hD hS hl
  · rw [if_pos c0] at hr
    exact kf c0 r hr hC H locs ls hP hD hS hl
theorem zk_icmp_ne {x y : Int32} {off : Int} {a b : Option ρ} (hdg : decode cc pc = .ok (.if_icmp .ne off, 3)) (tgt : Nat) (ht : (pc : Int) + off = (tgt : Int)) (pc' : Nat) (hp : pc + 3 = pc') (kf : x = y → zk_G E l X cc nL ret own Ts R kc ks Q w lv pc' (st) a) (kt : ¬ x = y → zk_G E l X cc nL ret own Ts R kc ks Q w lv tgt (st) b) : zk_G E l X cc nL ret own Ts R kc ks Q w lv pc (.int y :: .int x :: st) (if x = y then a else b) := by
  obtain ⟨p, e, s, m, args, below, meth, c, w0⟩ := X
  intro r hr hC H locs ls hP hD hS hl
  obtain ⟨hx, hb, hml, hret, hown, hts, hE, hlk⟩ := id hC
  subst hp
  refine lv_icmp_ne hx hb hdg ht (fun c0 => ?_) (fun c0 => ?_)
  · rw [if_neg c0] at hr
    exact kt c0 r hr hC H locs ls hP hD hS hl
  · rw [if_pos c0] at hr
    exact kf c0 r hr hC H locs ls hP hD hS hl
theorem zk_if_lt {x : Int32} {off : Int} {a b : Option ρ} (hdg : decode cc pc = .ok (.ifCond .lt off, 3)) (tgt : Nat) (ht : (pc : Int) + off = (tgt : Int)) (pc' : Nat) (hp : pc + 3 = pc') (kt : x < 0 → zk_G E l X cc nL ret own Ts R kc ks Q w lv tgt (st) a) (kf : ¬ x < 0 → zk_G E l X cc nL ret own Ts R kc ks Q w lv pc' (st) b) : zk_G E l X cc nL ret own Ts R kc ks Q w lv pc (.int x :: st) (if x < 0 then a else b) := by
  obtain ⟨p, e, s, m, args, below, meth, c, w0⟩ := X
  intro r hr hC H locs ls hP hD hS hl
  obtain ⟨hx, hb, hml, hret, hown, hts, hE, hlk⟩ := id hC
  subst hp
  refine lv_if_lt hx hb hdg ht (fun c0 => ?_) (fun c0 => ?_)
  · rw [if_pos c0] at hr
    exact kt c0 r hr hC H locs ls hP hD hS hl
  · rw [if_neg c0] at hr
    exact kf c0 r hr hC H locs ls hP hD hS hl
theorem zk_icmp_lt {x y : Int32} {off : Int} {a b : Option ρ} (hdg : decode cc pc = .ok (.if_icmp .lt off, 3)) (tgt : Nat) (ht : (pc : Int) + off = (tgt : Int)) (pc' : Nat) (hp : pc + 3 = pc') (kt : x < y → zk_G E l X cc nL ret own Ts R kc ks Q w lv tgt (st) a) (kf : ¬ x < y → zk_G E l X cc nL ret own Ts R kc ks Q w lv pc' (st) b) : zk_G E l X cc nL ret own Ts R kc ks Q w lv pc (.int y :: .int x :: st) (if x < y then a else b) := by
  obtain ⟨p, e, s, m, args, below, meth, c, w0⟩ := X
  intro r hr hC H locs ls hP hD hS hl
  obtain ⟨hx, hb, hml, hret, hown, hts, hE, hlk⟩ := id hC
  subst hp
  refine lv_icmp_lt hx hb hdg ht (fun c0 => ?_) (fun c0 => ?_)
  · rw [if_pos c0] at hr
    exact kt c0 r hr hC H locs ls hP hD hS hl
  · rw [if_neg c0] at hr
    exact kf c0 r hr hC H locs ls hP hD hS hl
theorem zk_if_ge {x : Int32} {off : Int} {a b : Option ρ} (hdg : decode cc pc = .ok (.ifCond .ge off, 3)) (tgt : Nat) (ht : (pc : Int) + off = (tgt : Int)) (pc' : Nat) (hp : pc + 3 = pc') (kt : 0 ≤ x → zk_G E l X cc nL ret own Ts R kc ks Q w lv tgt (st) a) (kf : ¬ 0 ≤ x → zk_G E l X cc nL ret own Ts R kc ks Q w lv pc' (st) b) : zk_G E l X cc nL ret own Ts R kc ks Q w lv pc (.int x :: st) (if 0 ≤ x then a else b) := by
  obtain ⟨p, e, s, m, args, below, meth, c, w0⟩ := X
  intro r hr hC H locs ls hP hD hS hl
  obtain ⟨hx, hb, hml, hret, hown, hts, hE, hlk⟩ := id hC
  subst hp
  refine lv_if_ge hx hb hdg ht (fun c0 => ?_) (fun c0 => ?_)
  · rw [if_pos c0] at hr
    exact kt c0 r hr hC H locs ls hP hD hS hl
  · rw [if_neg c0] at hr
    exact kf c0 r hr hC H locs ls hP hD hS hl
theorem zk_icmp_ge {x y : Int32} {off : Int} {a b : Option ρ} (hdg : decode cc pc = .ok (.if_icmp .ge off, 3)) (tgt : Nat) (ht : (pc : Int) + off = (tgt : Int)) (pc' : Nat) (hp : pc + 3 = pc') (kt : y ≤ x → zk_G E l X cc nL ret own Ts R kc ks Q w lv tgt (st) a) (kf : ¬ y ≤ x → zk_G E l X cc nL ret own Ts R kc ks Q w lv pc' (st) b) : zk_G E l X cc nL ret own Ts R kc ks Q w lv pc (.int y :: .int x :: st) (if y ≤ x then a else b) := by
  obtain ⟨p, e, s, m, args, below, meth, c, w0⟩ := X
  intro r hr hC H locs ls hP hD hS hl
  obtain ⟨hx, hb, hml, hret, hown, hts, hE, hlk⟩ := id hC
  subst hp
  refine lv_icmp_ge hx hb hdg ht (fun c0 => ?_) (fun c0 => ?_)
  · rw [if_pos c0] at hr
    exact kt c0 r hr hC H locs ls hP hD hS hl
  · rw [if_neg c0] at hr
    exact kf c0 r hr hC H locs ls hP hD hS hl
theorem zk_if_gt {x : Int32} {off : Int} {a b : Option ρ} (hdg : decode cc pc = .ok (.ifCond .gt off, 3)) (tgt : Nat) (ht : (pc : Int) + off = (tgt : Int)) (pc' : Nat) (hp : pc + 3 = pc') (kt : 0 < x → zk_G E l X cc nL ret own Ts R kc ks Q w lv tgt (st) a) (kf : ¬ 0 < x → zk_G E l X cc nL ret own Ts R kc ks Q w lv pc' (st) b) : zk_G E l X cc nL ret own Ts R kc ks Q w lv pc (.int x :: st) (if 0 < x then a else b) := by
  obtain ⟨p, e, s, m, args, below, meth, c, w0⟩ := X
  intro r hr hC H locs ls hP hD hS hl
  obtain ⟨hx, hb, hml, hret, hown, hts, hE, hlk⟩ := id hC
  subst hp
  refine lv_if_gt hx hb hdg ht (fun c0 => ?_) (fun c0 => ?_)
  · rw [if_pos c0] at hr
    exact kt c0 r hr hC H locs ls hP hD hS hl
  · rw [if_neg c0] at hr
    exact kf c0 r hr hC H locs ls hP hD hS hl
theorem zk_icmp_gt {x y : Int32} {off : Int} {a b : Option ρ} (hdg : decode cc pc = .ok (.if_icmp .gt off, 3)) (tgt : Nat) (ht : (pc : Int) + off = (tgt : Int)) (pc' : Nat) (hp : pc + 3 = pc') (kt : y < x → zk_G E l X cc nL ret own Ts R kc ks Q w lv tgt (st) a) (kf : ¬ y < x → zk_G E l X cc nL ret own Ts R kc ks Q w lv pc' (st) b) : zk_G E l X cc nL ret own Ts R kc ks Q w lv pc (.int y :: .int x :: st) (if y < x then a else b) := by
  obtain ⟨p, e, s, m, args, below, meth, c, w0⟩ := X
  intro r hr hC H locs ls hP hD hS hl
  obtain ⟨hx, hb, hml, hret, hown, hts, hE, hlk⟩ := id hC
  subst hp
  refine lv_icmp_gt hx hb hdg ht (fun c0 => ?_) (fun c0 => ?_)
  · rw [if_pos c0] at hr
    exact kt c0 r hr hC H locs ls hP hD hS hl
  · rw [if_neg c0] at hr
    exact kf c0 r hr hC H locs ls hP hD hS hl
theorem zk_if_le {x : Int32} {off : Int} {a b : Option ρ} (hdg : decode cc pc = .ok (.ifCond .le off, 3)) (tgt : Nat) (ht : (pc : Int) + off = (tgt : Int)) (pc' : Nat) (hp : pc + 3 = pc') (kt : x ≤ 0 → zk_G E l X cc nL ret own Ts R kc ks Q w lv tgt (st) a) (kf : ¬ x ≤ 0 → zk_G E l X cc nL ret own Ts R kc ks Q w lv pc' (st) b) : zk_G E l X cc nL ret own Ts R kc ks Q w lv pc (.int x :: st) (if x ≤ 0 then a else b) := by
  obtain ⟨p, e, s, m, args, below, meth, c, w0⟩ := X
  intro r hr hC H locs ls hP hD hS hl
  obtain ⟨hx, hb, hml, hret, hown, hts, hE, hlk⟩ := id hC
  subst hp
  refine lv_if_le hx hb hdg ht (fun c0 => ?_) (fun c0 => ?_)
  · rw [if_pos c0] at hr
    exact kt c0 r hr hC H locs ls hP hD hS hl
  · rw [if_neg c0] at hr
    exact kf c0 r hr hC H locs ls hP hD hS hl
theorem zk_icmp_le {x y : Int32} {off : Int} {a b : Option ρ} (hdg : decode cc pc = .ok (.if_icmp .le off, 3)) (tgt : Nat) (ht : (pc : Int) + off = (tgt : Int)) (pc' : Nat) (hp : pc + 3 = pc') (kt : x ≤ y → zk_G E l X cc nL ret own Ts R kc ks Q w lv tgt (st) a) (kf : ¬ x ≤ y → zk_G E l X cc nL ret own Ts R kc ks Q w lv pc' (st) b) : zk_G E l X cc nL ret own Ts R kc ks Q w lv pc (.int y :: .int x :: st) (if x ≤ y then a else b) := by
  obtain ⟨p, e, s, m, args, below, meth, c, w0⟩ := X
  intro r hr hC H locs ls hP hD hS hl
  obtain ⟨hx, hb, hml, hret, hown, hts, hE, hlk⟩ := id hC
  subst hp
  refine lv_icmp_le hx hb hdg ht (fun c0 => ?_) (fun c0 => ?_)
  · rw [if_pos c0] at hr
    exact kt c0 r hr hC H locs ls hP hD hS hl
  · rw [if_neg c0] at hr
    exact kf c0 r hr hC H locs ls hP hD hS hl
theorem zk_ifnull {x : Nat} {off : Int} (hdg : decode cc pc = .ok (.ifnull off, 3)) (pc' : Nat) (hp : pc + 3 = pc') (kk : zk_G E l X cc nL ret own Ts R kc ks Q w lv pc' (st) o) : zk_G E l X cc nL ret own Ts R kc ks Q w lv pc (.ref x :: st) o := by
  obtain ⟨p, e, s, m, args, below, meth, c, w0⟩ := X
  intro r hr hC H locs ls hP hD hS hl
  obtain ⟨hx, hb, hml, hret, hown, hts, hE, hlk⟩ := id hC
  subst hp
  exact lv_ifnull hx hb hdg (kk r hr hC H locs ls hP hD hS hl)
theorem zk_ifnonnull {x : Nat} {off : Int} (hdg : decode cc pc = .ok (.ifnonnull off, 3)) (tgt : Nat) (ht : (pc : Int) + off = (tgt : Int)) (kk : zk_G E l X cc nL ret own Ts R kc ks Q w lv tgt (st) o) : zk_G E l X cc nL ret own Ts R kc ks Q w lv pc (.ref x :: st) o := by
  obtain ⟨p, e, s, m, args, below, meth, c, w0⟩ := X
  intro r hr hC H locs ls hP hD hS hl
  obtain ⟨hx, hb, hml, hret, hown, hts, hE, hlk⟩ := id hC
  exact lv_ifnonnull hx hb hdg ht (kk r hr hC H locs ls hP hD hS hl)
theorem zk_ifnullN {off : Int} (hdg : decode cc pc = .ok (.ifnull off, 3)) (tgt : Nat) (ht : (pc : Int) + off = (tgt : Int)) (kk : zk_G E l X cc nL ret own Ts R kc ks Q w lv tgt (st) o) : zk_G E l X cc nL ret own Ts R kc ks Q w lv pc (.null :: st) o := by
  obtain ⟨p, e, s, m, args, below, meth, c, w0⟩ := X
  intro r hr hC H locs ls hP hD hS hl
  obtain ⟨hx, hb, hml, hret, hown, hts, hE, hlk⟩ := id hC
  exact lv_ifnullN hx hb hdg ht (kk r hr hC H locs ls hP hD hS hl)
theorem zk_ifnonnullN {off : Int} (hdg : decode cc pc = .ok (.ifnonnull off, 3)) (pc' : Nat) (hp : pc + 3 = pc') (kk : zk_G E l X cc nL ret own Ts R kc ks Q w lv pc' (st) o) : zk_G E l X cc nL ret own Ts R kc ks Q w lv pc (.null :: st) o := by
  obtain ⟨p, e, s, m, args, below, meth, c, w0⟩ := X
  intro r hr hC H locs ls hP hD hS hl
  obtain ⟨hx, hb, hml, hret, hown, hts, hE, hlk⟩ := id hC
  subst hp
  exact lv_ifnonnullN hx hb hdg (kk r hr hC H locs ls hP hD hS hl)
theorem zk_tableIn {dflt lo hi : Int} {offs : Array Int} {len : Nat} {x : Int32} {off : Int} (hdg : decode cc pc = .ok (.tableswitch dflt lo hi offs, len)) (tgt : Nat) (h1 : ¬ x.toInt < lo) (h2 : ¬ hi < x.toInt) (ho : offs[(x.toInt - lo).toNat]? = some off) (ht : (pc : Int) + off = (tgt : Int)) (kk : zk_G E l X cc nL ret own Ts R kc ks Q w lv tgt (st) o) : zk_G E l X cc nL ret own Ts R kc ks Q w lv pc (.int x :: st) o := by
  obtain ⟨p, e, s, m, args, below, meth, c, w0⟩ := X
  intro r hr hC H locs ls hP hD hS hl
  obtain ⟨hx, hb, hml, hret, hown, hts, hE, hlk⟩ := id hC
  exact lv_tableIn hx hb hdg h1 h2 ho ht (kk r hr hC H locs ls hP hD hS hl)
theorem zk_tableOut {dflt lo hi : Int} {offs : Array Int} {len : Nat} {x : Int32} (hdg : decode cc pc = .ok (.tableswitch dflt lo hi offs, len)) (tgt : Nat) (h : x.toInt < lo ∨ hi < x.toInt) (ht : (pc : Int) + dflt = (tgt : Int)) (kk : zk_G E l X cc nL ret own Ts R kc ks Q w lv tgt (st) o) : zk_G E l X cc nL ret own Ts R kc ks Q w lv pc (.int x :: st) o := by
  obtain ⟨p, e, s, m, args, below, meth, c, w0⟩ := X
  intro r hr hC H locs ls hP hD hS hl
  obtain ⟨hx, hb, hml, hret, hown, hts, hE, hlk⟩ := id hC
  exact lv_tableOut hx hb hdg h ht (kk r hr hC H locs ls hP hD hS hl)
theorem zk_lookup {dflt : Int} {ps : Array (Int × Int)} {len : Nat} {x : Int32} {off : Int} (hdg : decode cc pc = .ok (.lookupswitch dflt ps, len)) (tgt : Nat) (hp : (ps.toList.zip (ps.toList.drop 1)).all (fun (a, next) => a.1 < next.1) = true) (ho : Op.lookupswitch.offset ps.toList dflt x.toInt = off) (ht : (pc : Int) + off = (tgt : Int)) (kk : zk_G E l X cc nL ret own Ts R kc ks Q w lv tgt (st) o) : zk_G E l X cc nL ret own Ts R kc ks Q w lv pc (.int x :: st) o := by
  obtain ⟨p, e, s, m, args, below, meth, c, w0⟩ := X
  intro r hr hC H locs ls hP hD hS hl
  obtain ⟨hx, hb, hml, hret, hown, hts, hE, hlk⟩ := id hC
  exact lv_lookup hx hb hdg hp ho ht (kk r hr hC H locs ls hP hD hS hl)
theorem zk_if {a b : Option ρ} {c : Prop} [Decidable c] (kt : c → zk_G E l X cc nL ret own Ts R kc ks Q w lv pc (st) a) (kf : ¬ c → zk_G E l X cc nL ret own Ts R kc ks Q w lv pc (st) b) : zk_G E l X cc nL ret own Ts R kc ks Q w lv pc (st) (if c then a else b) := by
  by_cases h : c
  · rw [if_pos h]
    exact kt h
  · rw [if_neg h]
    exact kf h
theorem zk_get {C : String} {T : u_T} {N ci index : Nat} {a : Nat} {fs : List Value} {v : Value} (hdg : decode cc pc = .ok (.getfield index, 3)) (q0 : Nat) (he : w[q0]? = some (a, .inr (ci, fs))) (hc : vwCl[ci]? = some (C, T, N)) (hin : ∀ x ∈ u_ws C T N, x ∈ Ts) (k : Nat) (hk : k < N) (hlink : Cond.fieldLink own index (T k).1 (T k).2.1 (T k).2.2.1 ∈ Ts) (hv : fs[k]? = some v) (pc' : Nat) (hp : pc + 3 = pc') (kk : zk_G E l X cc nL ret own Ts R kc ks Q w lv pc' (v :: st) o) : zk_G E l X cc nL ret own Ts R kc ks Q w lv pc (.ref a :: st) o := by
  obtain ⟨p, e, s, m, args, below, meth, c, w0⟩ := X
  intro r hr hC H locs ls hP hD hS hl
  obtain ⟨hx, hb, hml, hret, hown, hts, hE, hlk⟩ := id hC
  subst hp
  exact va_get (D := E.1) (ci := ci) (C := C) (T := T) (N := N) (ref := (T k).1) hx hb hts hin hown hE.1 hP q0 he hc k hk (hts _ hlink) (fun _ h9 => h9) hv hdg (kk r hr hC H locs ls hP hD hS hl)
theorem zk_getN {C : String} {T : u_T} {N ci index : Nat} {a : Nat} {fs : List Value} {v : Value} (hdg : decode cc pc = .ok (.getfield index, 3)) (q0 : Nat) (he : w[q0]? = some (a, .inr (ci, fs))) (hc : vwCl[ci]? = some (C, T, N)) (hin : ∀ x ∈ u_ws C T N, x ∈ Ts) (k : Nat) (hk : k < N) (hlink : (own, index, (T k).1, (T k).2.1, (T k).2.2.1) ∈ zk_NF) (hv : fs[k]? = some v) (pc' : Nat) (hp : pc + 3 = pc') (kk : zk_G E l X cc nL ret own Ts R kc ks Q w lv pc' (v :: st) o) : zk_G E l X cc nL ret own Ts R kc ks Q w lv pc (.ref a :: st) o := by
  obtain ⟨p, e, s, m, args, below, meth, c, w0⟩ := X
  intro r hr hC H locs ls hP hD hS hl
  obtain ⟨hx, hb, hml, hret, hown, hts, hE, hlk⟩ := id hC
  subst hp
  exact va_getN (D := E.1) (ci := ci) (C := C) (T := T) (N := N) (ref := (T k).1) (host := RX9) hx hb hts hin hown hE.1 hP q0 he hc k hk (va_Nw.use rfl (hE.2.1 _ hlink)) (fun _ h9 => h9) hv hdg (kk r hr hC H locs ls hP hD hS hl)
theorem zk_put_ {C : String} {T : u_T} {N ci index : Nat} {a : Nat} {fs : List Value} (ty0 : Nat → FieldType) {ty : FieldType} {v : Value} (w1 : va_W) (hdg : decode cc pc = .ok (.putfield index, 3)) (q0 : Nat) (he : w[q0]? = some (a, .inr (ci, fs))) (hc : vwCl[ci]? = some (C, T, N)) (hin : ∀ x ∈ u_ws C T N, x ∈ Ts) (hty : ∀ k, k < N → parseFieldDescriptor (T k).2.2.1 = some (ty0 k)) (hnm : ∀ a, a < N → ∀ b, b < N → a ≠ b → (T a).2.1 ≠ (T b).2.1) (k : Nat) (hk : k < N) (hlink : Cond.fieldLink own index (T k).1 (T k).2.1 (T k).2.2.1 ∈ Ts) (hfin : (T k).2.2.2 = false) (hd : parseFieldDescriptor (T k).2.2.1 = some ty) (hn : narrow ty v = v) (hfit : fits ty v = true) (hln : k < fs.length) (hw : w.set q0 (a, .inr (ci, fs.set k v)) = w1) (pc' : Nat) (hp : pc + 3 = pc') (kk : zk_G E l X cc nL ret own Ts R kc ks Q w1 lv pc' (st) o) : zk_G E l X cc nL ret own Ts R kc ks Q w lv pc (v :: .ref a :: st) o := by
  obtain ⟨p, e, s, m, args, below, meth, c, w0⟩ := X
  intro r hr hC H locs ls hP hD hS hl
  obtain ⟨hx, hb, hml, hret, hown, hts, hE, hlk⟩ := id hC
  subst hp
  subst hw
  exact va_put (D := E.1) (ci := ci) (C := C) (T := T) (N := N) (ref := (T k).1) hx hb hts hin ty0 hty hnm hown hE.1 hP hD hS q0 he hc k hk (hts _ hlink) (fun _ h9 => h9) hfin hd hn hfit hln hdg (fun H1 locs1 hP1 hD1 hS1 => kk r hr hC H1 locs1 ls hP1 hD1 hS1 hl)
theorem zk_putN {C : String} {T : u_T} {N ci index : Nat} {a : Nat} {fs : List Value} (ty0 : Nat → FieldType) {ty : FieldType} {v : Value} (w1 : va_W) (hdg : decode cc pc = .ok (.putfield index, 3)) (q0 : Nat) (he : w[q0]? = some (a, .inr (ci, fs))) (hc : vwCl[ci]? = some (C, T, N)) (hin : ∀ x ∈ u_ws C T N, x ∈ Ts) (hty : ∀ k, k < N → parseFieldDescriptor (T k).2.2.1 = some (ty0 k)) (hnm : ∀ a, a < N → ∀ b, b < N → a ≠ b → (T a).2.1 ≠ (T b).2.1) (k : Nat) (hk : k < N) (hlink : (own, index, (T k).1, (T k).2.1, (T k).2.2.1) ∈ zk_NF) (hfin : (T k).2.2.2 = false) (hd : parseFieldDescriptor (T k).2.2.1 = some ty) (hn : narrow ty v = v) (hfit : fits ty v = true) (hln : k < fs.length) (hw : w.set q0 (a, .inr (ci, fs.set k v)) = w1) (pc' : Nat) (hp : pc + 3 = pc') (kk : zk_G E l X cc nL ret own Ts R kc ks Q w1 lv pc' (st) o) : zk_G E l X cc nL ret own Ts R kc ks Q w lv pc (v :: .ref a :: st) o := by
  obtain ⟨p, e, s, m, args, below, meth, c, w0⟩ := X
  intro r hr hC H locs ls hP hD hS hl
  obtain ⟨hx, hb, hml, hret, hown, hts, hE, hlk⟩ := id hC
  subst hp
  subst hw
  exact va_putN (D := E.1) (ci := ci) (C := C) (T := T) (N := N) (ref := (T k).1) (host := RX9) hx hb hts hin ty0 hty hnm hown hE.1 hP hD hS q0 he hc k hk (va_Nw.use rfl (hE.2.1 _ hlink)) (fun _ h9 => h9) hfin hd hn hfit hln hdg (fun H1 locs1 hP1 hD1 hS1 => kk r hr hC H1 locs1 ls hP1 hD1 hS1 hl)
theorem zk_putF {C : String} {T : u_T} {N ci index : Nat} {a : Nat} {fs : List Value} (ty0 : Nat → FieldType) {ty : FieldType} {v : Value} (w1 : va_W) (hdg : decode cc pc = .ok (.putfield index, 3)) (q0 : Nat) (he : w[q0]? = some (a, .inr (ci, fs))) (hc : vwCl[ci]? = some (C, T, N)) (hin : ∀ x ∈ u_ws C T N, x ∈ Ts) (hty : ∀ k, k < N → parseFieldDescriptor (T k).2.2.1 = some (ty0 k)) (hnm : ∀ a, a < N → ∀ b, b < N → a ≠ b → (T a).2.1 ≠ (T b).2.1) (k : Nat) (hk : k < N) (hlink : Cond.fieldLink own index (T k).1 (T k).2.1 (T k).2.2.1 ∈ Ts) (hfin : (T k).2.2.2 = true) (hinit : X.2.2.2.2.2.2.1.name = "<init>") (hdecl : (T k).1 = own) (hd : parseFieldDescriptor (T k).2.2.1 = some ty) (hn : narrow ty v = v) (hfit : fits ty v = true) (hln : k < fs.length) (hw : w.set q0 (a, .inr (ci, fs.set k v)) = w1) (pc' : Nat) (hp : pc + 3 = pc') (kk : zk_G E l X cc nL ret own Ts R kc ks Q w1 lv pc' (st) o) : zk_G E l X cc nL ret own Ts R kc ks Q w lv pc (v :: .ref a :: st) o := by
  obtain ⟨p, e, s, m, args, below, meth, c, w0⟩ := X
  intro r hr hC H locs ls hP hD hS hl
  obtain ⟨hx, hb, hml, hret, hown, hts, hE, hlk⟩ := id hC
  subst hp
  subst hw
  exact va_putF (D := E.1) (ci := ci) (C := C) (T := T) (N := N) (ref := (T k).1) hx hb hts hin ty0 hty hnm hown hE.1 hP hD hS q0 he hc k hk (hts _ hlink) (fun _ h9 => h9) hfin hinit hdecl hd hn hfit hln hdg (fun H1 locs1 hP1 hD1 hS1 => kk r hr hC H1 locs1 ls hP1 hD1 hS1 hl)
theorem zk_iald {a n : Nat} {f : Nat → Int32} {i : Int32} (hdg : decode cc pc = .ok (.iaload, 1)) (q0 : Nat) (ha : w[q0]? = some (a, .inl (zk_ci E, n, .inl f))) (pc' : Nat) (hp : pc + 1 = pc') (kk : zk_G E l X cc nL ret own Ts R kc ks Q w lv pc' (.int (f i.toNatClampNeg) :: st) o) : zk_G E l X cc nL ret own Ts R kc ks Q w lv pc (.int i :: .ref a :: st) (zk_ck i n o) := by
  obtain ⟨p, e, s, m, args, below, meth, c, w0⟩ := X
  intro r hr hC H locs ls hP hD hS hl
  obtain ⟨hx, hb, hml, hret, hown, hts, hE, hlk⟩ := id hC
  obtain ⟨hin, hr⟩ := zk_ck_e hr
  subst hp
  exact va_iald hx hb hE.1 hP q0 0 ha rfl hin hdg (kk r hr hC H locs ls hP hD hS hl)
theorem zk_zald {a n : Nat} {f : Nat → Int32} {i : Int32} (hdg : decode cc pc = .ok (.baload, 1)) (q0 : Nat) (ha : w[q0]? = some (a, .inl (zk_cz E, n, .inl f))) (pc' : Nat) (hp : pc + 1 = pc') (kk : zk_G E l X cc nL ret own Ts R kc ks Q w lv pc' (.int (f i.toNatClampNeg) :: st) o) : zk_G E l X cc nL ret own Ts R kc ks Q w lv pc (.int i :: .ref a :: st) (zk_ck i n o) := by
  obtain ⟨p, e, s, m, args, below, meth, c, w0⟩ := X
  intro r hr hC H locs ls hP hD hS hl
  obtain ⟨hx, hb, hml, hret, hown, hts, hE, hlk⟩ := id hC
  obtain ⟨hin, hr⟩ := zk_ck_e hr
  subst hp
  exact va_zald hx hb hE.1 hP q0 1 ha rfl hin hdg (kk r hr hC H locs ls hP hD hS hl)
theorem zk_iast {a n : Nat} {f : Nat → Int32} {i x : Int32} (w1 : va_W) (hdg : decode cc pc = .ok (.iastore, 1)) (q0 : Nat) (ha : w[q0]? = some (a, .inl (zk_ci E, n, .inl f))) (hw : w.set q0 (a, .inl (zk_ci E, n, .inl (upd f i.toNatClampNeg x))) = w1) (pc' : Nat) (hp : pc + 1 = pc') (kk : zk_G E l X cc nL ret own Ts R kc ks Q w1 lv pc' (st) o) : zk_G E l X cc nL ret own Ts R kc ks Q w lv pc (.int x :: .int i :: .ref a :: st) (zk_ck i n o) := by
  obtain ⟨p, e, s, m, args, below, meth, c, w0⟩ := X
  intro r hr hC H locs ls hP hD hS hl
  obtain ⟨hx, hb, hml, hret, hown, hts, hE, hlk⟩ := id hC
  obtain ⟨hin, hr⟩ := zk_ck_e hr
  subst hp
  subst hw
  exact va_iast hx hb hE.1 hP hD hS q0 0 ha rfl hin hdg (fun H1 locs1 hP1 hD1 hS1 => kk r hr hC H1 locs1 ls hP1 hD1 hS1 hl)
theorem zk_zast {a n : Nat} {f : Nat → Int32} {i x : Int32} (w1 : va_W) (hdg : decode cc pc = .ok (.bastore, 1)) (q0 : Nat) (ha : w[q0]? = some (a, .inl (zk_cz E, n, .inl f))) (hw : w.set q0 (a, .inl (zk_cz E, n, .inl (upd f i.toNatClampNeg (vp_nar .boolean x)))) = w1) (pc' : Nat) (hp : pc + 1 = pc') (kk : zk_G E l X cc nL ret own Ts R kc ks Q w1 lv pc' (st) o) : zk_G E l X cc nL ret own Ts R kc ks Q w lv pc (.int x :: .int i :: .ref a :: st) (zk_ck i n o) := by
  obtain ⟨p, e, s, m, args, below, meth, c, w0⟩ := X
  intro r hr hC H locs ls hP hD hS hl
  obtain ⟨hx, hb, hml, hret, hown, hts, hE, hlk⟩ := id hC
  obtain ⟨hin, hr⟩ := zk_ck_e hr
  subst hp
  subst hw
  exact va_zast hx hb hE.1 hP hD hS q0 1 ha rfl hin hdg (fun H1 locs1 hP1 hD1 hS1 => kk r hr hC H1 locs1 ls hP1 hD1 hS1 hl)
theorem zk_aald {a n : Nat} {f : Nat → Option Nat} {i : Int32} {cA : ClassId} {CA : String} (t0 : Nat) (hdg : decode cc pc = .ok (.aaload, 1)) (q0 : Nat) (ha : w[q0]? = some (a, .inl (cA, n, .inr (.inr (.inr (.inr f)))))) (ht : (zk_T E)[t0]? = some (cA, .object CA)) (pc' : Nat) (hp : pc + 1 = pc') (kk : vp_in i n → zk_G E l X cc nL ret own Ts R kc ks Q w lv pc' (va_rf (f i.toNatClampNeg) :: st) o) : zk_G E l X cc nL ret own Ts R kc ks Q w lv pc (.int i :: .ref a :: st) (zk_ck i n o) := by
  obtain ⟨p, e, s, m, args, below, meth, c, w0⟩ := X
  intro r hr hC H locs ls hP hD hS hl
  obtain ⟨hx, hb, hml, hret, hown, hts, hE, hlk⟩ := id hC
  obtain ⟨hin, hr⟩ := zk_ck_e hr
  subst hp
  exact va_aldq hx hb hE.1 hP q0 t0 ha ht hin hdg (kk hin r hr hC H locs ls hP hD hS hl)
theorem zk_alen {a : Nat} {cA : ClassId} {x : vp_A} {ty : FieldType} (v : Int32) (t0 : Nat) (hdg : decode cc pc = .ok (.arraylength, 1)) (q0 : Nat) (ha : w[q0]? = some (a, .inl (cA, x))) (ht : (zk_T E)[t0]? = some (cA, ty)) (hv : Int32.ofNat x.1 = v) (pc' : Nat) (hp : pc + 1 = pc') (kk : zk_G E l X cc nL ret own Ts R kc ks Q w lv pc' (.int v :: st) o) : zk_G E l X cc nL ret own Ts R kc ks Q w lv pc (.ref a :: st) o := by
  obtain ⟨p, e, s, m, args, below, meth, c, w0⟩ := X
  intro r hr hC H locs ls hP hD hS hl
  obtain ⟨hx, hb, hml, hret, hown, hts, hE, hlk⟩ := id hC
  subst hp
  exact va_alen hx hb hE.1 hP q0 t0 ha ht hv hdg (kk r hr hC H locs ls hP hD hS hl)
theorem zk_mmin {x y : Int32} {index : Nat} (hdg : decode cc pc = .ok (.invokestatic index, 3)) (h1 : Cond.methodLink own index Lib.Math.min.name ∈ Ts) (h2 : Cond.static Lib.Math.min.name ∈ Ts) (h3 : Cond.initialized "java/lang/Math" ∈ Ts) (h4 : Cond.code Lib.Math.min.name Lib.Math.min.code 2 (some .int) ∈ Ts) (h5 : 1 ≤ R.frames) (h6 : (st.map fun v => v.category).sum + 13 ≤ R.locals) (h7 : kc ≤ R.cells) (h8 : ks ≤ R.slots) (pc' : Nat) (hp : pc + 3 = pc') (kk : zk_G E l X cc nL ret own Ts R kc ks Q w lv pc' (.int (if y < x then y else x) :: st) o) : zk_G E l X cc nL ret own Ts R kc ks Q w lv pc (.int y :: .int x :: st) o := by
  obtain ⟨p, e, s, m, args, below, meth, c, w0⟩ := X
  intro r hr hC H locs ls hP hD hS hl
  obtain ⟨hx, hb, hml, hret, hown, hts, hE, hlk⟩ := id hC
  subst hp
  exact va_mmin hx hb (hml.trans hl.1.symm) hown (hts _ h1) (hts _ h2) (hts _ h3) (hts _ h4) h5 h6 h7 h8 hdg (kk r hr hC H locs ls hP hD hS hl)
theorem zk_mmax {x y : Int32} {index : Nat} (hdg : decode cc pc = .ok (.invokestatic index, 3)) (h1 : Cond.methodLink own index Lib.Math.max.name ∈ Ts) (h2 : Cond.static Lib.Math.max.name ∈ Ts) (h3 : Cond.initialized "java/lang/Math" ∈ Ts) (h4 : Cond.code Lib.Math.max.name Lib.Math.max.code 2 (some .int) ∈ Ts) (h5 : 1 ≤ R.frames) (h6 : (st.map fun v => v.category).sum + 13 ≤ R.locals) (h7 : kc ≤ R.cells) (h8 : ks ≤ R.slots) (pc' : Nat) (hp : pc + 3 = pc') (kk : zk_G E l X cc nL ret own Ts R kc ks Q w lv pc' (.int (if x < y then y else x) :: st) o) : zk_G E l X cc nL ret own Ts R kc ks Q w lv pc (.int y :: .int x :: st) o := by
  obtain ⟨p, e, s, m, args, below, meth, c, w0⟩ := X
  intro r hr hC H locs ls hP hD hS hl
  obtain ⟨hx, hb, hml, hret, hown, hts, hE, hlk⟩ := id hC
  subst hp
  exact va_mmax hx hb (hml.trans hl.1.symm) hown (hts _ h1) (hts _ h2) (hts _ h3) (hts _ h4) h5 h6 h7 h8 hdg (kk r hr hC H locs ls hP hD hS hl)
theorem zk_acopy {index a0 a1 n0 n1 : Nat} {f g : Nat → Int32} {sp dp n : Int32} (N' : Nat) (w1 : va_W) (hdg : decode cc pc = .ok (.invokestatic index, 3)) (h1 : Cond.methodLink own index arraycopyName ∈ Ts) (h2 : Cond.native arraycopyName ∈ Ts) (h3 : Cond.static arraycopyName ∈ Ts) (h4 : Cond.initialized "java/lang/System" ∈ Ts) (q0 q1 : Nat) (ha0 : w[q0]? = some (a0, .inl (zk_ci E, n0, .inl f))) (ha1 : w[q1]? = some (a1, .inl (zk_ci E, n1, .inl g))) (hsp : sp = 0) (hdp : dp = 0) (hn : n = Int32.ofNat N') (hN : N' < 2 ^ 31) (hN0 : N' ≤ n0) (hN1 : N' ≤ n1) (h5 : 1 ≤ R.frames) (h6 : (st.map fun v => v.category).sum + (nativeFrameWords "java/lang/System" "arraycopy" 5 + 11) ≤ R.locals) (hw : w.set q1 (a1, .inl (zk_ci E, n1, .inl (va_cpy f g 0 0 N'))) = w1) (pc' : Nat) (hp : pc + 3 = pc') (kk : zk_G E l X cc nL ret own Ts R kc ks Q w1 lv pc' (st) o) : zk_G E l X cc nL ret own Ts R kc ks Q w lv pc (.int n :: .int dp :: .ref a1 :: .int sp :: .ref a0 :: st) o := by
  obtain ⟨p, e, s, m, args, below, meth, c, w0⟩ := X
  intro r hr hC H locs ls hP hD hS hl
  obtain ⟨hx, hb, hml, hret, hown, hts, hE, hlk⟩ := id hC
  subst hp
  subst hw
  subst hsp
  subst hdp
  have e0 : (0 : Int32).toNatClampNeg = 0 := by decide
  have eN : n.toNatClampNeg = N' := by rw [hn]; exact nI_clamp hN
  have hn0 : ¬ n < 0 := by rw [hn]; exact nI_pos hN
  refine va_copyi hx hb (hml.trans hl.1.symm) hown (hts _ h1) (hts _ h2) (hts _ h3) (hts _ h4) hE.1 hP hD hS q0 q1 0 0 ha0 ha1 rfl rfl rfl (by decide) (by decide) hn0 (by rw [e0, eN]; omega) (by rw [e0, eN]; omega) (fun _ _ => rfl) h5 h6 hdg (fun H1 locs1 hP1 hD1 hS1 => ?_)
  rw [e0, eN] at hP1 hD1
  exact kk r hr hC H1 locs1 ls hP1 hD1 hS1 hl
theorem zk_bzg {v : Int32} (kk : v = 0 ∨ v = 1 → zk_G E l X cc nL ret own Ts R kc ks Q w lv pc (st) o) : zk_G E l X cc nL ret own Ts R kc ks Q w lv pc (st) (zk_bz v o) := by
  obtain ⟨p, e, s, m, args, below, meth, c, w0⟩ := X
  intro r hr hC H locs ls hP hD hS hl
  obtain ⟨hx, hb, hml, hret, hown, hts, hE, hlk⟩ := id hC
  obtain ⟨hz, hr⟩ := zk_bz_e hr
  exact kk hz r hr hC H locs ls hP hD hS hl
theorem zk_sld {i : Int32} (hdg : decode cc pc = .ok (.iaload, 1)) (pc' : Nat) (hp : pc + 1 = pc') (kk : zk_G E l X cc nL ret own Ts R kc ks Q w lv pc' (.int (E.2.2.2.2 i.toNatClampNeg) :: st) o) : zk_G E l X cc nL ret own Ts R kc ks Q w lv pc (.int i :: .ref E.2.2.1 :: st) (zk_ck i E.2.2.2.1 o) := by
  obtain ⟨p, e, s, m, args, below, meth, c, w0⟩ := X
  intro r hr hC H locs ls hP hD hS hl
  obtain ⟨hx, hb, hml, hret, hown, hts, hE, hlk⟩ := id hC
  obtain ⟨hin, hr⟩ := zk_ck_e hr
  subst hp
  exact va_sld hx hb hE.2.2.2.1.1 hE.2.2.2.1.2.1 hE.2.2.2.1.2.2 hS hin hdg (kk r hr hC H locs ls hP hD hS hl)
theorem zk_scrl (hdg : decode cc pc = .ok (.arraylength, 1)) (pc' : Nat) (hp : pc + 1 = pc') (kk : zk_G E l X cc nL ret own Ts R kc ks Q w lv pc' (.int (Int32.ofNat E.2.2.2.1) :: st) o) : zk_G E l X cc nL ret own Ts R kc ks Q w lv pc (.ref E.2.2.1 :: st) o := by
  obtain ⟨p, e, s, m, args, below, meth, c, w0⟩ := X
  intro r hr hC H locs ls hP hD hS hl
  obtain ⟨hx, hb, hml, hret, hown, hts, hE, hlk⟩ := id hC
  subst hp
  exact va_slen hx hb hE.2.2.2.1.1 hE.2.2.2.1.2.1 hE.2.2.2.1.2.2 hS hdg (kk r hr hC H locs ls hP hD hS hl)
theorem zk_ldcI {index : Nat} {v : Int32} (hdg : decode cc pc = .ok (.ldc index, 2)) (h1 : Cond.constant own index v ∈ Ts) (pc' : Nat) (hp : pc + 2 = pc') (kk : zk_G E l X cc nL ret own Ts R kc ks Q w lv pc' (.int v :: st) o) : zk_G E l X cc nL ret own Ts R kc ks Q w lv pc st o := by
  obtain ⟨p, e, s, m, args, below, meth, c, w0⟩ := X
  intro r hr hC H locs ls hP hD hS hl
  obtain ⟨hx, hb, hml, hret, hown, hts, hE, hlk⟩ := id hC
  subst hp
  exact lv_ldc hx hb hown (hts _ h1) hdg (kk r hr hC H locs ls hP hD hS hl)
theorem zk_lkOut {dflt : Int} {ps : List (Int × Int)} (x : Int32) (h : Op.lookupswitch.offset ps dflt x.toInt = dflt) : Op.lookupswitch.offset ps dflt x.toInt = dflt := h
/-- an answer that is a row's place, or none -/
def zk_oc {α : Type} (r : Option Nat) (n : Nat) (f : Option α) (g : Nat → Option α) : Option α := match r with
  | none => f
  | some k => if k < n then g k else none
theorem zk_optc {r : Option Nat} {n : Nat} {A : Nat → Nat} {f : Option ρ} {g : Nat → Option ρ} (h0 : zk_G E l X cc nL ret own Ts R kc ks Q w lv pc (.null :: st) f) (h1 : ∀ k, k < n → zk_G E l X cc nL ret own Ts R kc ks Q w lv pc (.ref (A k) :: st) (g k)) : zk_G E l X cc nL ret own Ts R kc ks Q w lv pc (va_rf (r.map A) :: st) (zk_oc r n f g) := by
  cases r with
  | none => exact h0
  | some k =>
    by_cases hk : k < n
    · show zk_G E l X cc nL ret own Ts R kc ks Q w lv pc (.ref (A k) :: st) (if k < n then g k else none)
      rw [if_pos hk]
      exact h1 k hk
    · show zk_G E l X cc nL ret own Ts R kc ks Q w lv pc (.ref (A k) :: st) (if k < n then g k else none)
      rw [if_neg hk]
      obtain ⟨p, e, s, m, args, below, meth, c, w0⟩ := X
      intro r hr
      cases hr
/-- locals: another order, fewer -/
theorem zk_lv (ks9 : List Nat) {lv' : List (Nat × Value)} (h : lv_pick lv ks9 = lv') (kk : zk_G E l X cc nL ret own Ts R kc ks Q w lv' pc (st) o) : zk_G E l X cc nL ret own Ts R kc ks Q w lv pc (st) o := by
  obtain ⟨p, e, s, m, args, below, meth, c, w0⟩ := X
  intro r hr hC H locs ls hP hD hS hl
  obtain ⟨hx, hb, hml, hret, hown, hts, hE, hlk⟩ := id hC
  exact kk r hr hC H locs ls hP hD hS (lv_sub hl ks9 h)
theorem zk_eqv {w1 : va_W} {lv1 : List (Nat × Value)} {st1 : List Value} {o1 : Option ρ} (hw : w = w1) (hl : lv = lv1) (hs : st = st1) (ho : o = o1) (kk : zk_G E l X cc nL ret own Ts R kc ks Q w1 lv1 pc st1 o1) : zk_G E l X cc nL ret own Ts R kc ks Q w lv pc (st) o := by
  subst hw hl hs ho
  exact kk
/-- a value that gets a name -/
def zk_let {α β : Type} (x : α) (f : α → Option β) : Option β := f x
theorem zk_nm {x : Int32} {f : Int32 → Option ρ} (kk : ∀ y : Int32, zk_G E l X cc nL ret own Ts R kc ks Q w lv pc (.int y :: st) (f y)) : zk_G E l X cc nL ret own Ts R kc ks Q w lv pc (.int x :: st) (zk_let x f) := kk x
theorem zk_nmw {α : Type} (wf : α → va_W) {f : α → Option ρ} (x : α) (hw : w = wf x) (kk : ∀ y : α, zk_G E l X cc nL ret own Ts R kc ks Q (wf y) lv pc (st) (f y)) : zk_G E l X cc nL ret own Ts R kc ks Q w lv pc (st) (zk_let x f) := by
  subst hw
  exact kk x
/-! loops: a function of what comes behind the loop's next turn -/
def zk_fx {S α : Type} (F : (S → Option α) → S → Option α) : Nat → S → Option α
  | 0, _ => none
  | n + 1, s => F (zk_fx F n) s
theorem zk_fx_s {S α : Type} (F : (S → Option α) → S → Option α) (n : Nat) (s : S) : zk_fx F (n + 1) s = F (zk_fx F n) s := rfl
theorem zk_none {st : List Value} : zk_G E l X cc nL ret own Ts R kc ks Q w lv pc st none := by
  obtain ⟨p, e, s, m, args, below, meth, c, w0⟩ := X
  intro r hr
  cases hr
theorem zk_loop {S : Type} {F : (S → Option ρ) → S → Option ρ} {wS : S → va_W} {lS : S → List (Nat × Value)} {sS : S → List Value} (hF : ∀ k : S → Option ρ, (∀ s, zk_G E l X cc nL ret own Ts R kc ks Q (wS s) (lS s) pc (sS s) (k s)) → ∀ s, zk_G E l X cc nL ret own Ts R kc ks Q (wS s) (lS s) pc (sS s) (F k s)) : ∀ (n : Nat) (s : S), zk_G E l X cc nL ret own Ts R kc ks Q (wS s) (lS s) pc (sS s) (zk_fx F n s)
  | 0, _ => zk_none
  | n + 1, s => hF (zk_fx F n) (zk_loop hF n) s
/-! ends and heads -/
def zk_Q (E : zk_Env) (X : zk_X) (rv : ρ → Option Value) (w' : ρ → va_W) : ρ → State → Prop := match X with
  | (_, _, s, _, args, below, _, _, w0) => fun r => MQ below (zk_Qc E w0 s.heap.size (rv r) (w' r)) args s 0 0 (va_A w0 s.heap.size)
theorem zk_iret {rv : ρ → Option Value} {w' : ρ → va_W} {r0 : ρ} {v : Int32} (hQ : Q = zk_Q E X rv w') (hdg : decode cc pc = .ok (.ireturn, 1)) (hv : rv r0 = some (.int v)) (hw : w = w' r0) : zk_G E l X cc nL (some .int) own Ts R 0 0 Q w lv pc [.int v] (some r0) := by
  obtain ⟨p, e, s, m, args, below, meth, c, w0⟩ := X
  intro r hr hC H locs ls hP hD hS hl
  obtain ⟨hx, hb, hml, hret, hown, hts, hE, hlk⟩ := id hC
  cases hr
  subst hQ
  exact W.iret (v := v) hx hb hret (fun t ht hW => ⟨⟨by rw [hv], by rw [ht, ← hw]; exact hP, by rw [← hw]; exact hD⟩, hS.F ht⟩) hS.2.2 hdg hlk
theorem zk_zret {rv : ρ → Option Value} {w' : ρ → va_W} {r0 : ρ} {v : Int32} (hQ : Q = zk_Q E X rv w') (hdg : decode cc pc = .ok (.ireturn, 1)) (hv : rv r0 = some (.int v)) (hw : w = w' r0) : zk_G E l X cc nL (some .boolean) own Ts R 0 0 Q w lv pc [.int v] (zk_bz v (some r0)) := by
  obtain ⟨p, e, s, m, args, below, meth, c, w0⟩ := X
  intro r hr hC H locs ls hP hD hS hl
  obtain ⟨hx, hb, hml, hret, hown, hts, hE, hlk⟩ := id hC
  obtain ⟨hz, hr⟩ := zk_bz_e hr
  cases hr
  subst hQ
  exact W.zret (v := v) hx hb hret (by rcases hz with rfl | rfl <;> rfl) (fun t ht hW => ⟨⟨by rw [hv], by rw [ht, ← hw]; exact hP, by rw [← hw]; exact hD⟩, hS.F ht⟩) hS.2.2 hdg hlk
theorem zk_zretL {rv : ρ → Option Value} {w' : ρ → va_W} {r0 : ρ} {v : Int32} (hQ : Q = zk_Q E X rv w') (hdg : decode cc pc = .ok (.ireturn, 1)) (hz : v = 0 ∨ v = 1) (hv : rv r0 = some (.int v)) (hw : w = w' r0) : zk_G E l X cc nL (some .boolean) own Ts R 0 0 Q w lv pc [.int v] (some r0) := by
  obtain ⟨p, e, s, m, args, below, meth, c, w0⟩ := X
  intro r hr hC H locs ls hP hD hS hl
  obtain ⟨hx, hb, hml, hret, hown, hts, hE, hlk⟩ := id hC
  cases hr
  subst hQ
  exact W.zret (v := v) hx hb hret (by rcases hz with rfl | rfl <;> rfl) (fun t ht hW => ⟨⟨by rw [hv], by rw [ht, ← hw]; exact hP, by rw [← hw]; exact hD⟩, hS.F ht⟩) hS.2.2 hdg hlk
theorem zk_vret {rv : ρ → Option Value} {w' : ρ → va_W} {r0 : ρ} (hQ : Q = zk_Q E X rv w') (hdg : decode cc pc = .ok (.return_, 1)) (hv : rv r0 = none) (hw : w = w' r0) : zk_G E l X cc nL none own Ts R 0 0 Q w lv pc [] (some r0) := by
  obtain ⟨p, e, s, m, args, below, meth, c, w0⟩ := X
  intro r hr hC H locs ls hP hD hS hl
  obtain ⟨hx, hb, hml, hret, hown, hts, hE, hlk⟩ := id hC
  cases hr
  subst hQ
  exact W.vret hx hb hret (fun t ht hW => ⟨⟨by rw [hv], by rw [ht, ← hw]; exact hP, by rw [← hw]; exact hD⟩, hS.F ht⟩) hS.2.2 hdg hlk
theorem zk_aret {rv : ρ → Option Value} {w' : ρ → va_W} {r0 : ρ} {v : Option Nat} {C : String} (hQ : Q = zk_Q E X rv w') (hdg : decode cc pc = .ok (.areturn, 1)) (hv : rv r0 = some (va_rf v)) (hw : w = w' r0) : zk_G E l X cc nL (some (.object C)) own Ts R 0 0 Q w lv pc [va_rf v] (some r0) := by
  obtain ⟨p, e, s, m, args, below, meth, c, w0⟩ := X
  intro r hr hC H locs ls hP hD hS hl
  obtain ⟨hx, hb, hml, hret, hown, hts, hE, hlk⟩ := id hC
  cases hr
  subst hQ
  exact W.aret (v := va_rf v) hx hb hret (Or.inl ⟨_, rfl⟩) (by cases v with | none => exact Or.inl rfl | some a => exact Or.inr ⟨a, rfl⟩) (fun t ht hW => ⟨⟨by rw [hv], by rw [ht, ← hw]; exact hP, by rw [← hw]; exact hD⟩, hS.F ht⟩) hS.2.2 hdg hlk
end ZKR
/-- a contract from its walk -/
theorem zk_M {ρ : Type} {E : zk_Env} {l : Launch} {y : MethodName} {ws ws' : List Cond} {rm : Room} {av : List Value} {w : va_W} {o : Option ρ} {rv : ρ → Option Value} {w' : ρ → va_W} {cc : ByteArray} {nL : Nat} {ret : Option FieldType} (hy : plainName y.cls = true) (hw : ws = Cond.code y cc nL ret :: ws') (hlen : (lg_sl av).length ≤ nL)
    (body : ∀ (X : zk_X) (Q : ρ → State → Prop), Q = zk_Q E X rv w' → zk_G E l X cc nL ret y.cls ws rm 0 0 Q w (lv_args 0 av) 0 [] o) : zk_Mc E l y ws rm av w o rv w' := by
  intro r hr sz
  refine Met.ofW (cc := cc) (maxL := nL) (ret := ret) hy hw ?_
  intro p e s m args below meth c s₁ B hml hv
  obtain ⟨rfl, hsz, hP, hE, hD⟩ := hv
  subst hsz
  rw [lg_entry_eq]
  exact body (p, e, s, m, av.toArray, below, meth, c, w) _ rfl r hr ⟨B.exec, B.bytes, hml, B.returns, findClass_of_methodNamed B.named, atoms_spec (ws := ws) B.pre, hE, B.notSynchronized⟩ s.heap [] _ hP hD.self va_S.rf (lv_entry av hlen)
/-! calls -/
section ZKC
variable {ρ ρ' : Type} {E : zk_Env} {l : Launch} {X : zk_X} {cc : ByteArray} {nL : Nat} {ret : Option FieldType} {own : String} {Ts : List Cond} {R : Room} {kc ks : Nat} {Q : ρ → State → Prop} {w : va_W} {lv : List (Nat × Value)} {pc : Nat} {st : List Value}
theorem zk_bind_e {α β : Type} {o : Option α} {f : α → Option β} {r : β} (h : o.bind f = some r) : ∃ a, o = some a ∧ f a = some r := by
  cases o with
  | none => cases h
  | some a => exact ⟨a, rfl, h⟩
theorem zk_callV {y : MethodName} {bytes : ByteArray} {maxL : Nat} {ret' : Option FieldType} {ws ws' : List Cond} {rm : Room} {b : Nat} {As : List Value} {wc : va_W} {o : Option ρ'} {rv : ρ' → Option Value} {wc' : ρ' → va_W} {C : String} {T : u_T} {N ci index : Nat} {fs : List Value} {kf : ρ' → Option ρ} {sk : List Value}
    (hM : zk_Mc E l y ws rm (.ref b :: As) wc o rv wc') (hdg : decode cc pc = .ok (.invokevirtual index, 3)) (n : Nat) (hG : GoodIn Ts (wsV own index C y ws)) (hws : ws = Cond.code y bytes maxL ret' :: ws') (hrc : rm.cells = 0) (hrs : rm.slots = 0)
    (hd : y.cls = C ∧ y.cls ≠ "java/lang/invoke/MethodHandle" ∧ y.cls ≠ "java/lang/invoke/VarHandle" ∧ (parseMethodDescriptor y.desc).map (fun d => d.parameters.length) = some n) (hR : rm.frames + 1 ≤ R.frames ∧ 8 + (maxL + 11) + rm.locals ≤ R.locals) (hcs : kc ≤ R.cells ∧ ks ≤ R.slots)
    (wr : va_W) (w1 : ρ' → va_W) (hp : w.Perm (wc ++ wr)) (hp1 : ∀ r, (wc' r ++ wr).Perm (w1 r)) (hc : vwCl[ci]? = some (C, T, N)) (hroot : wc[0]? = some (b, .inr (ci, fs))) (hn : As.length = n) (hsk : sk = As.reverse ++ .ref b :: st) (hst : (st.map fun v => v.category).sum ≤ 8)
    (s1 : ρ' → List Value) (hs1 : ∀ r, (rv r).toList ++ st = s1 r) (pc' : Nat) (hpc : pc + 3 = pc') (kk : ∀ r, zk_G E l X cc nL ret own Ts R kc ks Q (w1 r) lv pc' (s1 r) (kf r)) : zk_G E l X cc nL ret own Ts R kc ks Q w lv pc sk (o.bind kf) := by
  obtain ⟨p, e, s, m, args, below, meth, c, w0⟩ := X
  intro r hr hC H locs ls hP hD hS hl
  obtain ⟨hx, hb, hml, hret, hown, hts, hE, hlk⟩ := id hC
  obtain ⟨r1, ho, hr1⟩ := zk_bind_e hr
  subst hsk
  subst hpc
  obtain ⟨hPc, hDc, hF⟩ := zk_pre hP hD hS zk_hA hp
  have hcw := cwV (args := args) (s := s) (R := R) (rm := rm) (mc := 0) (ms := 0) (bytes := bytes) (maxL := maxL) (ret := ret') n hts hG hws hrc hrs hd hR
  have run := va_runV (p := p) (e := e) (below := below) (meth := meth) (H := H) (locs := locs) (cells := kc) (slots := ks) (g := F0 m pc ls (As.reverse ++ .ref b :: st)) (As := As) (rest := st) (C := C) ⟨hx, hb, hml, hown, hts⟩ (hM r1 ho H.size) hcw
    ⟨fun a U g mk q => by obtain ⟨q0, q1, q2, q3, q4⟩ := q; exact ⟨q0, q1, q2, zk_E.calling q3, q4⟩, va_recv (va_K.moved (Vm.Alike.refl s.vm) hE.1) hPc hc hroot, fun U hU hW => ⟨rfl, by rw [hU], by rw [hU]; exact hPc, zk_E.warm hE hS hF hU hW, hDc⟩⟩ rfl hn hl.1 rfl (lv_room hst) hdg hcs
  intro T hT X'
  obtain ⟨v, st0, t, T', L, h0, X2, hL, e1, e2, ⟨⟨hv, hP1, hD1⟩, hz, hk⟩, go⟩ := run T hT X'
  rw [h0] at hz hk
  cases hv
  obtain ⟨hP2, hD2⟩ := zk_post (wc' := wc' r1) hP hD hp hk hF hP1 hD1
  rw [← e1] at hP2
  have hS1 : va_S (va_A w0 s.heap.size) s.heap T'.heap (locs ++ L) := ⟨Nat.le_trans hS.1 (by rw [e1]; exact hz), fun q h1 h2 => by rw [e1, hk q (Nat.lt_of_lt_of_le h1 hS.1) (fun z => h2 (hF q z))]; exact hS.2.1 q h1 h2, fun q hq => by
    rcases List.mem_append.mp hq with h | h
    · exact hS.2.2 q h
    · exact hF _ (hL q h)⟩
  have kk1 := kk r1 r hr1 hC T'.heap (locs ++ L) ls (zk_P_perm (hp1 r1) hP2) (zk_D_perm (hp1 r1) hD2) hS1 hl
  rw [← hs1 r1] at kk1
  obtain ⟨t2, a1, b1⟩ := kk1 T' rfl X2
  exact ⟨t2, go t2 a1, b1⟩
theorem zk_callS {y : MethodName} {bytes : ByteArray} {maxL : Nat} {ret' : Option FieldType} {ws ws' : List Cond} {rm : Room} {As : List Value} {wc : va_W} {o : Option ρ'} {rv : ρ' → Option Value} {wc' : ρ' → va_W} {index : Nat} {kf : ρ' → Option ρ} {sk : List Value}
    (hM : zk_Mc E l y ws rm As wc o rv wc') (hdg : decode cc pc = .ok (.invokestatic index, 3)) (n : Nat) (hG : GoodIn Ts (va_wsS own index y ws)) (hws : ws = Cond.code y bytes maxL ret' :: ws') (hrc : rm.cells = 0) (hrs : rm.slots = 0)
    (hd : y.cls ≠ "java/lang/invoke/MethodHandle" ∧ y.cls ≠ "java/lang/invoke/VarHandle" ∧ (parseMethodDescriptor y.desc).map (fun d => d.parameters.length) = some n) (hR : rm.frames + 1 ≤ R.frames ∧ 8 + (maxL + 11) + rm.locals ≤ R.locals) (hcs : kc ≤ R.cells ∧ ks ≤ R.slots)
    (wr : va_W) (w1 : ρ' → va_W) (hp : w.Perm (wc ++ wr)) (hp1 : ∀ r, (wc' r ++ wr).Perm (w1 r)) (hn : As.length = n) (hsk : sk = As.reverse ++ st) (hst : (st.map fun v => v.category).sum ≤ 8)
    (s1 : ρ' → List Value) (hs1 : ∀ r, (rv r).toList ++ st = s1 r) (pc' : Nat) (hpc : pc + 3 = pc') (kk : ∀ r, zk_G E l X cc nL ret own Ts R kc ks Q (w1 r) lv pc' (s1 r) (kf r)) : zk_G E l X cc nL ret own Ts R kc ks Q w lv pc sk (o.bind kf) := by
  obtain ⟨p, e, s, m, args, below, meth, c, w0⟩ := X
  intro r hr hC H locs ls hP hD hS hl
  obtain ⟨hx, hb, hml, hret, hown, hts, hE, hlk⟩ := id hC
  obtain ⟨r1, ho, hr1⟩ := zk_bind_e hr
  subst hsk
  subst hpc
  obtain ⟨hPc, hDc, hF⟩ := zk_pre hP hD hS zk_hA hp
  have hcw := va_cwS (args := args) (s := s) (R := R) (rm := rm) (mc := 0) (ms := 0) (bytes := bytes) (maxL := maxL) (ret := ret') n hts hG hws hrc hrs hd hR
  have run := va_runS (p := p) (e := e) (below := below) (meth := meth) (H := H) (locs := locs) (cells := kc) (slots := ks) (g := F0 m pc ls (As.reverse ++ st)) (As := As) (rest := st) ⟨hx, hb, hml, hown, hts⟩ (hM r1 ho H.size) hcw
    ⟨fun a U g mk q => by obtain ⟨q0, q1, q2, q3, q4⟩ := q; exact ⟨q0, q1, q2, zk_E.calling q3, q4⟩, fun U hU hW => ⟨rfl, by rw [hU], by rw [hU]; exact hPc, zk_E.warm hE hS hF hU hW, hDc⟩⟩ rfl hn hl.1 rfl (lv_room hst) hdg hcs
  intro T hT X'
  obtain ⟨v, st0, t, T', L, h0, X2, hL, e1, e2, ⟨⟨hv, hP1, hD1⟩, hz, hk⟩, go⟩ := run T hT X'
  rw [h0] at hz hk
  cases hv
  obtain ⟨hP2, hD2⟩ := zk_post (wc' := wc' r1) hP hD hp hk hF hP1 hD1
  rw [← e1] at hP2
  have hS1 : va_S (va_A w0 s.heap.size) s.heap T'.heap (locs ++ L) := ⟨Nat.le_trans hS.1 (by rw [e1]; exact hz), fun q h1 h2 => by rw [e1, hk q (Nat.lt_of_lt_of_le h1 hS.1) (fun z => h2 (hF q z))]; exact hS.2.1 q h1 h2, fun q hq => by
    rcases List.mem_append.mp hq with h | h
    · exact hS.2.2 q h
    · exact hF _ (hL q h)⟩
  have kk1 := kk r1 r hr1 hC T'.heap (locs ++ L) ls (zk_P_perm (hp1 r1) hP2) (zk_D_perm (hp1 r1) hD2) hS1 hl
  rw [← hs1 r1] at kk1
  obtain ⟨t2, a1, b1⟩ := kk1 T' rfl X2
  exact ⟨t2, go t2 a1, b1⟩
end ZKC
/-! where the callee's cells stand in the caller's world -/
theorem zk_p1 {gs : List va_W} {i : Nat} {g : va_W} (hi : gs[i]? = some g) : (zk_j gs).Perm (g ++ zk_j (gs.set i [])) := zk_at gs i g hi
theorem zk_q1 {gs : List va_W} {i : Nat} {g g' w1 : va_W} (hi : gs[i]? = some g) (hw : w1 = zk_j (gs.set i g')) : (g' ++ zk_j (gs.set i [])).Perm w1 := by
  subst hw
  exact (zk_put gs i g' (zk_lt hi)).symm
theorem zk_p2 {gs : List va_W} {i j : Nat} {l1 l2 : List va_W} (hi : gs[i]? = some (zk_j l1)) (hj : gs[j]? = some (zk_j l2)) (n : i ≠ j) : (zk_j gs).Perm (zk_j (l1 ++ l2) ++ zk_j ((gs.set i []).set j [])) := by
  rw [zk_j_app]
  exact zk_at2 gs i j _ _ hi hj n
theorem zk_q2 {gs : List va_W} {i j : Nat} {g h w1 : va_W} {l1 l2 : List va_W} (hi : gs[i]? = some g) (hj : gs[j]? = some h) (n : i ≠ j) (hw : w1 = zk_j ((gs.set i (zk_j l1)).set j (zk_j l2))) : (zk_j (l1 ++ l2) ++ zk_j ((gs.set i []).set j [])).Perm w1 := by
  subst hw
  rw [zk_j_app]
  exact (zk_put2 gs i j _ _ (zk_lt hi) (zk_lt hj) n).symm
theorem zk_pc {w g wr g2 wr2 : va_W} (h1 : w.Perm (g ++ wr)) (h2 : g.Perm (g2 ++ wr2)) : w.Perm (g2 ++ (wr2 ++ wr)) := by
  rw [← List.append_assoc]
  exact h1.trans (List.Perm.append_right wr h2)
theorem zk_qc {w1 g' wr g2' wr2 : va_W} (h1 : (g' ++ wr).Perm w1) (h2 : (g2' ++ wr2).Perm g') : (g2' ++ (wr2 ++ wr)).Perm w1 := by
  rw [← List.append_assoc]
  exact (List.Perm.append_right wr h2).trans h1
theorem zk_4 (a b c d : va_W) : ((a ++ b) ++ (c ++ d)).Perm ((a ++ c) ++ (b ++ d)) := by
  rw [List.append_assoc, List.append_assoc]
  exact List.Perm.append_left a (List.perm_append_comm_assoc b c d)
/-- two cells' groups of one node: each is opened further -/
theorem zk_pp {w g h g1 h1 r1 r2 rest wr0 n : va_W} (h0 : w.Perm (n ++ wr0)) (hn : n.Perm ((g ++ h) ++ rest)) (hg : g.Perm (g1 ++ r1)) (hh : h.Perm (h1 ++ r2)) : w.Perm (zk_j [g1, h1] ++ (((r1 ++ r2) ++ rest) ++ wr0)) := by
  refine zk_pc h0 ?_
  refine hn.trans ?_
  rw [← List.append_assoc]
  refine List.Perm.append_right rest ?_
  refine (List.Perm.append hg hh).trans ?_
  refine (zk_4 g1 r1 h1 r2).trans ?_
  show ((g1 ++ h1) ++ (r1 ++ r2)).Perm ((g1 ++ (h1 ++ [])) ++ (r1 ++ r2))
  rw [List.append_nil]
theorem zk_qq {w1 g h g1 h1 r1 r2 rest wr0 n : va_W} (h0 : (n ++ wr0).Perm w1) (hn : ((g ++ h) ++ rest).Perm n) (hg : (g1 ++ r1).Perm g) (hh : (h1 ++ r2).Perm h) : (zk_j [g1, h1] ++ (((r1 ++ r2) ++ rest) ++ wr0)).Perm w1 :=
  (zk_pp h0.symm hn.symm hg.symm hh.symm).symm
theorem zk_pb {gs : List va_W} {i j : Nat} {g h : va_W} (hi : gs[i]? = some g) (hj : gs[j]? = some h) (n : i ≠ j) : (zk_j gs).Perm ((g ++ h) ++ zk_j ((gs.set i []).set j [])) := zk_at2 gs i j g h hi hj n
theorem zk_qb {gs : List va_W} {i j : Nat} {g h g' h' w1 : va_W} (hi : gs[i]? = some g) (hj : gs[j]? = some h) (n : i ≠ j) (hw : w1 = zk_j ((gs.set i g').set j h')) : ((g' ++ h') ++ zk_j ((gs.set i []).set j [])).Perm w1 := by
  subst hw
  exact (zk_put2 gs i j g' h' (zk_lt hi) (zk_lt hj) n).symm
/-- objects of one kind in a row -/
def zk_fam (n : Nat) (F : Nat → va_W) : List va_W := (List.range n).map F
theorem zk_fam_at {l : List va_W} {n k m : Nat} {F : Nat → va_W} (hm : l.length = m) (hk : k < n) : (l ++ zk_fam n F)[m + k]? = some (F k) := by
  subst hm
  rw [List.getElem?_append_right (Nat.le_add_right _ _), Nat.add_sub_cancel_left]
  unfold zk_fam
  rw [List.getElem?_map, List.getElem?_range hk]
  rfl
theorem zk_fam_set {l : List va_W} {n k m : Nat} {F G : Nat → va_W} (hm : l.length = m) (hG : ∀ j, j ≠ k → G j = F j) : (l ++ zk_fam n F).set (m + k) (G k) = l ++ zk_fam n G := by
  subst hm
  rw [List.set_append_right _ _ (Nat.le_add_right _ _), Nat.add_sub_cancel_left]
  congr 1
  unfold zk_fam
  refine List.ext_getElem? (fun i => ?_)
  by_cases hi : i = k
  · subst hi
    by_cases hn : i < n
    · rw [List.getElem?_set_self (by simpa using hn), List.getElem?_map, List.getElem?_range hn]
      rfl
    · rw [List.getElem?_eq_none (by simpa using hn), List.getElem?_eq_none (by simpa using hn)]
  · rw [List.getElem?_set_ne (Ne.symm hi), List.getElem?_map, List.getElem?_map]
    by_cases hn : i < n
    · rw [List.getElem?_range hn]
      show some (F i) = some (G i)
      rw [hG i hi]
    · rw [List.getElem?_eq_none (by simpa using hn)]
      rfl
theorem zk_famv {α : Type} (g : Nat → α → va_W) {f : Nat → α} {l : List va_W} {n k m : Nat} {v' : α} (hm : l.length = m) : l ++ zk_fam n (fun i => g i (va_up f k v' i)) = (l ++ zk_fam n (fun i => g i (f i))).set (m + k) (g k v') := by
  have h := zk_fam_set (l := l) (n := n) (k := k) (m := m) (F := fun i => g i (f i)) (G := fun i => g i (va_up f k v' i)) hm (fun j hj => by show g j (va_up f k v' j) = g j (f j); rw [va_up, if_neg hj])
  rw [← h]
  show _ = _
  rw [show va_up f k v' k = v' from if_pos rfl]
theorem zk_setrow {g : Nat → va_W} {l : List va_W} {n k m : Nat} {w1 : va_W} (hm : l.length = m) (hw : w1 = zk_j (l ++ zk_fam n g)) : w1 = zk_j ((l ++ zk_fam n g).set (m + k) (g k)) := by
  rw [zk_fam_set (G := g) hm (fun _ _ => rfl)]
  exact hw
theorem zk_inb {i : Int32} {n : Nat} (h : vp_in i n) : i.toNatClampNeg < n := by
  unfold vp_in at h
  rcases Nat.lt_or_ge i.toNatClampNeg n with g | g
  · exact g
  · exact absurd (Or.inr g) h
theorem zk_p0 {gs gr : List va_W} : (zk_j (gs ++ gr)).Perm (zk_j gs ++ zk_j gr) := by
  rw [zk_j_app]
theorem zk_q0 {gs gr : List va_W} : (zk_j gs ++ zk_j gr).Perm (zk_j (gs ++ gr)) := by
  rw [zk_j_app]
theorem zk_pn {w : va_W} : w.Perm ([] ++ w) := List.Perm.refl _
theorem zk_pa {w : va_W} : w.Perm (w ++ []) := by rw [List.append_nil]
theorem zk_qa {w : va_W} : (w ++ []).Perm w := by rw [List.append_nil]
/-- how often a loop may turn, far above what any does -/
def zk_N : Nat := 10000

