/-! rows of constructors: new objects and arrays -/
section ZKN
variable {ρ ρ' α : Type} {E : zk_Env} {l : Launch} {X : zk_X} {cc : ByteArray} {nL : Nat} {ret : Option FieldType} {own : String} {Ts : List Cond} {R : Room} {kc ks : Nat} {Q : ρ → State → Prop} {w : va_W} {lv : List (Nat × Value)} {pc : Nat} {st : List Value} {o : Option ρ}
theorem zk_cid {U : State} {c1 c2 : ClassId} {ty : FieldType} (h1 : U.vm.findClass ("[" ++ ty.toString) = some c1) (h2 : U.vm.findClass ("[" ++ ty.toString) = some c2) : c1 = c2 := Option.some.inj (h1.symm.trans h2)
theorem zk_objInit {idx a : Nat} (hdg : decode cc pc = .ok (.invokespecial idx, 3)) (h1 : Cond.methodLink own idx Lib.objectInit ∈ Ts) (h2 : Cond.instanceMethod Lib.objectInit ∈ Ts) (h3 : Cond.code Lib.objectInit ⟨#[0xb1]⟩ 1 none ∈ Ts) (h5 : 1 ≤ R.frames) (h6 : (st.map fun v => v.category).sum + 12 ≤ R.locals) (pc' : Nat) (hp : pc + 3 = pc') (kk : zk_G E l X cc nL ret own Ts R kc ks Q w lv pc' (st) o) : zk_G E l X cc nL ret own Ts R kc ks Q w lv pc (.ref a :: st) o := by
  obtain ⟨p, e, s, m, args, below, meth, c, w0⟩ := X
  intro r hr hC H locs ls hP hD hS hl
  obtain ⟨hx, hb, hml, hret, hown, hts, hE, hlk⟩ := id hC
  subst hp
  exact W.objInit hx hb hown (hts _ h1) (hts _ h2) (hts _ h3) rfl (hl.1.trans hml.symm) rfl hdg h5 (by show 2 * 0 + _ + _ ≤ _; omega) (W.eq rfl (kk r hr hC H locs ls hP hD hS hl))
theorem zk_new {C : String} {T : u_T} {N ci index : Nat} {fs : List Value} (ty0 : Nat → FieldType) (w1 : Nat → va_W) (kc' ks' : Nat) (hdg : decode cc pc = .ok (.new index, 3)) (hc : vwCl[ci]? = some (C, T, N)) (hin : ∀ x ∈ u_ws C T N, x ∈ Ts) (hty : ∀ k, k < N → parseFieldDescriptor (T k).2.2.1 = some (ty0 k)) (h1 : Cond.classLink own index C ∈ Ts) (h2 : Cond.instantiable C N ∈ Ts) (h3 : Cond.initialized C ∈ Ts) (hfs : ∀ j, j < N → defaultValue (ty0 j) = vp_V fs j) (hkc : kc + 1 = kc') (hks : ks + N = ks') (hc1 : kc' ≤ R.cells) (hs1 : ks' ≤ R.slots) (hw : ∀ q, w ++ [(q, .inr (ci, fs))] = w1 q) (pc' : Nat) (hp : pc + 3 = pc') (kk : ∀ q, zk_G E l X cc nL ret own Ts R kc' ks' Q (w1 q) lv pc' (.ref q :: st) o) : zk_G E l X cc nL ret own Ts R kc ks Q w lv pc (st) o := by
  obtain ⟨p, e, s, m, args, below, meth, c, w0⟩ := X
  intro r hr hC H locs ls hP hD hS hl
  obtain ⟨hx, hb, hml, hret, hown, hts, hE, hlk⟩ := id hC
  subst hp
  subst hkc
  subst hks
  refine va_new (ci := ci) (fs := fs) hx hb hts hin ty0 hty hown (hts _ h1) (hts _ h2) (hts _ h3) hE.1 hP hD hS zk_hA hc hfs hc1 hs1 hdg (fun q H1 hP1 hD1 hS1 => ?_)
  rw [hw q] at hP1 hD1
  exact kk q r hr hC H1 locs ls hP1 hD1 hS1 hl
theorem zk_newaI (N' : Nat) {n : Int32} (w1 : Nat → va_W) (kc' ks' : Nat) (hdg : decode cc pc = .ok (.newarray .int, 2)) (harr : Cond.arrayClass .int ∈ Ts) (hn : ¬ n < 0) (hN : n.toNatClampNeg = N') (hB : N' * 8 ≤ 536870912) (hkc : kc + 1 = kc') (hks : ks + N' = ks') (hc1 : kc' ≤ R.cells) (hs1 : ks' ≤ R.slots) (hw : ∀ q, w ++ [(q, .inl (zk_ci E, N', .inl (fun _ => 0)))] = w1 q) (pc' : Nat) (hp : pc + 2 = pc') (kk : ∀ q, zk_G E l X cc nL ret own Ts R kc' ks' Q (w1 q) lv pc' (.ref q :: st) o) : zk_G E l X cc nL ret own Ts R kc ks Q w lv pc (.int n :: st) o := by
  obtain ⟨p, e, s, m, args, below, meth, c, w0⟩ := X
  intro r hr hC H locs ls hP hD hS hl
  obtain ⟨hx, hb, hml, hret, hown, hts, hE, hlk⟩ := id hC
  subst hp
  subst hkc
  subst hks
  refine va_newa (atype := .int) (ty := .int) (a0 := (N', .inl (fun _ => 0))) hx hb (hts _ harr) rfl hE.1 hP hD hS zk_hA (fun _ => rfl) hn hN (Nat.le_trans (Nat.mul_le_mul_left _ (by decide)) hB) hc1 hs1 hdg (fun q cA H1 hK1 hP1 hD1 hS1 => ?_)
  have e : cA = zk_ci E := zk_cid (ty := .int) (hK1.2 4 (cA, .int) rfl).2 (hE.1.2 0 (zk_ci E, .int) rfl).2
  rw [e, hw q] at hP1 hD1
  exact kk q r hr hC H1 locs ls hP1 hD1 hS1 hl
theorem zk_newaZ (N' : Nat) {n : Int32} (w1 : Nat → va_W) (kc' ks' : Nat) (hdg : decode cc pc = .ok (.newarray .boolean, 2)) (harr : Cond.arrayClass .boolean ∈ Ts) (hn : ¬ n < 0) (hN : n.toNatClampNeg = N') (hB : N' * 8 ≤ 536870912) (hkc : kc + 1 = kc') (hks : ks + N' = ks') (hc1 : kc' ≤ R.cells) (hs1 : ks' ≤ R.slots) (hw : ∀ q, w ++ [(q, .inl (zk_cz E, N', .inl (fun _ => 0)))] = w1 q) (pc' : Nat) (hp : pc + 2 = pc') (kk : ∀ q, zk_G E l X cc nL ret own Ts R kc' ks' Q (w1 q) lv pc' (.ref q :: st) o) : zk_G E l X cc nL ret own Ts R kc ks Q w lv pc (.int n :: st) o := by
  obtain ⟨p, e, s, m, args, below, meth, c, w0⟩ := X
  intro r hr hC H locs ls hP hD hS hl
  obtain ⟨hx, hb, hml, hret, hown, hts, hE, hlk⟩ := id hC
  subst hp
  subst hkc
  subst hks
  refine va_newa (atype := .boolean) (ty := .boolean) (a0 := (N', .inl (fun _ => 0))) hx hb (hts _ harr) rfl hE.1 hP hD hS zk_hA (fun _ => rfl) hn hN (Nat.le_trans (Nat.mul_le_mul_left _ (by decide)) hB) hc1 hs1 hdg (fun q cA H1 hK1 hP1 hD1 hS1 => ?_)
  have e : cA = zk_cz E := zk_cid (ty := .boolean) (hK1.2 4 (cA, .boolean) rfl).2 (hE.1.2 1 (zk_cz E, .boolean) rfl).2
  rw [e, hw q] at hP1 hD1
  exact kk q r hr hC H1 locs ls hP1 hD1 hS1 hl
theorem zk_newqW (N' : Nat) {n : Int32} {index : Nat} (w1 : Nat → va_W) (kc' ks' : Nat) (hdg : decode cc pc = .ok (.anewarray index, 3)) (h1 : Cond.classLink own index RX8 ∈ Ts) (hn : ¬ n < 0) (hN : n.toNatClampNeg = N') (hB : N' * 4 ≤ 536870912) (hkc : kc + 1 = kc') (hks : ks + N' = ks') (hc1 : kc' ≤ R.cells) (hs1 : ks' ≤ R.slots) (hw : ∀ q, w ++ [(q, .inl (zk_cw E, N', .inr (.inr (.inr (.inr (fun _ => none))))))] = w1 q) (pc' : Nat) (hp : pc + 3 = pc') (kk : ∀ q, zk_G E l X cc nL ret own Ts R kc' ks' Q (w1 q) lv pc' (.ref q :: st) o) : zk_G E l X cc nL ret own Ts R kc ks Q w lv pc (.int n :: st) o := by
  obtain ⟨p, e, s, m, args, below, meth, c, w0⟩ := X
  intro r hr hC H locs ls hP hD hS hl
  obtain ⟨hx, hb, hml, hret, hown, hts, hE, hlk⟩ := id hC
  subst hp
  subst hkc
  subst hks
  refine va_newq (C := RX8) hx hb hown (hts _ h1) hE.2.2.2.2.1 hE.1 hP hD hS zk_hA hn hN hB hc1 hs1 hdg (fun q cA H1 hK1 hP1 hD1 hS1 => ?_)
  have e : cA = zk_cw E := by
    obtain ⟨kA, comp, -, -, -, g1⟩ := (hK1.2 4 (cA, .object RX8) rfl).2
    obtain ⟨kB, comp2, -, -, -, g2⟩ := (hE.1.2 2 (zk_cw E, .object RX8) rfl).2
    exact Option.some.inj (g1.symm.trans g2)
  rw [e, hw q] at hP1 hD1
  exact kk q r hr hC H1 locs ls hP1 hD1 hS1 hl
theorem zk_newqS (N' : Nat) {n : Int32} {index : Nat} (w1 : Nat → va_W) (kc' ks' : Nat) (hdg : decode cc pc = .ok (.anewarray index, 3)) (h1 : Cond.classLink own index RX6 ∈ Ts) (hn : ¬ n < 0) (hN : n.toNatClampNeg = N') (hB : N' * 4 ≤ 536870912) (hkc : kc + 1 = kc') (hks : ks + N' = ks') (hc1 : kc' ≤ R.cells) (hs1 : ks' ≤ R.slots) (hw : ∀ q, w ++ [(q, .inl (zk_cs E, N', .inr (.inr (.inr (.inr (fun _ => none))))))] = w1 q) (pc' : Nat) (hp : pc + 3 = pc') (kk : ∀ q, zk_G E l X cc nL ret own Ts R kc' ks' Q (w1 q) lv pc' (.ref q :: st) o) : zk_G E l X cc nL ret own Ts R kc ks Q w lv pc (.int n :: st) o := by
  obtain ⟨p, e, s, m, args, below, meth, c, w0⟩ := X
  intro r hr hC H locs ls hP hD hS hl
  obtain ⟨hx, hb, hml, hret, hown, hts, hE, hlk⟩ := id hC
  subst hp
  subst hkc
  subst hks
  refine va_newq (C := RX6) hx hb hown (hts _ h1) hE.2.2.2.2.2 hE.1 hP hD hS zk_hA hn hN hB hc1 hs1 hdg (fun q cA H1 hK1 hP1 hD1 hS1 => ?_)
  have e : cA = zk_cs E := by
    obtain ⟨kA, comp, -, -, -, g1⟩ := (hK1.2 4 (cA, .object RX6) rfl).2
    obtain ⟨kB, comp2, -, -, -, g2⟩ := (hE.1.2 3 (zk_cs E, .object RX6) rfl).2
    exact Option.some.inj (g1.symm.trans g2)
  rw [e, hw q] at hP1 hD1
  exact kk q r hr hC H1 locs ls hP1 hD1 hS1 hl
theorem zk_aast {a n v : Nat} {f : Nat → Option Nat} {i : Int32} {cA : ClassId} {rr : vw_C} {ci : Nat} {vs : List Value} (t0 : Nat) (w1 : va_W) (k : Nat) (hdg : decode cc pc = .ok (.aastore, 1)) (q0 qk : Nat) (ha : w[q0]? = some (a, .inl (cA, n, .inr (.inr (.inr (.inr f)))))) (hv : w[qk]? = some (v, .inr (ci, vs))) (hc : vwCl[ci]? = some rr) (ht : (zk_T E)[t0]? = some (cA, .object rr.1)) (hin : vp_in i n) (hk : i.toNatClampNeg = k) (hw : w.set q0 (a, .inl (cA, n, .inr (.inr (.inr (.inr (va_up f k (some v))))))) = w1) (pc' : Nat) (hp : pc + 1 = pc') (kk : zk_G E l X cc nL ret own Ts R kc ks Q w1 lv pc' (st) o) : zk_G E l X cc nL ret own Ts R kc ks Q w lv pc (.ref v :: .int i :: .ref a :: st) o := by
  obtain ⟨p, e, s, m, args, below, meth, c, w0⟩ := X
  intro r hr hC H locs ls hP hD hS hl
  obtain ⟨hx, hb, hml, hret, hown, hts, hE, hlk⟩ := id hC
  subst hp
  subst hw
  subst hk
  exact va_astq hx hb hE.1 hP hD hS q0 t0 qk ci ha ht hv hc hin hdg (fun H1 locs1 hP1 hD1 hS1 => kk r hr hC H1 locs1 ls hP1 hD1 hS1 hl)
theorem zk_perm (w1 : va_W) (h : w.Perm w1) (kk : zk_G E l X cc nL ret own Ts R kc ks Q w1 lv pc (st) o) : zk_G E l X cc nL ret own Ts R kc ks Q w lv pc (st) o := by
  obtain ⟨p, e, s, m, args, below, meth, c, w0⟩ := X
  intro r hr hC H locs ls hP hD hS hl
  obtain ⟨hx, hb, hml, hret, hown, hts, hE, hlk⟩ := id hC
  exact kk r hr hC H locs ls (zk_P_perm h hP) (zk_D_perm h hD) hS hl
theorem zk_icmp_geF {x y : Int32} {off : Int} (hdg : decode cc pc = .ok (.if_icmp .ge off, 3)) (h : ¬ y ≤ x) (tgt : Nat) (ht : (pc : Int) + off = (tgt : Int)) (pc' : Nat) (hp : pc + 3 = pc') (kk : zk_G E l X cc nL ret own Ts R kc ks Q w lv pc' (st) o) : zk_G E l X cc nL ret own Ts R kc ks Q w lv pc (.int y :: .int x :: st) o := by
  obtain ⟨p, e, s, m, args, below, meth, c, w0⟩ := X
  intro r hr hC H locs ls hP hD hS hl
  obtain ⟨hx, hb, hml, hret, hown, hts, hE, hlk⟩ := id hC
  subst hp
  exact lv_icmp_ge hx hb hdg ht (fun c0 => absurd c0 h) (fun _ => kk r hr hC H locs ls hP hD hS hl)
theorem zk_icmp_geT {x y : Int32} {off : Int} (hdg : decode cc pc = .ok (.if_icmp .ge off, 3)) (h : y ≤ x) (tgt : Nat) (ht : (pc : Int) + off = (tgt : Int)) (kk : zk_G E l X cc nL ret own Ts R kc ks Q w lv tgt (st) o) : zk_G E l X cc nL ret own Ts R kc ks Q w lv pc (.int y :: .int x :: st) o := by
  obtain ⟨p, e, s, m, args, below, meth, c, w0⟩ := X
  intro r hr hC H locs ls hP hD hS hl
  obtain ⟨hx, hb, hml, hret, hown, hts, hE, hlk⟩ := id hC
  exact lv_icmp_ge hx hb hdg ht (fun _ => kk r hr hC H locs ls hP hD hS hl) (fun c0 => absurd h c0)
/-- an array's cell is its first n places -/
theorem zk_cellq {c : ClassId} {n : Nat} {f g : Nat → Option Nat} (h : ∀ i, i < n → f i = g i) : vp_cell c (n, .inr (.inr (.inr (.inr f)))) = vp_cell c (n, .inr (.inr (.inr (.inr g)))) := by
  show arrV c n (fun j => va_rf (f j)) = arrV c n (fun j => va_rf (g j))
  unfold arrV
  congr 1
  refine Array.ext (by simp) (fun i h1 h2 => ?_)
  have hi : i < n := by simpa using h1
  simp [h i hi]
theorem zk_Pset {D : va_G} {cl : List vw_C} {ws : va_W} {H : Heap} {k a n : Nat} {c : ClassId} {f g : Nat → Option Nat} (hP : va_P D cl ws H) (hk : ws[k]? = some (a, .inl (c, n, .inr (.inr (.inr (.inr f)))))) (h : ∀ i, i < n → f i = g i) : va_P D cl (ws.set k (a, .inl (c, n, .inr (.inr (.inr (.inr g)))))) H := by
  have hl : k < ws.length := (List.getElem?_eq_some_iff.mp hk).1
  intro j q hq
  by_cases e : j = k
  · subst e
    rw [List.getElem?_set_self hl] at hq
    cases hq
    have h1 := hP j _ hk
    show H[a]? = some _
    rw [← zk_cellq h]
    exact h1
  · rw [List.getElem?_set_ne (Ne.symm e)] at hq
    exact hP j q hq
theorem zk_rowq {k a n : Nat} {c' : ClassId} {f : Nat → Option Nat} (g : Nat → Option Nat) (w1 : va_W) (hk : w[k]? = some (a, .inl (c', n, .inr (.inr (.inr (.inr f)))))) (h : ∀ i, i < n → f i = g i) (hw : w.set k (a, .inl (c', n, .inr (.inr (.inr (.inr g))))) = w1) (kk : zk_G E l X cc nL ret own Ts R kc ks Q w1 lv pc (st) o) : zk_G E l X cc nL ret own Ts R kc ks Q w lv pc (st) o := by
  obtain ⟨p, e, s, m, args, below, meth, c, w0⟩ := X
  intro r hr hC H locs ls hP hD hS hl
  obtain ⟨hx, hb, hml, hret, hown, hts, hE, hlk⟩ := id hC
  subst hw
  exact kk r hr hC H locs ls (zk_Pset hP hk h) (hD.set hk) hS hl
def zk_Qq {α : Type} (E : zk_Env) (X : zk_X) (w' : ρ → α → va_W) (mc ms : Nat) : ρ → State → Prop := match X with
  | (_, _, s, _, args, below, _, _, w0) => fun r => MQ below (zk_Qn E w0 s.heap.size (w' r)) args s mc ms (va_A w0 s.heap.size)
theorem zk_vretN {w' : ρ → α → va_W} {r0 : ρ} (a : α) (hQ : Q = zk_Qq E X w' kc ks) (hdg : decode cc pc = .ok (.return_, 1)) (hw : w = w' r0 a) : zk_G E l X cc nL none own Ts R kc ks Q w lv pc [] (some r0) := by
  obtain ⟨p, e, s, m, args, below, meth, c, w0⟩ := X
  intro r hr hC H locs ls hP hD hS hl
  obtain ⟨hx, hb, hml, hret, hown, hts, hE, hlk⟩ := id hC
  cases hr
  subst hQ
  exact W.vret hx hb hret (fun t ht hW => ⟨⟨a, rfl, by rw [ht, ← hw]; exact hP, by rw [← hw]; exact hD⟩, hS.F ht⟩) hS.2.2 hdg hlk
end ZKN
/-- a contract from its walk: a method of a class of the JDK that is run as bytecode -/
theorem zk_MF {ρ : Type} {E : zk_Env} {l : Launch} {y : MethodName} {ws ws' : List Cond} {rm : Room} {av : List Value} {w : va_W} {o : Option ρ} {rv : ρ → Option Value} {w' : ρ → va_W} {cc : ByteArray} {nL : Nat} {ret : Option FieldType} (hy : plainFor y = true) (hw : ws = Cond.code y cc nL ret :: ws') (hlen : (lg_sl av).length ≤ nL)
    (body : ∀ (X : zk_X) (Q : ρ → State → Prop), Q = zk_Q E X rv w' → zk_G E l X cc nL ret y.cls ws rm 0 0 Q w (lv_args 0 av) 0 [] o) : zk_Mc E l y ws rm av w o rv w' := by
  intro r hr sz
  refine MetFree.of_bodySF (code := cc) (maxLocals := nL) (ret := ret) hy ?_ ?_
  · intro args s m h hn
    obtain ⟨meth, c, h1, h2, h3, h4, h5, h6, -, -⟩ := Cond.code_spec hn (atoms_spec (ws := ws) h _ (by rw [hw]; exact List.mem_cons_self))
    exact ⟨meth, c, h1, h2, h3, h4, h5, h6⟩
  · intro p e s m args below meth c s₁ B hml hv _
    have hh0 : s₁.heap = s.heap := by rw [B.state]; rfl
    obtain ⟨rfl, hsz, hP, hE, hD⟩ := hv
    subst hsz
    have key := body (p, e, s, m, av.toArray, below, meth, c, w) _ rfl r hr ⟨B.exec, B.bytes, hml, B.returns, findClass_of_methodNamed B.named, atoms_spec (ws := ws) B.pre, hE, B.notSynchronized⟩ s.heap [] _ hP hD.self va_S.rf (lv_entry av hlen)
    rw [← lg_entry_eq] at key
    obtain ⟨t, a1, o, b1, b2, b3⟩ := key s₁ hh0 (Stand.of_body B)
    exact ⟨t, o, a1, b1, b2, ⟨b3.1, b3.2⟩⟩
theorem zk_MN {ρ α : Type} {E : zk_Env} {l : Launch} {y : MethodName} {ws ws' : List Cond} {rm : Room} {av : List Value} {w : va_W} {o : Option ρ} {w' : ρ → α → va_W} {mc ms : Nat} {cc : ByteArray} {nL : Nat} (hy : plainName y.cls = true) (hw : ws = Cond.code y cc nL none :: ws') (hlen : (lg_sl av).length ≤ nL) (hn : y.name = "<init>")
    (body : ∀ (X : zk_X) (Q : ρ → State → Prop), Q = zk_Qq E X w' mc ms → X.2.2.2.2.2.2.1.name = "<init>" → zk_G E l X cc nL none y.cls ws rm 0 0 Q w (lv_args 0 av) 0 [] o) : zk_Mn E l y ws rm av w o w' mc ms := by
  intro r hr sz
  refine Met.ofW (cc := cc) (maxL := nL) (ret := none) hy hw ?_
  intro p e s m args below meth c s₁ B hml hv
  obtain ⟨rfl, hsz, hP, hE, hD⟩ := hv
  subst hsz
  rw [lg_entry_eq]
  have hin : meth.name = "<init>" := (name_of_methodNamed B.named B.method).1.trans hn
  have key := body (p, e, s, m, av.toArray, below, meth, c, w) _ rfl hin r hr ⟨B.exec, B.bytes, hml, B.returns, findClass_of_methodNamed B.named, atoms_spec (ws := ws) B.pre, hE, B.notSynchronized⟩ s.heap [] _ hP hD.self va_S.rf (lv_entry av hlen)
  exact key
theorem zk_callI {ρ ρ' α : Type} {E : zk_Env} {l : Launch} {X : zk_X} {cc : ByteArray} {nL : Nat} {ret : Option FieldType} {own : String} {Ts : List Cond} {R : Room} {kc ks : Nat} {Q : ρ → State → Prop} {w : va_W} {lv : List (Nat × Value)} {pc : Nat} {st : List Value} {y : MethodName} {bytes : ByteArray} {maxL : Nat} {ws ws' : List Cond} {rm : Room} {b : Nat} {wc : va_W} {o : Option ρ'} {wc' : ρ' → α → va_W} {index mc ms : Nat} {kf : ρ' → Option ρ}
    (hM : zk_Mn E l y ws rm [.ref b] wc o wc' mc ms) (hdg : decode cc pc = .ok (.invokespecial index, 3)) (hG : GoodIn Ts ws) (hws : ws = Cond.code y bytes maxL none :: ws') (hrc : rm.cells = mc) (hrs : rm.slots = ms) (hini : Cond.initialized y.cls ∈ Ts) (hlink : Cond.methodLink own index y ∈ Ts) (hinst : Cond.instanceMethod y ∈ Ts) (hy1 : y.name = "<init>")
    (hd : y.cls ≠ "java/lang/invoke/MethodHandle" ∧ y.cls ≠ "java/lang/invoke/VarHandle" ∧ (parseMethodDescriptor y.desc).map (fun d => d.parameters.length) = some 0) (hR : rm.frames + 1 ≤ R.frames ∧ 8 + (maxL + 11) + rm.locals ≤ R.locals) (kc' ks' : Nat) (hkc : kc + mc = kc') (hks : ks + ms = ks') (hc1 : kc' ≤ R.cells) (hs1 : ks' ≤ R.slots)
    (wr : va_W) (w1 : ρ' → α → va_W) (hp : w.Perm (wc ++ wr)) (hp1 : ∀ r a, (wc' r a ++ wr).Perm (w1 r a)) (hst : (st.map fun v => v.category).sum ≤ 8) (pc' : Nat) (hpc : pc + 3 = pc') (kk : ∀ r a, zk_G E l X cc nL ret own Ts R kc' ks' Q (w1 r a) lv pc' st (kf r)) : zk_G E l X cc nL ret own Ts R kc ks Q w lv pc (.ref b :: st) (o.bind kf) := by
  obtain ⟨p, e, s, m, args, below, meth, c, w0⟩ := X
  intro r hr hC H locs ls hP hD hS hl
  obtain ⟨hx, hb, hml, hret, hown, hts, hE, hlk⟩ := id hC
  obtain ⟨r1, ho, hr1⟩ := zk_bind_e hr
  subst hpc
  subst hkc
  subst hks
  obtain ⟨hPc, hDc, hF⟩ := zk_pre hP hD hS zk_hA hp
  have hcw := cwI (args := args) (s := s) (R := R) (rm := rm) (mc := mc) (ms := ms) (bytes := bytes) (maxL := maxL) 0 hts hG hws hrc hrs (hts _ hini) (hts _ hlink) (hts _ hinst) hy1 hd hR
  have run := va_runI (p := p) (e := e) (below := below) (meth := meth) (H := H) (locs := locs) (cells := kc) (slots := ks) (g := F0 m pc ls (.ref b :: st)) (As := []) (rest := st) ⟨hx, hb, hml, hown, hts⟩ (hM r1 ho H.size) hcw
    ⟨fun a U g mk q => by obtain ⟨q0, q1, q2, q3, q4⟩ := q; exact ⟨q0, q1, q2, zk_E.calling q3, q4⟩, fun U hU hW => ⟨rfl, by rw [hU], by rw [hU]; exact hPc, zk_E.warm hE hS hF hU hW, hDc⟩⟩ rfl rfl hl.1 rfl (lv_room hst) hdg ⟨hc1, hs1⟩
  intro T hT X'
  obtain ⟨v, st0, t, T', L, h0, X2, hL, e1, e2, ⟨⟨a1, hv, hP1, hD1⟩, hz, hk⟩, go⟩ := run T hT X'
  rw [h0] at hz hk
  cases hv
  obtain ⟨hP2, hD2⟩ := zk_post (wc' := wc' r1 a1) hP hD hp hk hF hP1 hD1
  rw [← e1] at hP2
  have hS1 : va_S (va_A w0 s.heap.size) s.heap T'.heap (locs ++ L) := ⟨Nat.le_trans hS.1 (by rw [e1]; exact hz), fun q h1 h2 => by rw [e1, hk q (Nat.lt_of_lt_of_le h1 hS.1) (fun z => h2 (hF q z))]; exact hS.2.1 q h1 h2, fun q hq => by
    rcases List.mem_append.mp hq with h | h
    · exact hS.2.2 q h
    · exact hF _ (hL q h)⟩
  obtain ⟨t2, g1, g2⟩ := kk r1 a1 r hr1 hC T'.heap (locs ++ L) ls (zk_P_perm (hp1 r1 a1) hP2) (zk_D_perm (hp1 r1 a1) hD2) hS1 hl T' rfl X2
  exact ⟨t2, go t2 g1, g2⟩
theorem zk_callIN {ρ ρ' α : Type} {E : zk_Env} {l : Launch} {X : zk_X} {cc : ByteArray} {nL : Nat} {ret : Option FieldType} {own : String} {Ts : List Cond} {R : Room} {kc ks : Nat} {Q : ρ → State → Prop} {w : va_W} {lv : List (Nat × Value)} {pc : Nat} {st : List Value} {y : MethodName} {bytes : ByteArray} {maxL : Nat} {ws ws' : List Cond} {rm : Room} {b : Nat} {wc : va_W} {o : Option ρ'} {wc' : ρ' → α → va_W} {index mc ms : Nat} {kf : ρ' → Option ρ}
    (hM : zk_Mn E l y ws rm [.ref b] wc o wc' mc ms) (hdg : decode cc pc = .ok (.invokespecial index, 3)) (hG : GoodIn Ts ws) (hws : ws = Cond.code y bytes maxL none :: ws') (hrc : rm.cells = mc) (hrs : rm.slots = ms) (hini : Cond.initialized y.cls ∈ Ts) (hlink : (own, index, y) ∈ zk_NM) (hinst : Cond.instanceMethod y ∈ Ts) (hy1 : y.name = "<init>")
    (hd : y.cls ≠ "java/lang/invoke/MethodHandle" ∧ y.cls ≠ "java/lang/invoke/VarHandle" ∧ (parseMethodDescriptor y.desc).map (fun d => d.parameters.length) = some 0) (hR : rm.frames + 1 ≤ R.frames ∧ 8 + (maxL + 11) + rm.locals ≤ R.locals) (kc' ks' : Nat) (hkc : kc + mc = kc') (hks : ks + ms = ks') (hc1 : kc' ≤ R.cells) (hs1 : ks' ≤ R.slots)
    (wr : va_W) (w1 : ρ' → α → va_W) (hp : w.Perm (wc ++ wr)) (hp1 : ∀ r a, (wc' r a ++ wr).Perm (w1 r a)) (hst : (st.map fun v => v.category).sum ≤ 8) (pc' : Nat) (hpc : pc + 3 = pc') (kk : ∀ r a, zk_G E l X cc nL ret own Ts R kc' ks' Q (w1 r a) lv pc' st (kf r)) : zk_G E l X cc nL ret own Ts R kc ks Q w lv pc (.ref b :: st) (o.bind kf) := by
  obtain ⟨p, e, s, m, args, below, meth, c, w0⟩ := X
  intro r hr hC H locs ls hP hD hS hl
  obtain ⟨hx, hb, hml, hret, hown, hts, hE, hlk⟩ := id hC
  obtain ⟨r1, ho, hr1⟩ := zk_bind_e hr
  subst hpc
  subst hkc
  subst hks
  obtain ⟨hPc, hDc, hF⟩ := zk_pre hP hD hS zk_hA hp
  have hcw := va_cnB (args := args) (s := s) (R := R) (rm := rm) (mc := mc) (ms := ms) (bytes := bytes) (maxL := maxL) (ret := none) (own := own) (index := index) (host := RX9) 0 hts hG hws hrc hrs (hE.2.2.1 _ hlink) (hts _ hini) hd hR
  have run := va_runIN (p := p) (e := e) (below := below) (meth := meth) (H := H) (locs := locs) (cells := kc) (slots := ks) (g := F0 m pc ls (.ref b :: st)) (As := []) (rest := st) ⟨hx, hb, hml, hown, hts⟩ (hM r1 ho H.size) ⟨hcw, hy1, hts _ hinst⟩
    ⟨fun a U g mk q => by obtain ⟨q0, q1, q2, q3, q4⟩ := q; exact ⟨q0, q1, q2, zk_E.calling q3, q4⟩, fun U hU hW => ⟨rfl, by rw [hU], by rw [hU]; exact hPc, zk_E.warm hE hS hF hU hW, hDc⟩⟩ rfl rfl hl.1 rfl (lv_room hst) hdg ⟨hc1, hs1⟩
  intro T hT X'
  obtain ⟨v, st0, t, T', L, h0, X2, hL, e1, e2, ⟨⟨a1, hv, hP1, hD1⟩, hz, hk⟩, go⟩ := run T hT X'
  rw [h0] at hz hk
  cases hv
  obtain ⟨hP2, hD2⟩ := zk_post (wc' := wc' r1 a1) hP hD hp hk hF hP1 hD1
  rw [← e1] at hP2
  have hS1 : va_S (va_A w0 s.heap.size) s.heap T'.heap (locs ++ L) := ⟨Nat.le_trans hS.1 (by rw [e1]; exact hz), fun q h1 h2 => by rw [e1, hk q (Nat.lt_of_lt_of_le h1 hS.1) (fun z => h2 (hF q z))]; exact hS.2.1 q h1 h2, fun q hq => by
    rcases List.mem_append.mp hq with h | h
    · exact hS.2.2 q h
    · exact hF _ (hL q h)⟩
  obtain ⟨t2, g1, g2⟩ := kk r1 a1 r hr1 hC T'.heap (locs ++ L) ls (zk_P_perm (hp1 r1 a1) hP2) (zk_D_perm (hp1 r1 a1) hD2) hS1 hl T' rfl X2
  exact ⟨t2, go t2 g1, g2⟩
