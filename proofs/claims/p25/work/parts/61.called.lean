/-! PURE PART: the class alone: how often a promise was called never becomes less in a tick -/
def q_po {α : Type} (P : α → Prop) (o : Option α) : Prop := ∀ r, o = some r → P r
theorem q_po.bind {α β : Type} {P : β → Prop} {o : Option α} {k : α → Option β} (Q : α → Prop) (h : q_po Q o) (h2 : ∀ r, Q r → q_po P (k r)) : q_po P (o.bind k) := by
  intro r e
  cases o with
  | none => cases e
  | some a => exact h2 a (h a rfl) r e
theorem q_po.any {α β : Type} {P : β → Prop} {o : Option α} {k : α → Option β} (h2 : ∀ r, q_po P (k r)) : q_po P (o.bind k) := q_po.bind (fun _ => True) (fun _ _ => trivial) (fun r _ => h2 r)
theorem q_po.eq {α β : Type} {P : β → Prop} {o : Option α} {k : α → Option β} (h2 : ∀ r, o = some r → q_po P (k r)) : q_po P (o.bind k) := q_po.bind (fun r => o = some r) (fun _ e => e) h2
theorem q_po.some {α : Type} {P : α → Prop} {r : α} (h : P r) : q_po P (some r) := by
  intro r' e
  cases e
  exact h
theorem q_po.ite {α : Type} {P : α → Prop} {c : Prop} [Decidable c] {a b : Option α} (h1 : q_po P a) (h2 : q_po P b) : q_po P (if c then a else b) := by
  by_cases h : c
  · rw [if_pos h]
    exact h1
  · rw [if_neg h]
    exact h2
theorem q_po.lett {α β : Type} {P : β → Prop} {x : α} {f : α → Option β} (h : q_po P (f x)) : q_po P (zk_let x f) := fun r e => h r e
theorem q_po.ck {α : Type} {P : α → Prop} {i : Int32} {n : Nat} {k : Option α} (h : q_po P k) : q_po P (zk_ck i n k) := by
  unfold zk_ck
  refine q_po.ite (fun r e => ?_) h
  cases e
theorem q_po.fx {S α : Type} {F : (S → Option α) → S → Option α} {N : Nat} {P : α → Prop} (I : Nat → S → Prop) (h : ∀ k m s, m < N → I m s → (∀ s', I (m + 1) s' → q_po P (k s')) → q_po P (F k s)) : ∀ (fuel m : Nat) (s : S), m + fuel = N → I m s → q_po P (zk_fx F fuel s)
  | 0, m, s, _, _ => fun r e => by cases e
  | fuel + 1, m, s, hm, hi => by
    rw [zk_fx_s]
    exact h _ m s (by omega) hi (fun s' hi' => q_po.fx I h fuel (m + 1) s' (by omega) hi')
/-- each was called up to N times more -/
def q_G (N : Nat) (f g : Nat → Int32) : Prop := ∀ p, p < 40 → ∃ e, e ≤ N ∧ g (p * 6 + 4) = f (p * 6 + 4) + nI e
theorem q_G.refl {f : Nat → Int32} : q_G 0 f f := fun p _ => ⟨0, Nat.le_refl _, (q_p0 _).symm⟩
theorem q_G.trans {N M : Nat} {f g h : Nat → Int32} (a : q_G N f g) (b : q_G M g h) : q_G (N + M) f h := by
  intro p hp
  obtain ⟨e1, h1, k1⟩ := a p hp
  obtain ⟨e2, h2, k2⟩ := b p hp
  exact ⟨e1 + e2, by omega, by rw [k2, k1, Int32.add_assoc, nI_add]⟩
theorem q_G.mono {N M : Nat} {f g : Nat → Int32} (a : q_G N f g) (h : N ≤ M) : q_G M f g := by
  intro p hp
  obtain ⟨e1, h1, k1⟩ := a p hp
  exact ⟨e1, by omega, k1⟩
theorem q_px6 (q w : Nat) : nI q * 6 + nI w = nI (q * 6 + w) := by rw [show nI q * 6 = nI (q * 6) from pk_mul q 6, nI_add]
theorem q_wr {w : Nat} (hw : w < 6) (h4 : w ≠ 4) (x v : Int32) (f : Nat → Int32) : q_po (fun g => q_G 0 f g) (f_X5_write x (nI w) v f) := by
  unfold f_X5_write
  by_cases c1 : x < 0
  · rw [if_pos c1]
    exact q_po.some q_G.refl
  obtain ⟨q, hq, rfl⟩ := nI_of c1
  rw [if_neg c1]
  by_cases c2 : (40 : Int32) ≤ nI q
  · rw [if_pos c2]
    exact q_po.some q_G.refl
  have hq4 : q < 40 := Nat.lt_of_not_le (fun y => c2 (nI_le (a := 40) y hq))
  rw [if_neg c2, if_neg (nI_pos (n := w) (by omega)), if_pos (show nI w < 6 from nI_lt (b := 6) hw (by omega)), q_px6]
  refine q_po.ck (q_po.lett (q_po.some (fun p hp => ⟨0, Nat.le_refl _, ?_⟩)))
  rw [q_cl (by omega), pk_un (by omega)]
  exact (q_p0 _).symm
theorem q_wr4 {x r : Int32} {f : Nat → Int32} (h : f_X5_fact x 4 f = some r) : q_po (fun g => q_G 1 f g) (f_X5_write x 4 (r + 1) f) := by
  unfold f_X5_write
  unfold f_X5_fact at h
  by_cases c1 : x < 0
  · rw [if_pos c1]
    exact q_po.some (q_G.refl.mono (by omega))
  obtain ⟨q, hq, rfl⟩ := nI_of c1
  rw [if_neg c1] at h ⊢
  by_cases c2 : (40 : Int32) ≤ nI q
  · rw [if_pos c2]
    exact q_po.some (q_G.refl.mono (by omega))
  have hq4 : q < 40 := Nat.lt_of_not_le (fun y => c2 (nI_le (a := 40) y hq))
  rw [if_neg c2, if_neg (by decide), if_pos (by decide), show (4 : Int32) = nI 4 from rfl, q_px6] at h ⊢
  rw [q_ck (by omega) (by omega), q_cl (by omega)] at h
  cases h
  refine q_po.ck (q_po.lett (q_po.some (fun p hp => ?_)))
  rw [q_cl (by omega)]
  by_cases e : p = q
  · subst e
    exact ⟨1, Nat.le_refl _, by rw [pk_us]; rfl⟩
  · exact ⟨0, by omega, by rw [pk_un (by omega)]; exact (q_p0 _).symm⟩
theorem q_g_swept (x : Int32) (pr : VX5) (br sw : Int32) : q_po (fun r => q_G 0 pr.1 r.1.1) (f_X8_noteSwept x pr br sw) := by
  unfold f_X8_noteSwept
  exact q_po.bind _ (q_wr (w := 0) (by omega) (by omega) x 4 pr.1) (fun r h => q_po.lett (q_po.lett (q_po.some h)))
theorem q_g_fall (x : Int32) (pr : VX5) (ln : VX3) (now br fl sw : Int32) : q_po (fun r => q_G 0 pr.1 r.1.1) (f_X8_letFall x pr ln now br fl sw) := by
  unfold f_X8_letFall
  refine q_po.any (fun r1 => q_po.lett (q_po.any (fun r2 => ?_)))
  refine q_po.fx (N := zk_N) (fun _ s => q_G 0 pr.1 s.2.1.1) (fun k m s hm hi hk => ?_) zk_N 0 _ (by omega) q_G.refl
  obtain ⟨x4, p1, l1, b1, f1, s1⟩ := s
  unfold F_X8_letFall_23 f_X8_letFall_103
  dsimp only at hi ⊢
  refine q_po.ite (q_po.some hi) (q_po.any (fun r3 => q_po.any (fun r4 => q_po.any (fun r5 => q_po.ite ?_ ?_))))
  · exact q_po.any (fun r6 => q_po.any (fun r7 => q_po.any (fun r8 => q_po.lett (hk _ hi))))
  · exact q_po.bind _ (q_g_swept r3 p1 b1 s1) (fun r6 h6 => hk _ (hi.trans h6))
theorem q_g_arrive (pr : VX5) (ln : VX3) (now br sw : Int32) : q_po (fun r => q_G 0 pr.1 r.1.1) (f_X8_letArrive pr ln now br sw) := by
  unfold f_X8_letArrive
  refine q_po.any (fun r1 => q_po.any (fun r2 => ?_))
  refine q_po.fx (N := zk_N) (fun _ s => q_G 0 pr.1 s.2.1.1) (fun k m s hm hi hk => ?_) zk_N 0 _ (by omega) q_G.refl
  obtain ⟨x4, p1, l1, b1, s1⟩ := s
  unfold F_X8_letArrive_17 f_X8_letArrive_85
  dsimp only at hi ⊢
  refine q_po.ite (q_po.some hi) (q_po.any (fun r3 => q_po.any (fun r4 => q_po.any (fun r5 => q_po.ite ?_ ?_))))
  · exact q_po.bind _ (q_wr (w := 0) (by omega) (by omega) r3 1 p1.1) (fun r6 h6 => q_po.any (fun r7 => hk _ (hi.trans h6)))
  · exact q_po.bind _ (q_g_swept r3 p1 b1 s1) (fun r6 h6 => hk _ (hi.trans h6))
theorem q_g_sweep (pr : VX5) (ln : VX3) (br sw : Int32) : q_po (fun r => q_G 0 pr.1 r.2.1.1) (f_X8_sweepAll pr ln br sw) := by
  unfold f_X8_sweepAll
  refine q_po.fx (N := zk_N) (fun _ s => q_G 0 pr.1 s.2.1.1) (fun k m s hm hi hk => ?_) zk_N 0 _ (by omega) q_G.refl
  obtain ⟨x4, p1, l1, b1, s1⟩ := s
  unfold F_X8_sweepAll_7 f_X8_sweepAll_43
  dsimp only at hi ⊢
  refine q_po.any (fun r0 => q_po.ite (q_po.some hi) (q_po.any (fun r3 => q_po.ite (hk _ hi) (q_po.any (fun r4 => ?_)))))
  exact q_po.bind _ (q_g_swept x4 p1 b1 s1) (fun r6 h6 => hk _ (hi.trans h6))
theorem q_g_call51 (x now drift x2 : Int32) (pr : VX5) (ln : VX3) (dy : VX0) (lt ps : Int32) : q_po (fun r => q_G 1 pr.1 r.1.1) (f_X8_callPromise_51 x now drift x2 pr ln dy lt ps) := by
  unfold f_X8_callPromise_51
  refine q_po.any (fun r1 => q_po.eq (fun r2 h2 => q_po.bind _ (q_wr4 h2) (fun r3 h3 => q_po.any (fun r4 => q_po.ite ?_ ?_))))
  · refine q_po.any (fun r5 => q_po.any (fun r6 => ?_))
    refine q_po.bind _ (q_wr (w := 3) (by omega) (by omega) x (r4 - 1) r3) (fun r7 h7 => ?_)
    refine q_po.bind _ (q_wr (w := 1) (by omega) (by omega) x r6.1 r7) (fun r8 h8 => ?_)
    refine q_po.bind _ (q_wr (w := 0) (by omega) (by omega) x 0 r8) (fun r9 h9 => ?_)
    exact q_po.any (fun r10 => q_po.any (fun r11 => q_po.some (((h3.trans h7).trans h8).trans h9)))
  · exact q_po.bind _ (q_wr (w := 0) (by omega) (by omega) x 2 r3) (fun r7 h7 => q_po.some (h3.trans h7))
theorem q_g_call (x : Int32) (pr : VX5) (ln : VX3) (dy : VX0) (now drift lt ps : Int32) : q_po (fun r => q_G 1 pr.1 r.1.1) (f_X8_callPromise x pr ln dy now drift lt ps) := by
  unfold f_X8_callPromise
  refine q_po.any (fun r1 => q_po.lett (q_po.ite (q_g_call51 _ _ _ _ pr _ _ _ _) (q_po.lett (q_po.any (fun r2 => ?_)))))
  refine q_po.bind _ (q_wr (w := 5) (by omega) (by omega) x (r2 + (now - r1)) pr.1) (fun r3 h3 => ?_)
  exact fun r e => ((h3.trans (q_g_call51 _ _ _ _ (r3, pr.2) _ _ _ _ r e)).mono (by omega))
theorem q_g_serve (pr : VX5) (ln : VX3) (dy : VX0) (now room drift br lt sw ps : Int32) : q_po (fun r => q_G zk_N pr.1 r.1.1) (f_X8_serveQueue pr ln dy now room drift br lt sw ps) := by
  unfold f_X8_serveQueue
  refine q_po.any (fun r1 => ?_)
  refine q_po.fx (N := zk_N) (fun m s => q_G m pr.1 s.2.2.1.1) (fun k m s hm hi hk => ?_) zk_N 0 _ (by omega) q_G.refl
  obtain ⟨x2, x3, p1, l1, d1, b1, t1, s1, o1⟩ := s
  unfold F_X8_serveQueue_14 f_X8_serveQueue_78
  dsimp only at hi ⊢
  have hN := hi.mono (M := zk_N) (Nat.le_of_lt hm)
  refine q_po.ite (q_po.some hN) (q_po.ite (q_po.some hN) (q_po.any (fun r3 => q_po.any (fun r4 => q_po.any (fun r5 => q_po.ite ?_ ?_)))))
  · exact q_po.bind _ (q_g_call r3 p1 r4 d1 now drift t1 o1) (fun r6 h6 => hk _ (hi.trans h6))
  · exact q_po.bind _ (q_g_swept r3 p1 b1 s1) (fun r6 h6 => hk _ ((hi.trans h6).mono (by omega)))
theorem q_g_64 (pr : VX5) (ln : VX3) (dy : VX0) (now br lt fl sw ps lo : Int32) : q_po (fun r => q_G 0 pr.1 r.1.1) (f_X8_passTick_64 pr ln dy now br lt fl sw ps lo) := by
  unfold f_X8_passTick_64
  exact q_po.any (fun r => q_po.lett (q_po.some q_G.refl))
theorem q_g_40 (room bound drift : Int32) (pr : VX5) (ln : VX3) (dy : VX0) (now br lt fl sw ps lo : Int32) : q_po (fun r => q_G zk_N pr.1 r.1.1) (f_X8_passTick_40 room bound drift pr ln dy now br lt fl sw ps lo) := by
  unfold f_X8_passTick_40
  refine q_po.bind _ (q_g_arrive pr ln now br sw) (fun r1 h1 => q_po.bind _ (q_g_serve r1.1 r1.2.1 dy now room drift r1.2.2.1 lt r1.2.2.2 ps) (fun r2 h2 => ?_))
  have h12 : q_G zk_N pr.1 r2.1.1 := (h1.trans h2).mono (by omega)
  refine q_po.ite (fun r e => (h12.trans (q_g_64 r2.1 _ _ _ _ _ _ _ _ _ r e))) (q_po.bind _ (q_g_sweep r2.1 r2.2.1 r2.2.2.2.1 r2.2.2.2.2.2.1) (fun r3 h3 => ?_))
  exact fun r e => ((h12.trans h3).trans (q_g_64 r3.2.1 _ _ _ _ _ _ _ _ _ r e))
theorem q_g_25 (room bound drift : Int32) (pr : VX5) (ln : VX3) (dy : VX0) (now br lt fl sw ps lo : Int32) : q_po (fun r => q_G zk_N pr.1 r.1.1) (f_X8_passTick_25 room bound drift pr ln dy now br lt fl sw ps lo) := by
  unfold f_X8_passTick_25
  refine q_po.ite (q_po.bind _ (q_g_fall 1 pr ln now br fl sw) (fun r1 h1 => ?_)) (q_g_40 _ _ _ pr _ _ _ _ _ _ _ _ _)
  exact fun r e => ((h1.trans (q_g_40 _ _ _ r1.1 _ _ _ _ _ _ _ _ _ r e)).mono (by omega))
theorem q_g_tick (pr : VX5) (ln : VX3) (dy : VX0) (now room bound drift br lt fl sw ps lo : Int32) : q_po (fun r => q_G zk_N pr.1 r.1.1) (f_X8_passTick pr ln dy now room bound drift br lt fl sw ps lo) := by
  unfold f_X8_passTick
  refine q_po.lett (q_po.ite (q_po.bind _ (q_g_fall 2 pr ln (now + 1) br fl sw) (fun r1 h1 => ?_)) (q_g_25 _ _ _ pr _ _ _ _ _ _ _ _ _))
  exact fun r e => ((h1.trans (q_g_25 _ _ _ r1.1 _ _ _ _ _ _ _ _ _ r e)).mono (by omega))
