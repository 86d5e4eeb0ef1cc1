/-! the law: its own walk, and its function -/
def zk_SX : zk_X → Nat → Nat → (Nat → Int32) → Prop
  | (_, _, s, _, _, _, _, _, w0), b, n, xs => va_X b n xs s s.heap ∧ b < s.heap.size ∧ ¬ va_A w0 s.heap.size b
section ZKL
variable {ρ : Type} {E : zk_Env} {l : Launch} {X : zk_X} {cc : ByteArray} {nL : Nat} {ret : Option FieldType} {own : String} {Ts : List Cond} {R : Room} {kc ks : Nat} {Q : ρ → State → Prop} {w : va_W} {lv : List (Nat × Value)} {pc : Nat} {st : List Value} {o : Option ρ}
theorem zk_sld {b n : Nat} {xs : Nat → Int32} {i : Int32} (hX : zk_SX X b n xs) (hdg : decode cc pc = .ok (.iaload, 1)) (pc' : Nat) (hp : pc + 1 = pc') (kk : zk_G E l X cc nL ret own Ts R kc ks Q w lv pc' (.int (xs i.toNatClampNeg) :: st) o) : zk_G E l X cc nL ret own Ts R kc ks Q w lv pc (.int i :: .ref b :: st) (zk_ck i n o) := by
  obtain ⟨p, e, s, m, args, below, meth, c, w0⟩ := X
  intro r hr hC H locs ls hP hD hS hl
  obtain ⟨hx, hb, hml, hret, hown, hts, hE, hlk⟩ := id hC
  obtain ⟨hin, hr⟩ := zk_ck_e hr
  subst hp
  exact va_sld hx hb hX.1 hX.2.1 hX.2.2 hS hin hdg (kk r hr hC H locs ls hP hD hS hl)
theorem zk_scrl {b n : Nat} {xs : Nat → Int32} (hX : zk_SX X b n xs) (hdg : decode cc pc = .ok (.arraylength, 1)) (pc' : Nat) (hp : pc + 1 = pc') (kk : zk_G E l X cc nL ret own Ts R kc ks Q w lv pc' (.int (Int32.ofNat n) :: st) o) : zk_G E l X cc nL ret own Ts R kc ks Q w lv pc (.ref b :: st) o := by
  obtain ⟨p, e, s, m, args, below, meth, c, w0⟩ := X
  intro r hr hC H locs ls hP hD hS hl
  obtain ⟨hx, hb, hml, hret, hown, hts, hE, hlk⟩ := id hC
  subst hp
  exact va_slen hx hb hX.1 hX.2.1 hX.2.2 hS hdg (kk r hr hC H locs ls hP hD hS hl)
end ZKL

def f_L_law_722 (k18 : Int32 × VX6 × VX2 × VX4 × VX1 × (Nat → Int32) × (Nat → Int32) × (Nat → Int32) × (Nat → Int32) × (Nat → Int32) × Int32 × (Nat → Int32) × (Nat → Int32) × (Nat → Int32) × Int32 × (Nat → Int32) × Int32 × Int32 × Int32 × Int32 × (Nat → Int32) → Option (Int32)) (x3 : Int32) (v_state : VX6) (v_history : VX2) (v_program : VX4) (v_forecast : VX1) (u_z : (Nat → Int32)) (u_snaps : (Nat → Int32)) (u_hasSnap : (Nat → Int32)) (u_past : (Nat → Int32)) (u_pastHas : (Nat → Int32)) (u_pastMany : Int32) (u_before : (Nat → Int32)) (u_spare : (Nat → Int32)) (u_text : (Nat → Int32)) (u_typed : Int32) (u_failure : (Nat → Int32)) (u_hasFailed : Int32) (u_isQuiet : Int32) (u_from : Int32) (u_end : Int32) (u_numbers : (Nat → Int32)) : Option (Int32) := k18 ((x3 + 4), v_state, v_history, v_program, v_forecast, u_z, u_snaps, u_hasSnap, u_past, u_pastHas, u_pastMany, u_before, u_spare, u_text, u_typed, u_failure, u_hasFailed, u_isQuiet, u_from, u_end, u_numbers)
def F_L_law_18 (lng : Nat) (xs : (Nat → Int32)) (k18 : Int32 × VX6 × VX2 × VX4 × VX1 × (Nat → Int32) × (Nat → Int32) × (Nat → Int32) × (Nat → Int32) × (Nat → Int32) × Int32 × (Nat → Int32) × (Nat → Int32) × (Nat → Int32) × Int32 × (Nat → Int32) × Int32 × Int32 × Int32 × Int32 × (Nat → Int32) → Option (Int32)) : Int32 × VX6 × VX2 × VX4 × VX1 × (Nat → Int32) × (Nat → Int32) × (Nat → Int32) × (Nat → Int32) × (Nat → Int32) × Int32 × (Nat → Int32) × (Nat → Int32) × (Nat → Int32) × Int32 × (Nat → Int32) × Int32 × Int32 × Int32 × Int32 × (Nat → Int32) → Option (Int32) := fun s => match s with
  | (x3, v_state, v_history, v_program, v_forecast, u_z, u_snaps, u_hasSnap, u_past, u_pastHas, u_pastMany, u_before, u_spare, u_text, u_typed, u_failure, u_hasFailed, u_isQuiet, u_from, u_end, u_numbers) => if ((Int32.ofNat lng) - 4) < x3 then some 1 else zk_ck x3 lng (zk_let ((xs x3.toNatClampNeg) &&& 31) fun w1 => if w1 = 0 then zk_ck (x3 + 1) lng (zk_ck (x3 + 2) lng (zk_ck (x3 + 3) lng ((f_X9_give (xs (x3 + 1).toNatClampNeg) (xs (x3 + 2).toNatClampNeg) (xs (x3 + 3).toNatClampNeg) v_state v_history).bind fun r152 => zk_ck (x3 + 1) lng (zk_ck (x3 + 2) lng (zk_ck (x3 + 3) lng ((f_X10_give (xs (x3 + 1).toNatClampNeg) (xs (x3 + 2).toNatClampNeg) (xs (x3 + 3).toNatClampNeg) u_z u_snaps u_hasSnap u_past u_pastHas u_pastMany u_before u_isQuiet).bind fun r171 => if r152.1 = r171.1 then f_L_law_722 k18 x3 r152.2.1 r152.2.2 v_program v_forecast r171.2.1 u_snaps u_hasSnap r171.2.2.1 r171.2.2.2.1 r171.2.2.2.2 u_before u_spare u_text u_typed u_failure u_hasFailed u_isQuiet u_from u_end u_numbers else some 0)))))) else if w1 = 1 then zk_ck (x3 + 1) lng ((f_X9_breakOff (xs (x3 + 1).toNatClampNeg) v_state v_history).bind fun r185 => zk_ck (x3 + 1) lng ((f_X10_breakOff (xs (x3 + 1).toNatClampNeg) u_z u_snaps u_hasSnap u_past u_pastHas u_pastMany u_before u_isQuiet).bind fun r194 => if r185.1 = r194.1 then f_L_law_722 k18 x3 r185.2.1 r185.2.2 v_program v_forecast r194.2.1 u_snaps u_hasSnap r194.2.2.1 r194.2.2.2.1 r194.2.2.2.2 u_before u_spare u_text u_typed u_failure u_hasFailed u_isQuiet u_from u_end u_numbers else some 0)) else if w1 = 2 then zk_ck (x3 + 1) lng (zk_ck (x3 + 2) lng ((f_X9_move (xs (x3 + 1).toNatClampNeg) (xs (x3 + 2).toNatClampNeg) v_state v_history).bind fun r213 => zk_ck (x3 + 1) lng (zk_ck (x3 + 2) lng ((f_X10_move (xs (x3 + 1).toNatClampNeg) (xs (x3 + 2).toNatClampNeg) u_z u_snaps u_hasSnap u_past u_pastHas u_pastMany u_before u_isQuiet).bind fun r227 => if r213.1 = r227.1 then f_L_law_722 k18 x3 r213.2.1 r213.2.2 v_program v_forecast r227.2.1 u_snaps u_hasSnap r227.2.2.1 r227.2.2.2.1 r227.2.2.2.2 u_before u_spare u_text u_typed u_failure u_hasFailed u_isQuiet u_from u_end u_numbers else some 0)))) else if w1 = 3 then zk_ck (x3 + 1) lng ((f_X9_pass (xs (x3 + 1).toNatClampNeg) v_state v_history).bind fun r241 => zk_ck (x3 + 1) lng ((f_X10_pass (xs (x3 + 1).toNatClampNeg) u_z u_snaps u_hasSnap u_past u_pastHas u_pastMany u_before u_isQuiet).bind fun r250 => if r241.1 = r250.1 then f_L_law_722 k18 x3 r241.2.1 r241.2.2 v_program v_forecast r250.2.1 u_snaps u_hasSnap r250.2.2.1 r250.2.2.2.1 r250.2.2.2.2 u_before u_spare u_text u_typed u_failure u_hasFailed u_isQuiet u_from u_end u_numbers else some 0)) else if w1 = 4 then (f_X9_sweep v_state v_history).bind fun r259 => (f_X10_sweep u_z u_snaps u_hasSnap u_past u_pastHas u_pastMany u_before u_isQuiet).bind fun r263 => if r259.1 = r263.1 then f_L_law_722 k18 x3 r259.2.1 r259.2.2 v_program v_forecast r263.2.1 u_snaps u_hasSnap r263.2.2.1 r263.2.2.2.1 r263.2.2.2.2 u_before u_spare u_text u_typed u_failure u_hasFailed u_isQuiet u_from u_end u_numbers else some 0 else if w1 = 5 then zk_ck (x3 + 1) lng (zk_ck (x3 + 2) lng ((f_X9_set (xs (x3 + 1).toNatClampNeg) (xs (x3 + 2).toNatClampNeg) v_state v_history).bind fun r282 => zk_ck (x3 + 1) lng (zk_ck (x3 + 2) lng ((f_X10_set (xs (x3 + 1).toNatClampNeg) (xs (x3 + 2).toNatClampNeg) u_z u_snaps u_hasSnap u_past u_pastHas u_pastMany u_before u_isQuiet).bind fun r296 => if r282.1 = r296.1 then f_L_law_722 k18 x3 r282.2.1 r282.2.2 v_program v_forecast r296.2.1 u_snaps u_hasSnap r296.2.2.1 r296.2.2.2.1 r296.2.2.2.2 u_before u_spare u_text u_typed u_failure u_hasFailed u_isQuiet u_from u_end u_numbers else some 0)))) else if w1 = 6 then zk_ck (x3 + 1) lng ((f_X9_take (xs (x3 + 1).toNatClampNeg) v_state v_history).bind fun r310 => zk_ck (x3 + 1) lng ((f_X10_take (xs (x3 + 1).toNatClampNeg) u_z u_snaps u_hasSnap u_past u_pastHas u_pastMany u_before u_isQuiet).bind fun r319 => if r310.1 = r319.1 then f_L_law_722 k18 x3 r310.2.1 r310.2.2 v_program v_forecast u_z r319.2.1 r319.2.2.1 r319.2.2.2.1 r319.2.2.2.2.1 r319.2.2.2.2.2 u_before u_spare u_text u_typed u_failure u_hasFailed u_isQuiet u_from u_end u_numbers else some 0)) else if w1 = 7 then zk_ck (x3 + 1) lng ((f_X9_restore (xs (x3 + 1).toNatClampNeg) v_state v_history).bind fun r333 => zk_ck (x3 + 1) lng ((f_X10_restore (xs (x3 + 1).toNatClampNeg) u_z u_snaps u_hasSnap u_past u_pastHas u_pastMany u_before u_isQuiet).bind fun r342 => if r333.1 = r342.1 then f_L_law_722 k18 x3 r333.2.1 r333.2.2 v_program v_forecast r342.2.1 u_snaps u_hasSnap r342.2.2.1 r342.2.2.2.1 r342.2.2.2.2 u_before u_spare u_text u_typed u_failure u_hasFailed u_isQuiet u_from u_end u_numbers else some 0)) else if w1 = 8 then (f_X9_undo v_state v_history).bind fun r351 => (f_X10_undo u_z u_snaps u_hasSnap u_past u_pastHas u_pastMany).bind fun r355 => if r351.1 = r355.1 then f_L_law_722 k18 x3 r351.2.1 r351.2.2 v_program v_forecast r355.2.1 r355.2.2.1 r355.2.2.2.1 u_past u_pastHas r355.2.2.2.2 u_before u_spare u_text u_typed u_failure u_hasFailed u_isQuiet u_from u_end u_numbers else some 0 else if w1 = 9 then zk_ck (x3 + 1) lng ((f_X9_append (xs (x3 + 1).toNatClampNeg) v_program).bind fun r369 => zk_ck (x3 + 1) lng ((f_X10_append (xs (x3 + 1).toNatClampNeg) u_text u_typed).bind fun r378 => if r369.1 = r378.1 then f_L_law_722 k18 x3 v_state v_history r369.2 v_forecast u_z u_snaps u_hasSnap u_past u_pastHas u_pastMany u_before u_spare r378.2.1 r378.2.2 u_failure u_hasFailed u_isQuiet u_from u_end u_numbers else some 0)) else if w1 = 10 then (f_X9_clearText v_program).bind fun r387 => (f_X10_clearText u_typed).bind fun r391 => if r387.1 = r391.1 then f_L_law_722 k18 x3 v_state v_history r387.2 v_forecast u_z u_snaps u_hasSnap u_past u_pastHas u_pastMany u_before u_spare u_text r391.2 u_failure u_hasFailed u_isQuiet u_from u_end u_numbers else some 0 else if w1 = 11 then (f_X9_run v_state v_history v_program).bind fun r400 => (f_X10_run u_z u_snaps u_hasSnap u_past u_pastHas u_pastMany u_before u_text u_typed u_failure u_hasFailed u_isQuiet u_from u_end u_numbers).bind fun r404 => if r400.1 = r404.1 then f_L_law_722 k18 x3 r400.2.1 r400.2.2.1 r400.2.2.2 v_forecast r404.2.1 u_snaps u_hasSnap r404.2.2.1 r404.2.2.2.1 r404.2.2.2.2.1 r404.2.2.2.2.2.1 u_spare u_text r404.2.2.2.2.2.2.1 r404.2.2.2.2.2.2.2.1 r404.2.2.2.2.2.2.2.2.1 r404.2.2.2.2.2.2.2.2.2.1 r404.2.2.2.2.2.2.2.2.2.2.1 r404.2.2.2.2.2.2.2.2.2.2.2.1 r404.2.2.2.2.2.2.2.2.2.2.2.2 else some 0 else if w1 = 12 then zk_ck (x3 + 1) lng ((f_X9_failure (xs (x3 + 1).toNatClampNeg) v_program).bind fun r418 => zk_ck (x3 + 1) lng ((f_X10_failure (xs (x3 + 1).toNatClampNeg) u_failure u_hasFailed).bind fun r427 => if r418 = r427 then f_L_law_722 k18 x3 v_state v_history v_program v_forecast u_z u_snaps u_hasSnap u_past u_pastHas u_pastMany u_before u_spare u_text u_typed u_failure u_hasFailed u_isQuiet u_from u_end u_numbers else some 0)) else if w1 = 13 then zk_ck (x3 + 1) lng ((f_X9_count (xs (x3 + 1).toNatClampNeg) v_state v_history v_program).bind fun r441 => zk_ck (x3 + 1) lng ((f_X10_count (xs (x3 + 1).toNatClampNeg) u_z u_hasSnap u_pastMany u_typed).bind fun r450 => if r441 = r450 then f_L_law_722 k18 x3 v_state v_history v_program v_forecast u_z u_snaps u_hasSnap u_past u_pastHas u_pastMany u_before u_spare u_text u_typed u_failure u_hasFailed u_isQuiet u_from u_end u_numbers else some 0)) else if w1 = 14 then zk_ck (x3 + 1) lng (zk_ck (x3 + 2) lng ((f_X9_promise (xs (x3 + 1).toNatClampNeg) (xs (x3 + 2).toNatClampNeg) v_state).bind fun r469 => zk_ck (x3 + 1) lng (zk_ck (x3 + 2) lng ((f_X10_promise (xs (x3 + 1).toNatClampNeg) (xs (x3 + 2).toNatClampNeg) u_z).bind fun r483 => if r469 = r483 then f_L_law_722 k18 x3 v_state v_history v_program v_forecast u_z u_snaps u_hasSnap u_past u_pastHas u_pastMany u_before u_spare u_text u_typed u_failure u_hasFailed u_isQuiet u_from u_end u_numbers else some 0)))) else if w1 = 15 then zk_ck (x3 + 1) lng (zk_ck (x3 + 2) lng (zk_ck (x3 + 3) lng ((f_X9_slot (xs (x3 + 1).toNatClampNeg) (xs (x3 + 2).toNatClampNeg) (xs (x3 + 3).toNatClampNeg) v_state).bind fun r507 => zk_ck (x3 + 1) lng (zk_ck (x3 + 2) lng (zk_ck (x3 + 3) lng ((f_X10_slot (xs (x3 + 1).toNatClampNeg) (xs (x3 + 2).toNatClampNeg) (xs (x3 + 3).toNatClampNeg) u_z).bind fun r526 => if r507 = r526 then f_L_law_722 k18 x3 v_state v_history v_program v_forecast u_z u_snaps u_hasSnap u_past u_pastHas u_pastMany u_before u_spare u_text u_typed u_failure u_hasFailed u_isQuiet u_from u_end u_numbers else some 0)))))) else if w1 = 16 then zk_ck (x3 + 1) lng (zk_ck (x3 + 2) lng (zk_ck (x3 + 3) lng ((f_X9_stands (xs (x3 + 1).toNatClampNeg) (xs (x3 + 2).toNatClampNeg) (xs (x3 + 3).toNatClampNeg) v_state).bind fun r550 => zk_ck (x3 + 1) lng (zk_ck (x3 + 2) lng (zk_ck (x3 + 3) lng ((f_X10_stands (xs (x3 + 1).toNatClampNeg) (xs (x3 + 2).toNatClampNeg) (xs (x3 + 3).toNatClampNeg) u_z).bind fun r569 => if r550 = r569 then f_L_law_722 k18 x3 v_state v_history v_program v_forecast u_z u_snaps u_hasSnap u_past u_pastHas u_pastMany u_before u_spare u_text u_typed u_failure u_hasFailed u_isQuiet u_from u_end u_numbers else some 0)))))) else if w1 = 17 then zk_ck (x3 + 1) lng (zk_ck (x3 + 2) lng ((f_X9_call (xs (x3 + 1).toNatClampNeg) (xs (x3 + 2).toNatClampNeg) v_state).bind fun r588 => zk_ck (x3 + 1) lng (zk_ck (x3 + 2) lng ((f_X10_call (xs (x3 + 1).toNatClampNeg) (xs (x3 + 2).toNatClampNeg) u_z).bind fun r602 => if r588 = r602 then f_L_law_722 k18 x3 v_state v_history v_program v_forecast u_z u_snaps u_hasSnap u_past u_pastHas u_pastMany u_before u_spare u_text u_typed u_failure u_hasFailed u_isQuiet u_from u_end u_numbers else some 0)))) else if w1 = 18 then zk_ck (x3 + 1) lng (zk_ck (x3 + 2) lng ((f_X9_next (xs (x3 + 1).toNatClampNeg) (xs (x3 + 2).toNatClampNeg) v_state).bind fun r621 => zk_ck (x3 + 1) lng (zk_ck (x3 + 2) lng ((f_X10_next (xs (x3 + 1).toNatClampNeg) (xs (x3 + 2).toNatClampNeg) u_z).bind fun r635 => if r621 = r635 then f_L_law_722 k18 x3 v_state v_history v_program v_forecast u_z u_snaps u_hasSnap u_past u_pastHas u_pastMany u_before u_spare u_text u_typed u_failure u_hasFailed u_isQuiet u_from u_end u_numbers else some 0)))) else if w1 = 19 then zk_ck (x3 + 1) lng ((f_X9_when (xs (x3 + 1).toNatClampNeg) v_state v_forecast).bind fun r649 => zk_ck (x3 + 1) lng ((f_X10_when (xs (x3 + 1).toNatClampNeg) u_z u_spare).bind fun r658 => if r649.1 = r658.1 then f_L_law_722 k18 x3 v_state v_history v_program r649.2 r658.2.1 u_snaps u_hasSnap u_past u_pastHas u_pastMany u_before r658.2.2 u_text u_typed u_failure u_hasFailed u_isQuiet u_from u_end u_numbers else some 0)) else if w1 = 20 then zk_ck (x3 + 1) lng (zk_ck (x3 + 2) lng ((f_X9_would (xs (x3 + 1).toNatClampNeg) (xs (x3 + 2).toNatClampNeg) v_state v_forecast).bind fun r677 => zk_ck (x3 + 1) lng (zk_ck (x3 + 2) lng ((f_X10_would (xs (x3 + 1).toNatClampNeg) (xs (x3 + 2).toNatClampNeg) u_z u_spare).bind fun r691 => if r677.1 = r691.1 then f_L_law_722 k18 x3 v_state v_history v_program r677.2 r691.2.1 u_snaps u_hasSnap u_past u_pastHas u_pastMany u_before r691.2.2 u_text u_typed u_failure u_hasFailed u_isQuiet u_from u_end u_numbers else some 0)))) else if w1 = 21 then zk_ck (x3 + 1) lng ((f_X9_leastRoom (xs (x3 + 1).toNatClampNeg) v_state v_forecast).bind fun r705 => zk_ck (x3 + 1) lng ((f_X10_leastRoom (xs (x3 + 1).toNatClampNeg) u_z u_spare).bind fun r714 => if r705.1 = r714.1 then f_L_law_722 k18 x3 v_state v_history v_program r705.2 r714.2.1 u_snaps u_hasSnap u_past u_pastHas u_pastMany u_before r714.2.2 u_text u_typed u_failure u_hasFailed u_isQuiet u_from u_end u_numbers else some 0)) else f_L_law_722 k18 x3 v_state v_history v_program v_forecast u_z u_snaps u_hasSnap u_past u_pastHas u_pastMany u_before u_spare u_text u_typed u_failure u_hasFailed u_isQuiet u_from u_end u_numbers)
def f_L_law (lng : Nat) (xs : (Nat → Int32)) (v_state : VX6) (v_history : VX2) (v_program : VX4) (v_forecast : VX1) (u_z : (Nat → Int32)) (u_snaps : (Nat → Int32)) (u_hasSnap : (Nat → Int32)) (u_past : (Nat → Int32)) (u_pastHas : (Nat → Int32)) (u_pastMany : Int32) (u_before : (Nat → Int32)) (u_spare : (Nat → Int32)) (u_text : (Nat → Int32)) (u_typed : Int32) (u_failure : (Nat → Int32)) (u_hasFailed : Int32) (u_isQuiet : Int32) (u_from : Int32) (u_end : Int32) (u_numbers : (Nat → Int32)) : Option (Int32) := zk_fx (F_L_law_18 lng xs ) zk_N (0, v_state, v_history, v_program, v_forecast, u_z, u_snaps, u_hasSnap, u_past, u_pastHas, u_pastMany, u_before, u_spare, u_text, u_typed, u_failure, u_hasFailed, u_isQuiet, u_from, u_end, u_numbers)
set_option maxRecDepth 100000 in
set_option maxHeartbeats 8000000 in
theorem c_law (E : zk_Env) (l : Launch) (X : zk_X) (Q : Int32 → State → Prop) (b lng : Nat) (xs : Nat → Int32) (hX : zk_SX X b lng xs) (h1 : ∀ w lv, zk_G E l X cL_law 4 (some .boolean) yL_law.cls wsL_law room_1 283 17684 Q w lv 729 [.int 1] (some 1)) (h0 : ∀ w lv pc, zk_G E l X cL_law 4 (some .boolean) yL_law.cls wsL_law room_1 283 17684 Q w lv pc [.int 0] (some 0)) (ax : aX9) (vx : VX9) (am : aX10) (vm : VX10) : zk_G E l X cL_law 4 (some .boolean) yL_law.cls wsL_law room_1 283 17684 Q (zk_j [gX9 E ax vx, gX10 E am vm]) [(2, .ref am.1), (1, .ref ax.1), (0, .ref b)] 16 [] (f_L_law lng xs vx.1 vx.2.1 vx.2.2.1 vx.2.2.2 vm.1 vm.2.1 vm.2.2.1 vm.2.2.2.1 vm.2.2.2.2.1 vm.2.2.2.2.2.1 vm.2.2.2.2.2.2.1 vm.2.2.2.2.2.2.2.1 vm.2.2.2.2.2.2.2.2.1 vm.2.2.2.2.2.2.2.2.2.1 vm.2.2.2.2.2.2.2.2.2.2.1 vm.2.2.2.2.2.2.2.2.2.2.2.1 vm.2.2.2.2.2.2.2.2.2.2.2.2.1 vm.2.2.2.2.2.2.2.2.2.2.2.2.2.1 vm.2.2.2.2.2.2.2.2.2.2.2.2.2.2.1 vm.2.2.2.2.2.2.2.2.2.2.2.2.2.2.2) := by
  obtain ⟨v_state, v_history, v_program, v_forecast⟩ := vx
  obtain ⟨u_z, u_snaps, u_hasSnap, u_past, u_pastHas, u_pastMany, u_before, u_spare, u_text, u_typed, u_failure, u_hasFailed, u_isQuiet, u_from, u_end, u_numbers⟩ := vm
  have J722 : ∀ (k18 : Int32 × VX6 × VX2 × VX4 × VX1 × (Nat → Int32) × (Nat → Int32) × (Nat → Int32) × (Nat → Int32) × (Nat → Int32) × Int32 × (Nat → Int32) × (Nat → Int32) × (Nat → Int32) × Int32 × (Nat → Int32) × Int32 × Int32 × Int32 × Int32 × (Nat → Int32) → Option (Int32)) (hk18 : ∀ s : Int32 × VX6 × VX2 × VX4 × VX1 × (Nat → Int32) × (Nat → Int32) × (Nat → Int32) × (Nat → Int32) × (Nat → Int32) × Int32 × (Nat → Int32) × (Nat → Int32) × (Nat → Int32) × Int32 × (Nat → Int32) × Int32 × Int32 × Int32 × Int32 × (Nat → Int32), zk_G E l X cL_law 4 (some .boolean) yL_law.cls wsL_law room_1 283 17684 Q (zk_j [gX9 E ax (s.2.1, s.2.2.1, s.2.2.2.1, s.2.2.2.2.1), gX10 E am (s.2.2.2.2.2.1, s.2.2.2.2.2.2.1, s.2.2.2.2.2.2.2.1, s.2.2.2.2.2.2.2.2.1, s.2.2.2.2.2.2.2.2.2.1, s.2.2.2.2.2.2.2.2.2.2.1, s.2.2.2.2.2.2.2.2.2.2.2.1, s.2.2.2.2.2.2.2.2.2.2.2.2.1, s.2.2.2.2.2.2.2.2.2.2.2.2.2.1, s.2.2.2.2.2.2.2.2.2.2.2.2.2.2.1, s.2.2.2.2.2.2.2.2.2.2.2.2.2.2.2.1, s.2.2.2.2.2.2.2.2.2.2.2.2.2.2.2.2.1, s.2.2.2.2.2.2.2.2.2.2.2.2.2.2.2.2.2.1, s.2.2.2.2.2.2.2.2.2.2.2.2.2.2.2.2.2.2.1, s.2.2.2.2.2.2.2.2.2.2.2.2.2.2.2.2.2.2.2.1, s.2.2.2.2.2.2.2.2.2.2.2.2.2.2.2.2.2.2.2.2)]) [(0, .ref b), (1, .ref ax.1), (2, .ref am.1), (3, .int s.1)] 18 [] (k18 s)) (x3 : Int32) (v_state : VX6) (v_history : VX2) (v_program : VX4) (v_forecast : VX1) (u_z : (Nat → Int32)) (u_snaps : (Nat → Int32)) (u_hasSnap : (Nat → Int32)) (u_past : (Nat → Int32)) (u_pastHas : (Nat → Int32)) (u_pastMany : Int32) (u_before : (Nat → Int32)) (u_spare : (Nat → Int32)) (u_text : (Nat → Int32)) (u_typed : Int32) (u_failure : (Nat → Int32)) (u_hasFailed : Int32) (u_isQuiet : Int32) (u_from : Int32) (u_end : Int32) (u_numbers : (Nat → Int32)), zk_G E l X cL_law 4 (some .boolean) yL_law.cls wsL_law room_1 283 17684 Q (zk_j [gX9 E ax (v_state, v_history, v_program, v_forecast), gX10 E am (u_z, u_snaps, u_hasSnap, u_past, u_pastHas, u_pastMany, u_before, u_spare, u_text, u_typed, u_failure, u_hasFailed, u_isQuiet, u_from, u_end, u_numbers)]) [(0, .ref b), (1, .ref ax.1), (2, .ref am.1), (3, .int x3)] 722 [] (f_L_law_722 k18 x3 v_state v_history v_program v_forecast u_z u_snaps u_hasSnap u_past u_pastHas u_pastMany u_before u_spare u_text u_typed u_failure u_hasFailed u_isQuiet u_from u_end u_numbers) := by
    intro k18 hk18 x3 v_state v_history v_program v_forecast u_z u_snaps u_hasSnap u_past u_pastHas u_pastMany u_before u_spare u_text u_typed u_failure u_hasFailed u_isQuiet u_from u_end u_numbers
    unfold f_L_law_722
    refine zk_iinc (x3 + 4) [(3, .int (x3 + 4)), (0, .ref b), (1, .ref ax.1), (2, .ref am.1)] dL_law_722 3 rfl rfl (by decide) rfl 725 rfl ?_
    refine zk_goto dL_law_725 18 (by decide) ?_
    refine zk_lv [1, 2, 3, 0] rfl ?_
    exact hk18 ((x3 + 4), v_state, v_history, v_program, v_forecast, u_z, u_snaps, u_hasSnap, u_past, u_pastHas, u_pastMany, u_before, u_spare, u_text, u_typed, u_failure, u_hasFailed, u_isQuiet, u_from, u_end, u_numbers)
  have J18 : ∀ (n : Nat) (x3 : Int32) (v_state : VX6) (v_history : VX2) (v_program : VX4) (v_forecast : VX1) (u_z : (Nat → Int32)) (u_snaps : (Nat → Int32)) (u_hasSnap : (Nat → Int32)) (u_past : (Nat → Int32)) (u_pastHas : (Nat → Int32)) (u_pastMany : Int32) (u_before : (Nat → Int32)) (u_spare : (Nat → Int32)) (u_text : (Nat → Int32)) (u_typed : Int32) (u_failure : (Nat → Int32)) (u_hasFailed : Int32) (u_isQuiet : Int32) (u_from : Int32) (u_end : Int32) (u_numbers : (Nat → Int32)), zk_G E l X cL_law 4 (some .boolean) yL_law.cls wsL_law room_1 283 17684 Q (zk_j [gX9 E ax (v_state, v_history, v_program, v_forecast), gX10 E am (u_z, u_snaps, u_hasSnap, u_past, u_pastHas, u_pastMany, u_before, u_spare, u_text, u_typed, u_failure, u_hasFailed, u_isQuiet, u_from, u_end, u_numbers)]) [(0, .ref b), (1, .ref ax.1), (2, .ref am.1), (3, .int x3)] 18 [] (zk_fx (F_L_law_18 lng xs ) n (x3, v_state, v_history, v_program, v_forecast, u_z, u_snaps, u_hasSnap, u_past, u_pastHas, u_pastMany, u_before, u_spare, u_text, u_typed, u_failure, u_hasFailed, u_isQuiet, u_from, u_end, u_numbers)) := by
    intro n x3 v_state v_history v_program v_forecast u_z u_snaps u_hasSnap u_past u_pastHas u_pastMany u_before u_spare u_text u_typed u_failure u_hasFailed u_isQuiet u_from u_end u_numbers
    refine zk_loop (S := Int32 × VX6 × VX2 × VX4 × VX1 × (Nat → Int32) × (Nat → Int32) × (Nat → Int32) × (Nat → Int32) × (Nat → Int32) × Int32 × (Nat → Int32) × (Nat → Int32) × (Nat → Int32) × Int32 × (Nat → Int32) × Int32 × Int32 × Int32 × Int32 × (Nat → Int32)) (F := F_L_law_18 lng xs) (wS := fun s => (zk_j [gX9 E ax (s.2.1, s.2.2.1, s.2.2.2.1, s.2.2.2.2.1), gX10 E am (s.2.2.2.2.2.1, s.2.2.2.2.2.2.1, s.2.2.2.2.2.2.2.1, s.2.2.2.2.2.2.2.2.1, s.2.2.2.2.2.2.2.2.2.1, s.2.2.2.2.2.2.2.2.2.2.1, s.2.2.2.2.2.2.2.2.2.2.2.1, s.2.2.2.2.2.2.2.2.2.2.2.2.1, s.2.2.2.2.2.2.2.2.2.2.2.2.2.1, s.2.2.2.2.2.2.2.2.2.2.2.2.2.2.1, s.2.2.2.2.2.2.2.2.2.2.2.2.2.2.2.1, s.2.2.2.2.2.2.2.2.2.2.2.2.2.2.2.2.1, s.2.2.2.2.2.2.2.2.2.2.2.2.2.2.2.2.2.1, s.2.2.2.2.2.2.2.2.2.2.2.2.2.2.2.2.2.2.1, s.2.2.2.2.2.2.2.2.2.2.2.2.2.2.2.2.2.2.2.1, s.2.2.2.2.2.2.2.2.2.2.2.2.2.2.2.2.2.2.2.2)])) (lS := fun s => [(0, .ref b), (1, .ref ax.1), (2, .ref am.1), (3, .int s.1)]) (sS := fun _ => []) (fun k18 hk18 s => ?_) n (x3, v_state, v_history, v_program, v_forecast, u_z, u_snaps, u_hasSnap, u_past, u_pastHas, u_pastMany, u_before, u_spare, u_text, u_typed, u_failure, u_hasFailed, u_isQuiet, u_from, u_end, u_numbers)
    obtain ⟨x3, v_state, v_history, v_program, v_forecast, u_z, u_snaps, u_hasSnap, u_past, u_pastHas, u_pastMany, u_before, u_spare, u_text, u_typed, u_failure, u_hasFailed, u_isQuiet, u_from, u_end, u_numbers⟩ := s
    unfold F_L_law_18
    try dsimp only
    refine zk_iload_n dL_law_18 3 rfl 19 rfl ?_
    refine zk_aload_n dL_law_19 0 rfl 20 rfl ?_
    refine zk_scrl hX dL_law_20 21 rfl ?_
    refine zk_iconst 4 dL_law_21 (by decide) 22 rfl ?_
    refine zk_isub dL_law_22 23 rfl ?_
    refine zk_icmp_gt dL_law_23 728 (by decide) 26 rfl (fun _ => ?_) (fun _ => ?_)
    · refine zk_iconst 1 dL_law_728 (by decide) 729 rfl ?_
      exact h1 _ _
    · refine zk_aload_n dL_law_26 0 rfl 27 rfl ?_
      refine zk_iload_n dL_law_27 3 rfl 28 rfl ?_
      refine zk_sld hX dL_law_28 29 rfl ?_
      refine zk_bipush 31 dL_law_29 (by decide) 31 rfl ?_
      refine zk_iand dL_law_31 32 rfl ?_
      refine zk_nm (fun w1 => ?_)
      refine zk_if (c := w1 = 0) (fun h32_0 => ?_) (fun h32_0 => ?_)
      · refine zk_tableIn (off := 104) dL_law_32 136 (by rw [h32_0]; decide) (by rw [h32_0]; decide) (by rw [h32_0]; rfl) (by decide) ?_
        refine zk_aload_n dL_law_136 1 rfl 137 rfl ?_
        refine zk_aload_n dL_law_137 0 rfl 138 rfl ?_
        refine zk_iload_n dL_law_138 3 rfl 139 rfl ?_
        refine zk_iconst 1 dL_law_139 (by decide) 140 rfl ?_
        refine zk_iadd dL_law_140 141 rfl ?_
        refine zk_sld hX dL_law_141 142 rfl ?_
        refine zk_aload_n dL_law_142 0 rfl 143 rfl ?_
        refine zk_iload_n dL_law_143 3 rfl 144 rfl ?_
        refine zk_iconst 2 dL_law_144 (by decide) 145 rfl ?_
        refine zk_iadd dL_law_145 146 rfl ?_
        refine zk_sld hX dL_law_146 147 rfl ?_
        refine zk_aload_n dL_law_147 0 rfl 148 rfl ?_
        refine zk_iload_n dL_law_148 3 rfl 149 rfl ?_
        refine zk_iconst 3 dL_law_149 (by decide) 150 rfl ?_
        refine zk_iadd dL_law_150 151 rfl ?_
        refine zk_sld hX dL_law_151 152 rfl ?_
        refine zk_callV (ci := 9) (st := []) (c_X9_give E l ax (v_state, v_history, v_program, v_forecast) (xs (x3 + 1).toNatClampNeg) (xs (x3 + 2).toNatClampNeg) (xs (x3 + 3).toNatClampNeg)) dL_law_152 3 gL_law_X9_give rfl rfl rfl cd_X9_give ⟨Nat.le_of_ble_eq_true rfl, Nat.le_of_ble_eq_true rfl⟩ ⟨Nat.le_of_ble_eq_true rfl, Nat.le_of_ble_eq_true rfl⟩ _ (fun r152 => (zk_j [gX9 E ax (r152.2.1, r152.2.2, v_program, v_forecast), gX10 E am (u_z, u_snaps, u_hasSnap, u_past, u_pastHas, u_pastMany, u_before, u_spare, u_text, u_typed, u_failure, u_hasFailed, u_isQuiet, u_from, u_end, u_numbers)])) (zk_p1 (gs := [gX9 E ax (v_state, v_history, v_program, v_forecast), gX10 E am (u_z, u_snaps, u_hasSnap, u_past, u_pastHas, u_pastMany, u_before, u_spare, u_text, u_typed, u_failure, u_hasFailed, u_isQuiet, u_from, u_end, u_numbers)]) (i := 0) rfl) (fun r152 => (zk_q1 (gs := [gX9 E ax (v_state, v_history, v_program, v_forecast), gX10 E am (u_z, u_snaps, u_hasSnap, u_past, u_pastHas, u_pastMany, u_before, u_spare, u_text, u_typed, u_failure, u_hasFailed, u_isQuiet, u_from, u_end, u_numbers)]) (i := 0) rfl rfl)) rfl rfl rfl rfl (Nat.le_of_ble_eq_true rfl) (fun r152 => [.int r152.1]) (fun _ => rfl) 155 rfl (fun r152 => ?_)
        refine zk_aload_n dL_law_155 2 rfl 156 rfl ?_
        refine zk_aload_n dL_law_156 0 rfl 157 rfl ?_
        refine zk_iload_n dL_law_157 3 rfl 158 rfl ?_
        refine zk_iconst 1 dL_law_158 (by decide) 159 rfl ?_
        refine zk_iadd dL_law_159 160 rfl ?_
        refine zk_sld hX dL_law_160 161 rfl ?_
        refine zk_aload_n dL_law_161 0 rfl 162 rfl ?_
        refine zk_iload_n dL_law_162 3 rfl 163 rfl ?_
        refine zk_iconst 2 dL_law_163 (by decide) 164 rfl ?_
        refine zk_iadd dL_law_164 165 rfl ?_
        refine zk_sld hX dL_law_165 166 rfl ?_
        refine zk_aload_n dL_law_166 0 rfl 167 rfl ?_
        refine zk_iload_n dL_law_167 3 rfl 168 rfl ?_
        refine zk_iconst 3 dL_law_168 (by decide) 169 rfl ?_
        refine zk_iadd dL_law_169 170 rfl ?_
        refine zk_sld hX dL_law_170 171 rfl ?_
        refine zk_callV (ci := 10) (st := [.int r152.1]) (c_X10_give E l am (u_z, u_snaps, u_hasSnap, u_past, u_pastHas, u_pastMany, u_before, u_spare, u_text, u_typed, u_failure, u_hasFailed, u_isQuiet, u_from, u_end, u_numbers) (xs (x3 + 1).toNatClampNeg) (xs (x3 + 2).toNatClampNeg) (xs (x3 + 3).toNatClampNeg)) dL_law_171 3 gL_law_X10_give rfl rfl rfl cd_X10_give ⟨Nat.le_of_ble_eq_true rfl, Nat.le_of_ble_eq_true rfl⟩ ⟨Nat.le_of_ble_eq_true rfl, Nat.le_of_ble_eq_true rfl⟩ _ (fun r171 => (zk_j [gX9 E ax (r152.2.1, r152.2.2, v_program, v_forecast), gX10 E am (r171.2.1, u_snaps, u_hasSnap, r171.2.2.1, r171.2.2.2.1, r171.2.2.2.2, u_before, u_spare, u_text, u_typed, u_failure, u_hasFailed, u_isQuiet, u_from, u_end, u_numbers)])) (zk_p1 (gs := [gX9 E ax (r152.2.1, r152.2.2, v_program, v_forecast), gX10 E am (u_z, u_snaps, u_hasSnap, u_past, u_pastHas, u_pastMany, u_before, u_spare, u_text, u_typed, u_failure, u_hasFailed, u_isQuiet, u_from, u_end, u_numbers)]) (i := 1) rfl) (fun r171 => (zk_q1 (gs := [gX9 E ax (r152.2.1, r152.2.2, v_program, v_forecast), gX10 E am (u_z, u_snaps, u_hasSnap, u_past, u_pastHas, u_pastMany, u_before, u_spare, u_text, u_typed, u_failure, u_hasFailed, u_isQuiet, u_from, u_end, u_numbers)]) (i := 1) rfl rfl)) rfl rfl rfl rfl (Nat.le_of_ble_eq_true rfl) (fun r171 => [.int r171.1, .int r152.1]) (fun _ => rfl) 174 rfl (fun r171 => ?_)
        refine zk_icmp_eq dL_law_174 722 (by decide) 177 rfl (fun _ => ?_) (fun _ => ?_)
        · exact J722  k18 hk18 x3 r152.2.1 r152.2.2 v_program v_forecast r171.2.1 u_snaps u_hasSnap r171.2.2.1 r171.2.2.2.1 r171.2.2.2.2 u_before u_spare u_text u_typed u_failure u_hasFailed u_isQuiet u_from u_end u_numbers
        · refine zk_iconst 0 dL_law_177 (by decide) 178 rfl ?_
          exact h0 _ _ _
      refine zk_if (c := w1 = 1) (fun h32_1 => ?_) (fun h32_1 => ?_)
      · refine zk_tableIn (off := 147) dL_law_32 179 (by rw [h32_1]; decide) (by rw [h32_1]; decide) (by rw [h32_1]; rfl) (by decide) ?_
        refine zk_aload_n dL_law_179 1 rfl 180 rfl ?_
        refine zk_aload_n dL_law_180 0 rfl 181 rfl ?_
        refine zk_iload_n dL_law_181 3 rfl 182 rfl ?_
        refine zk_iconst 1 dL_law_182 (by decide) 183 rfl ?_
        refine zk_iadd dL_law_183 184 rfl ?_
        refine zk_sld hX dL_law_184 185 rfl ?_
        refine zk_callV (ci := 9) (st := []) (c_X9_breakOff E l ax (v_state, v_history, v_program, v_forecast) (xs (x3 + 1).toNatClampNeg)) dL_law_185 1 gL_law_X9_breakOff rfl rfl rfl cd_X9_breakOff ⟨Nat.le_of_ble_eq_true rfl, Nat.le_of_ble_eq_true rfl⟩ ⟨Nat.le_of_ble_eq_true rfl, Nat.le_of_ble_eq_true rfl⟩ _ (fun r185 => (zk_j [gX9 E ax (r185.2.1, r185.2.2, v_program, v_forecast), gX10 E am (u_z, u_snaps, u_hasSnap, u_past, u_pastHas, u_pastMany, u_before, u_spare, u_text, u_typed, u_failure, u_hasFailed, u_isQuiet, u_from, u_end, u_numbers)])) (zk_p1 (gs := [gX9 E ax (v_state, v_history, v_program, v_forecast), gX10 E am (u_z, u_snaps, u_hasSnap, u_past, u_pastHas, u_pastMany, u_before, u_spare, u_text, u_typed, u_failure, u_hasFailed, u_isQuiet, u_from, u_end, u_numbers)]) (i := 0) rfl) (fun r185 => (zk_q1 (gs := [gX9 E ax (v_state, v_history, v_program, v_forecast), gX10 E am (u_z, u_snaps, u_hasSnap, u_past, u_pastHas, u_pastMany, u_before, u_spare, u_text, u_typed, u_failure, u_hasFailed, u_isQuiet, u_from, u_end, u_numbers)]) (i := 0) rfl rfl)) rfl rfl rfl rfl (Nat.le_of_ble_eq_true rfl) (fun r185 => [.int r185.1]) (fun _ => rfl) 188 rfl (fun r185 => ?_)
        refine zk_aload_n dL_law_188 2 rfl 189 rfl ?_
        refine zk_aload_n dL_law_189 0 rfl 190 rfl ?_
        refine zk_iload_n dL_law_190 3 rfl 191 rfl ?_
        refine zk_iconst 1 dL_law_191 (by decide) 192 rfl ?_
        refine zk_iadd dL_law_192 193 rfl ?_
        refine zk_sld hX dL_law_193 194 rfl ?_
        refine zk_callV (ci := 10) (st := [.int r185.1]) (c_X10_breakOff E l am (u_z, u_snaps, u_hasSnap, u_past, u_pastHas, u_pastMany, u_before, u_spare, u_text, u_typed, u_failure, u_hasFailed, u_isQuiet, u_from, u_end, u_numbers) (xs (x3 + 1).toNatClampNeg)) dL_law_194 1 gL_law_X10_breakOff rfl rfl rfl cd_X10_breakOff ⟨Nat.le_of_ble_eq_true rfl, Nat.le_of_ble_eq_true rfl⟩ ⟨Nat.le_of_ble_eq_true rfl, Nat.le_of_ble_eq_true rfl⟩ _ (fun r194 => (zk_j [gX9 E ax (r185.2.1, r185.2.2, v_program, v_forecast), gX10 E am (r194.2.1, u_snaps, u_hasSnap, r194.2.2.1, r194.2.2.2.1, r194.2.2.2.2, u_before, u_spare, u_text, u_typed, u_failure, u_hasFailed, u_isQuiet, u_from, u_end, u_numbers)])) (zk_p1 (gs := [gX9 E ax (r185.2.1, r185.2.2, v_program, v_forecast), gX10 E am (u_z, u_snaps, u_hasSnap, u_past, u_pastHas, u_pastMany, u_before, u_spare, u_text, u_typed, u_failure, u_hasFailed, u_isQuiet, u_from, u_end, u_numbers)]) (i := 1) rfl) (fun r194 => (zk_q1 (gs := [gX9 E ax (r185.2.1, r185.2.2, v_program, v_forecast), gX10 E am (u_z, u_snaps, u_hasSnap, u_past, u_pastHas, u_pastMany, u_before, u_spare, u_text, u_typed, u_failure, u_hasFailed, u_isQuiet, u_from, u_end, u_numbers)]) (i := 1) rfl rfl)) rfl rfl rfl rfl (Nat.le_of_ble_eq_true rfl) (fun r194 => [.int r194.1, .int r185.1]) (fun _ => rfl) 197 rfl (fun r194 => ?_)
        refine zk_icmp_eq dL_law_197 722 (by decide) 200 rfl (fun _ => ?_) (fun _ => ?_)
        · exact J722  k18 hk18 x3 r185.2.1 r185.2.2 v_program v_forecast r194.2.1 u_snaps u_hasSnap r194.2.2.1 r194.2.2.2.1 r194.2.2.2.2 u_before u_spare u_text u_typed u_failure u_hasFailed u_isQuiet u_from u_end u_numbers
        · refine zk_iconst 0 dL_law_200 (by decide) 201 rfl ?_
          exact h0 _ _ _
      refine zk_if (c := w1 = 2) (fun h32_2 => ?_) (fun h32_2 => ?_)
      · refine zk_tableIn (off := 170) dL_law_32 202 (by rw [h32_2]; decide) (by rw [h32_2]; decide) (by rw [h32_2]; rfl) (by decide) ?_
        refine zk_aload_n dL_law_202 1 rfl 203 rfl ?_
        refine zk_aload_n dL_law_203 0 rfl 204 rfl ?_
        refine zk_iload_n dL_law_204 3 rfl 205 rfl ?_
        refine zk_iconst 1 dL_law_205 (by decide) 206 rfl ?_
        refine zk_iadd dL_law_206 207 rfl ?_
        refine zk_sld hX dL_law_207 208 rfl ?_
        refine zk_aload_n dL_law_208 0 rfl 209 rfl ?_
        refine zk_iload_n dL_law_209 3 rfl 210 rfl ?_
        refine zk_iconst 2 dL_law_210 (by decide) 211 rfl ?_
        refine zk_iadd dL_law_211 212 rfl ?_
        refine zk_sld hX dL_law_212 213 rfl ?_
        refine zk_callV (ci := 9) (st := []) (c_X9_move E l ax (v_state, v_history, v_program, v_forecast) (xs (x3 + 1).toNatClampNeg) (xs (x3 + 2).toNatClampNeg)) dL_law_213 2 gL_law_X9_move rfl rfl rfl cd_X9_move ⟨Nat.le_of_ble_eq_true rfl, Nat.le_of_ble_eq_true rfl⟩ ⟨Nat.le_of_ble_eq_true rfl, Nat.le_of_ble_eq_true rfl⟩ _ (fun r213 => (zk_j [gX9 E ax (r213.2.1, r213.2.2, v_program, v_forecast), gX10 E am (u_z, u_snaps, u_hasSnap, u_past, u_pastHas, u_pastMany, u_before, u_spare, u_text, u_typed, u_failure, u_hasFailed, u_isQuiet, u_from, u_end, u_numbers)])) (zk_p1 (gs := [gX9 E ax (v_state, v_history, v_program, v_forecast), gX10 E am (u_z, u_snaps, u_hasSnap, u_past, u_pastHas, u_pastMany, u_before, u_spare, u_text, u_typed, u_failure, u_hasFailed, u_isQuiet, u_from, u_end, u_numbers)]) (i := 0) rfl) (fun r213 => (zk_q1 (gs := [gX9 E ax (v_state, v_history, v_program, v_forecast), gX10 E am (u_z, u_snaps, u_hasSnap, u_past, u_pastHas, u_pastMany, u_before, u_spare, u_text, u_typed, u_failure, u_hasFailed, u_isQuiet, u_from, u_end, u_numbers)]) (i := 0) rfl rfl)) rfl rfl rfl rfl (Nat.le_of_ble_eq_true rfl) (fun r213 => [.int r213.1]) (fun _ => rfl) 216 rfl (fun r213 => ?_)
        refine zk_aload_n dL_law_216 2 rfl 217 rfl ?_
        refine zk_aload_n dL_law_217 0 rfl 218 rfl ?_
        refine zk_iload_n dL_law_218 3 rfl 219 rfl ?_
        refine zk_iconst 1 dL_law_219 (by decide) 220 rfl ?_
        refine zk_iadd dL_law_220 221 rfl ?_
        refine zk_sld hX dL_law_221 222 rfl ?_
        refine zk_aload_n dL_law_222 0 rfl 223 rfl ?_
        refine zk_iload_n dL_law_223 3 rfl 224 rfl ?_
        refine zk_iconst 2 dL_law_224 (by decide) 225 rfl ?_
        refine zk_iadd dL_law_225 226 rfl ?_
        refine zk_sld hX dL_law_226 227 rfl ?_
        refine zk_callV (ci := 10) (st := [.int r213.1]) (c_X10_move E l am (u_z, u_snaps, u_hasSnap, u_past, u_pastHas, u_pastMany, u_before, u_spare, u_text, u_typed, u_failure, u_hasFailed, u_isQuiet, u_from, u_end, u_numbers) (xs (x3 + 1).toNatClampNeg) (xs (x3 + 2).toNatClampNeg)) dL_law_227 2 gL_law_X10_move rfl rfl rfl cd_X10_move ⟨Nat.le_of_ble_eq_true rfl, Nat.le_of_ble_eq_true rfl⟩ ⟨Nat.le_of_ble_eq_true rfl, Nat.le_of_ble_eq_true rfl⟩ _ (fun r227 => (zk_j [gX9 E ax (r213.2.1, r213.2.2, v_program, v_forecast), gX10 E am (r227.2.1, u_snaps, u_hasSnap, r227.2.2.1, r227.2.2.2.1, r227.2.2.2.2, u_before, u_spare, u_text, u_typed, u_failure, u_hasFailed, u_isQuiet, u_from, u_end, u_numbers)])) (zk_p1 (gs := [gX9 E ax (r213.2.1, r213.2.2, v_program, v_forecast), gX10 E am (u_z, u_snaps, u_hasSnap, u_past, u_pastHas, u_pastMany, u_before, u_spare, u_text, u_typed, u_failure, u_hasFailed, u_isQuiet, u_from, u_end, u_numbers)]) (i := 1) rfl) (fun r227 => (zk_q1 (gs := [gX9 E ax (r213.2.1, r213.2.2, v_program, v_forecast), gX10 E am (u_z, u_snaps, u_hasSnap, u_past, u_pastHas, u_pastMany, u_before, u_spare, u_text, u_typed, u_failure, u_hasFailed, u_isQuiet, u_from, u_end, u_numbers)]) (i := 1) rfl rfl)) rfl rfl rfl rfl (Nat.le_of_ble_eq_true rfl) (fun r227 => [.int r227.1, .int r213.1]) (fun _ => rfl) 230 rfl (fun r227 => ?_)
        refine zk_icmp_eq dL_law_230 722 (by decide) 233 rfl (fun _ => ?_) (fun _ => ?_)
        · exact J722  k18 hk18 x3 r213.2.1 r213.2.2 v_program v_forecast r227.2.1 u_snaps u_hasSnap r227.2.2.1 r227.2.2.2.1 r227.2.2.2.2 u_before u_spare u_text u_typed u_failure u_hasFailed u_isQuiet u_from u_end u_numbers
        · refine zk_iconst 0 dL_law_233 (by decide) 234 rfl ?_
          exact h0 _ _ _
      refine zk_if (c := w1 = 3) (fun h32_3 => ?_) (fun h32_3 => ?_)
      · refine zk_tableIn (off := 203) dL_law_32 235 (by rw [h32_3]; decide) (by rw [h32_3]; decide) (by rw [h32_3]; rfl) (by decide) ?_
        refine zk_aload_n dL_law_235 1 rfl 236 rfl ?_
        refine zk_aload_n dL_law_236 0 rfl 237 rfl ?_
        refine zk_iload_n dL_law_237 3 rfl 238 rfl ?_
        refine zk_iconst 1 dL_law_238 (by decide) 239 rfl ?_
        refine zk_iadd dL_law_239 240 rfl ?_
        refine zk_sld hX dL_law_240 241 rfl ?_
        refine zk_callV (ci := 9) (st := []) (c_X9_pass E l ax (v_state, v_history, v_program, v_forecast) (xs (x3 + 1).toNatClampNeg)) dL_law_241 1 gL_law_X9_pass rfl rfl rfl cd_X9_pass ⟨Nat.le_of_ble_eq_true rfl, Nat.le_of_ble_eq_true rfl⟩ ⟨Nat.le_of_ble_eq_true rfl, Nat.le_of_ble_eq_true rfl⟩ _ (fun r241 => (zk_j [gX9 E ax (r241.2.1, r241.2.2, v_program, v_forecast), gX10 E am (u_z, u_snaps, u_hasSnap, u_past, u_pastHas, u_pastMany, u_before, u_spare, u_text, u_typed, u_failure, u_hasFailed, u_isQuiet, u_from, u_end, u_numbers)])) (zk_p1 (gs := [gX9 E ax (v_state, v_history, v_program, v_forecast), gX10 E am (u_z, u_snaps, u_hasSnap, u_past, u_pastHas, u_pastMany, u_before, u_spare, u_text, u_typed, u_failure, u_hasFailed, u_isQuiet, u_from, u_end, u_numbers)]) (i := 0) rfl) (fun r241 => (zk_q1 (gs := [gX9 E ax (v_state, v_history, v_program, v_forecast), gX10 E am (u_z, u_snaps, u_hasSnap, u_past, u_pastHas, u_pastMany, u_before, u_spare, u_text, u_typed, u_failure, u_hasFailed, u_isQuiet, u_from, u_end, u_numbers)]) (i := 0) rfl rfl)) rfl rfl rfl rfl (Nat.le_of_ble_eq_true rfl) (fun r241 => [.int r241.1]) (fun _ => rfl) 244 rfl (fun r241 => ?_)
        refine zk_aload_n dL_law_244 2 rfl 245 rfl ?_
        refine zk_aload_n dL_law_245 0 rfl 246 rfl ?_
        refine zk_iload_n dL_law_246 3 rfl 247 rfl ?_
        refine zk_iconst 1 dL_law_247 (by decide) 248 rfl ?_
        refine zk_iadd dL_law_248 249 rfl ?_
        refine zk_sld hX dL_law_249 250 rfl ?_
        refine zk_callV (ci := 10) (st := [.int r241.1]) (c_X10_pass E l am (u_z, u_snaps, u_hasSnap, u_past, u_pastHas, u_pastMany, u_before, u_spare, u_text, u_typed, u_failure, u_hasFailed, u_isQuiet, u_from, u_end, u_numbers) (xs (x3 + 1).toNatClampNeg)) dL_law_250 1 gL_law_X10_pass rfl rfl rfl cd_X10_pass ⟨Nat.le_of_ble_eq_true rfl, Nat.le_of_ble_eq_true rfl⟩ ⟨Nat.le_of_ble_eq_true rfl, Nat.le_of_ble_eq_true rfl⟩ _ (fun r250 => (zk_j [gX9 E ax (r241.2.1, r241.2.2, v_program, v_forecast), gX10 E am (r250.2.1, u_snaps, u_hasSnap, r250.2.2.1, r250.2.2.2.1, r250.2.2.2.2, u_before, u_spare, u_text, u_typed, u_failure, u_hasFailed, u_isQuiet, u_from, u_end, u_numbers)])) (zk_p1 (gs := [gX9 E ax (r241.2.1, r241.2.2, v_program, v_forecast), gX10 E am (u_z, u_snaps, u_hasSnap, u_past, u_pastHas, u_pastMany, u_before, u_spare, u_text, u_typed, u_failure, u_hasFailed, u_isQuiet, u_from, u_end, u_numbers)]) (i := 1) rfl) (fun r250 => (zk_q1 (gs := [gX9 E ax (r241.2.1, r241.2.2, v_program, v_forecast), gX10 E am (u_z, u_snaps, u_hasSnap, u_past, u_pastHas, u_pastMany, u_before, u_spare, u_text, u_typed, u_failure, u_hasFailed, u_isQuiet, u_from, u_end, u_numbers)]) (i := 1) rfl rfl)) rfl rfl rfl rfl (Nat.le_of_ble_eq_true rfl) (fun r250 => [.int r250.1, .int r241.1]) (fun _ => rfl) 253 rfl (fun r250 => ?_)
        refine zk_icmp_eq dL_law_253 722 (by decide) 256 rfl (fun _ => ?_) (fun _ => ?_)
        · exact J722  k18 hk18 x3 r241.2.1 r241.2.2 v_program v_forecast r250.2.1 u_snaps u_hasSnap r250.2.2.1 r250.2.2.2.1 r250.2.2.2.2 u_before u_spare u_text u_typed u_failure u_hasFailed u_isQuiet u_from u_end u_numbers
        · refine zk_iconst 0 dL_law_256 (by decide) 257 rfl ?_
          exact h0 _ _ _
      refine zk_if (c := w1 = 4) (fun h32_4 => ?_) (fun h32_4 => ?_)
      · refine zk_tableIn (off := 226) dL_law_32 258 (by rw [h32_4]; decide) (by rw [h32_4]; decide) (by rw [h32_4]; rfl) (by decide) ?_
        refine zk_aload_n dL_law_258 1 rfl 259 rfl ?_
        refine zk_callV (ci := 9) (st := []) (c_X9_sweep E l ax (v_state, v_history, v_program, v_forecast)) dL_law_259 0 gL_law_X9_sweep rfl rfl rfl cd_X9_sweep ⟨Nat.le_of_ble_eq_true rfl, Nat.le_of_ble_eq_true rfl⟩ ⟨Nat.le_of_ble_eq_true rfl, Nat.le_of_ble_eq_true rfl⟩ _ (fun r259 => (zk_j [gX9 E ax (r259.2.1, r259.2.2, v_program, v_forecast), gX10 E am (u_z, u_snaps, u_hasSnap, u_past, u_pastHas, u_pastMany, u_before, u_spare, u_text, u_typed, u_failure, u_hasFailed, u_isQuiet, u_from, u_end, u_numbers)])) (zk_p1 (gs := [gX9 E ax (v_state, v_history, v_program, v_forecast), gX10 E am (u_z, u_snaps, u_hasSnap, u_past, u_pastHas, u_pastMany, u_before, u_spare, u_text, u_typed, u_failure, u_hasFailed, u_isQuiet, u_from, u_end, u_numbers)]) (i := 0) rfl) (fun r259 => (zk_q1 (gs := [gX9 E ax (v_state, v_history, v_program, v_forecast), gX10 E am (u_z, u_snaps, u_hasSnap, u_past, u_pastHas, u_pastMany, u_before, u_spare, u_text, u_typed, u_failure, u_hasFailed, u_isQuiet, u_from, u_end, u_numbers)]) (i := 0) rfl rfl)) rfl rfl rfl rfl (Nat.le_of_ble_eq_true rfl) (fun r259 => [.int r259.1]) (fun _ => rfl) 262 rfl (fun r259 => ?_)
        refine zk_aload_n dL_law_262 2 rfl 263 rfl ?_
        refine zk_callV (ci := 10) (st := [.int r259.1]) (c_X10_sweep E l am (u_z, u_snaps, u_hasSnap, u_past, u_pastHas, u_pastMany, u_before, u_spare, u_text, u_typed, u_failure, u_hasFailed, u_isQuiet, u_from, u_end, u_numbers)) dL_law_263 0 gL_law_X10_sweep rfl rfl rfl cd_X10_sweep ⟨Nat.le_of_ble_eq_true rfl, Nat.le_of_ble_eq_true rfl⟩ ⟨Nat.le_of_ble_eq_true rfl, Nat.le_of_ble_eq_true rfl⟩ _ (fun r263 => (zk_j [gX9 E ax (r259.2.1, r259.2.2, v_program, v_forecast), gX10 E am (r263.2.1, u_snaps, u_hasSnap, r263.2.2.1, r263.2.2.2.1, r263.2.2.2.2, u_before, u_spare, u_text, u_typed, u_failure, u_hasFailed, u_isQuiet, u_from, u_end, u_numbers)])) (zk_p1 (gs := [gX9 E ax (r259.2.1, r259.2.2, v_program, v_forecast), gX10 E am (u_z, u_snaps, u_hasSnap, u_past, u_pastHas, u_pastMany, u_before, u_spare, u_text, u_typed, u_failure, u_hasFailed, u_isQuiet, u_from, u_end, u_numbers)]) (i := 1) rfl) (fun r263 => (zk_q1 (gs := [gX9 E ax (r259.2.1, r259.2.2, v_program, v_forecast), gX10 E am (u_z, u_snaps, u_hasSnap, u_past, u_pastHas, u_pastMany, u_before, u_spare, u_text, u_typed, u_failure, u_hasFailed, u_isQuiet, u_from, u_end, u_numbers)]) (i := 1) rfl rfl)) rfl rfl rfl rfl (Nat.le_of_ble_eq_true rfl) (fun r263 => [.int r263.1, .int r259.1]) (fun _ => rfl) 266 rfl (fun r263 => ?_)
        refine zk_icmp_eq dL_law_266 722 (by decide) 269 rfl (fun _ => ?_) (fun _ => ?_)
        · exact J722  k18 hk18 x3 r259.2.1 r259.2.2 v_program v_forecast r263.2.1 u_snaps u_hasSnap r263.2.2.1 r263.2.2.2.1 r263.2.2.2.2 u_before u_spare u_text u_typed u_failure u_hasFailed u_isQuiet u_from u_end u_numbers
        · refine zk_iconst 0 dL_law_269 (by decide) 270 rfl ?_
          exact h0 _ _ _
      refine zk_if (c := w1 = 5) (fun h32_5 => ?_) (fun h32_5 => ?_)
      · refine zk_tableIn (off := 239) dL_law_32 271 (by rw [h32_5]; decide) (by rw [h32_5]; decide) (by rw [h32_5]; rfl) (by decide) ?_
        refine zk_aload_n dL_law_271 1 rfl 272 rfl ?_
        refine zk_aload_n dL_law_272 0 rfl 273 rfl ?_
        refine zk_iload_n dL_law_273 3 rfl 274 rfl ?_
        refine zk_iconst 1 dL_law_274 (by decide) 275 rfl ?_
        refine zk_iadd dL_law_275 276 rfl ?_
        refine zk_sld hX dL_law_276 277 rfl ?_
        refine zk_aload_n dL_law_277 0 rfl 278 rfl ?_
        refine zk_iload_n dL_law_278 3 rfl 279 rfl ?_
        refine zk_iconst 2 dL_law_279 (by decide) 280 rfl ?_
        refine zk_iadd dL_law_280 281 rfl ?_
        refine zk_sld hX dL_law_281 282 rfl ?_
        refine zk_callV (ci := 9) (st := []) (c_X9_set E l ax (v_state, v_history, v_program, v_forecast) (xs (x3 + 1).toNatClampNeg) (xs (x3 + 2).toNatClampNeg)) dL_law_282 2 gL_law_X9_set rfl rfl rfl cd_X9_set ⟨Nat.le_of_ble_eq_true rfl, Nat.le_of_ble_eq_true rfl⟩ ⟨Nat.le_of_ble_eq_true rfl, Nat.le_of_ble_eq_true rfl⟩ _ (fun r282 => (zk_j [gX9 E ax (r282.2.1, r282.2.2, v_program, v_forecast), gX10 E am (u_z, u_snaps, u_hasSnap, u_past, u_pastHas, u_pastMany, u_before, u_spare, u_text, u_typed, u_failure, u_hasFailed, u_isQuiet, u_from, u_end, u_numbers)])) (zk_p1 (gs := [gX9 E ax (v_state, v_history, v_program, v_forecast), gX10 E am (u_z, u_snaps, u_hasSnap, u_past, u_pastHas, u_pastMany, u_before, u_spare, u_text, u_typed, u_failure, u_hasFailed, u_isQuiet, u_from, u_end, u_numbers)]) (i := 0) rfl) (fun r282 => (zk_q1 (gs := [gX9 E ax (v_state, v_history, v_program, v_forecast), gX10 E am (u_z, u_snaps, u_hasSnap, u_past, u_pastHas, u_pastMany, u_before, u_spare, u_text, u_typed, u_failure, u_hasFailed, u_isQuiet, u_from, u_end, u_numbers)]) (i := 0) rfl rfl)) rfl rfl rfl rfl (Nat.le_of_ble_eq_true rfl) (fun r282 => [.int r282.1]) (fun _ => rfl) 285 rfl (fun r282 => ?_)
        refine zk_aload_n dL_law_285 2 rfl 286 rfl ?_
        refine zk_aload_n dL_law_286 0 rfl 287 rfl ?_
        refine zk_iload_n dL_law_287 3 rfl 288 rfl ?_
        refine zk_iconst 1 dL_law_288 (by decide) 289 rfl ?_
        refine zk_iadd dL_law_289 290 rfl ?_
        refine zk_sld hX dL_law_290 291 rfl ?_
        refine zk_aload_n dL_law_291 0 rfl 292 rfl ?_
        refine zk_iload_n dL_law_292 3 rfl 293 rfl ?_
        refine zk_iconst 2 dL_law_293 (by decide) 294 rfl ?_
        refine zk_iadd dL_law_294 295 rfl ?_
        refine zk_sld hX dL_law_295 296 rfl ?_
        refine zk_callV (ci := 10) (st := [.int r282.1]) (c_X10_set E l am (u_z, u_snaps, u_hasSnap, u_past, u_pastHas, u_pastMany, u_before, u_spare, u_text, u_typed, u_failure, u_hasFailed, u_isQuiet, u_from, u_end, u_numbers) (xs (x3 + 1).toNatClampNeg) (xs (x3 + 2).toNatClampNeg)) dL_law_296 2 gL_law_X10_set rfl rfl rfl cd_X10_set ⟨Nat.le_of_ble_eq_true rfl, Nat.le_of_ble_eq_true rfl⟩ ⟨Nat.le_of_ble_eq_true rfl, Nat.le_of_ble_eq_true rfl⟩ _ (fun r296 => (zk_j [gX9 E ax (r282.2.1, r282.2.2, v_program, v_forecast), gX10 E am (r296.2.1, u_snaps, u_hasSnap, r296.2.2.1, r296.2.2.2.1, r296.2.2.2.2, u_before, u_spare, u_text, u_typed, u_failure, u_hasFailed, u_isQuiet, u_from, u_end, u_numbers)])) (zk_p1 (gs := [gX9 E ax (r282.2.1, r282.2.2, v_program, v_forecast), gX10 E am (u_z, u_snaps, u_hasSnap, u_past, u_pastHas, u_pastMany, u_before, u_spare, u_text, u_typed, u_failure, u_hasFailed, u_isQuiet, u_from, u_end, u_numbers)]) (i := 1) rfl) (fun r296 => (zk_q1 (gs := [gX9 E ax (r282.2.1, r282.2.2, v_program, v_forecast), gX10 E am (u_z, u_snaps, u_hasSnap, u_past, u_pastHas, u_pastMany, u_before, u_spare, u_text, u_typed, u_failure, u_hasFailed, u_isQuiet, u_from, u_end, u_numbers)]) (i := 1) rfl rfl)) rfl rfl rfl rfl (Nat.le_of_ble_eq_true rfl) (fun r296 => [.int r296.1, .int r282.1]) (fun _ => rfl) 299 rfl (fun r296 => ?_)
        refine zk_icmp_eq dL_law_299 722 (by decide) 302 rfl (fun _ => ?_) (fun _ => ?_)
        · exact J722  k18 hk18 x3 r282.2.1 r282.2.2 v_program v_forecast r296.2.1 u_snaps u_hasSnap r296.2.2.1 r296.2.2.2.1 r296.2.2.2.2 u_before u_spare u_text u_typed u_failure u_hasFailed u_isQuiet u_from u_end u_numbers
        · refine zk_iconst 0 dL_law_302 (by decide) 303 rfl ?_
          exact h0 _ _ _
      refine zk_if (c := w1 = 6) (fun h32_6 => ?_) (fun h32_6 => ?_)
      · refine zk_tableIn (off := 272) dL_law_32 304 (by rw [h32_6]; decide) (by rw [h32_6]; decide) (by rw [h32_6]; rfl) (by decide) ?_
        refine zk_aload_n dL_law_304 1 rfl 305 rfl ?_
        refine zk_aload_n dL_law_305 0 rfl 306 rfl ?_
        refine zk_iload_n dL_law_306 3 rfl 307 rfl ?_
        refine zk_iconst 1 dL_law_307 (by decide) 308 rfl ?_
        refine zk_iadd dL_law_308 309 rfl ?_
        refine zk_sld hX dL_law_309 310 rfl ?_
        refine zk_callV (ci := 9) (st := []) (c_X9_take E l ax (v_state, v_history, v_program, v_forecast) (xs (x3 + 1).toNatClampNeg)) dL_law_310 1 gL_law_X9_take rfl rfl rfl cd_X9_take ⟨Nat.le_of_ble_eq_true rfl, Nat.le_of_ble_eq_true rfl⟩ ⟨Nat.le_of_ble_eq_true rfl, Nat.le_of_ble_eq_true rfl⟩ _ (fun r310 => (zk_j [gX9 E ax (r310.2.1, r310.2.2, v_program, v_forecast), gX10 E am (u_z, u_snaps, u_hasSnap, u_past, u_pastHas, u_pastMany, u_before, u_spare, u_text, u_typed, u_failure, u_hasFailed, u_isQuiet, u_from, u_end, u_numbers)])) (zk_p1 (gs := [gX9 E ax (v_state, v_history, v_program, v_forecast), gX10 E am (u_z, u_snaps, u_hasSnap, u_past, u_pastHas, u_pastMany, u_before, u_spare, u_text, u_typed, u_failure, u_hasFailed, u_isQuiet, u_from, u_end, u_numbers)]) (i := 0) rfl) (fun r310 => (zk_q1 (gs := [gX9 E ax (v_state, v_history, v_program, v_forecast), gX10 E am (u_z, u_snaps, u_hasSnap, u_past, u_pastHas, u_pastMany, u_before, u_spare, u_text, u_typed, u_failure, u_hasFailed, u_isQuiet, u_from, u_end, u_numbers)]) (i := 0) rfl rfl)) rfl rfl rfl rfl (Nat.le_of_ble_eq_true rfl) (fun r310 => [.int r310.1]) (fun _ => rfl) 313 rfl (fun r310 => ?_)
        refine zk_aload_n dL_law_313 2 rfl 314 rfl ?_
        refine zk_aload_n dL_law_314 0 rfl 315 rfl ?_
        refine zk_iload_n dL_law_315 3 rfl 316 rfl ?_
        refine zk_iconst 1 dL_law_316 (by decide) 317 rfl ?_
        refine zk_iadd dL_law_317 318 rfl ?_
        refine zk_sld hX dL_law_318 319 rfl ?_
        refine zk_callV (ci := 10) (st := [.int r310.1]) (c_X10_take E l am (u_z, u_snaps, u_hasSnap, u_past, u_pastHas, u_pastMany, u_before, u_spare, u_text, u_typed, u_failure, u_hasFailed, u_isQuiet, u_from, u_end, u_numbers) (xs (x3 + 1).toNatClampNeg)) dL_law_319 1 gL_law_X10_take rfl rfl rfl cd_X10_take ⟨Nat.le_of_ble_eq_true rfl, Nat.le_of_ble_eq_true rfl⟩ ⟨Nat.le_of_ble_eq_true rfl, Nat.le_of_ble_eq_true rfl⟩ _ (fun r319 => (zk_j [gX9 E ax (r310.2.1, r310.2.2, v_program, v_forecast), gX10 E am (u_z, r319.2.1, r319.2.2.1, r319.2.2.2.1, r319.2.2.2.2.1, r319.2.2.2.2.2, u_before, u_spare, u_text, u_typed, u_failure, u_hasFailed, u_isQuiet, u_from, u_end, u_numbers)])) (zk_p1 (gs := [gX9 E ax (r310.2.1, r310.2.2, v_program, v_forecast), gX10 E am (u_z, u_snaps, u_hasSnap, u_past, u_pastHas, u_pastMany, u_before, u_spare, u_text, u_typed, u_failure, u_hasFailed, u_isQuiet, u_from, u_end, u_numbers)]) (i := 1) rfl) (fun r319 => (zk_q1 (gs := [gX9 E ax (r310.2.1, r310.2.2, v_program, v_forecast), gX10 E am (u_z, u_snaps, u_hasSnap, u_past, u_pastHas, u_pastMany, u_before, u_spare, u_text, u_typed, u_failure, u_hasFailed, u_isQuiet, u_from, u_end, u_numbers)]) (i := 1) rfl rfl)) rfl rfl rfl rfl (Nat.le_of_ble_eq_true rfl) (fun r319 => [.int r319.1, .int r310.1]) (fun _ => rfl) 322 rfl (fun r319 => ?_)
        refine zk_icmp_eq dL_law_322 722 (by decide) 325 rfl (fun _ => ?_) (fun _ => ?_)
        · exact J722  k18 hk18 x3 r310.2.1 r310.2.2 v_program v_forecast u_z r319.2.1 r319.2.2.1 r319.2.2.2.1 r319.2.2.2.2.1 r319.2.2.2.2.2 u_before u_spare u_text u_typed u_failure u_hasFailed u_isQuiet u_from u_end u_numbers
        · refine zk_iconst 0 dL_law_325 (by decide) 326 rfl ?_
          exact h0 _ _ _
      refine zk_if (c := w1 = 7) (fun h32_7 => ?_) (fun h32_7 => ?_)
      · refine zk_tableIn (off := 295) dL_law_32 327 (by rw [h32_7]; decide) (by rw [h32_7]; decide) (by rw [h32_7]; rfl) (by decide) ?_
        refine zk_aload_n dL_law_327 1 rfl 328 rfl ?_
        refine zk_aload_n dL_law_328 0 rfl 329 rfl ?_
        refine zk_iload_n dL_law_329 3 rfl 330 rfl ?_
        refine zk_iconst 1 dL_law_330 (by decide) 331 rfl ?_
        refine zk_iadd dL_law_331 332 rfl ?_
        refine zk_sld hX dL_law_332 333 rfl ?_
        refine zk_callV (ci := 9) (st := []) (c_X9_restore E l ax (v_state, v_history, v_program, v_forecast) (xs (x3 + 1).toNatClampNeg)) dL_law_333 1 gL_law_X9_restore rfl rfl rfl cd_X9_restore ⟨Nat.le_of_ble_eq_true rfl, Nat.le_of_ble_eq_true rfl⟩ ⟨Nat.le_of_ble_eq_true rfl, Nat.le_of_ble_eq_true rfl⟩ _ (fun r333 => (zk_j [gX9 E ax (r333.2.1, r333.2.2, v_program, v_forecast), gX10 E am (u_z, u_snaps, u_hasSnap, u_past, u_pastHas, u_pastMany, u_before, u_spare, u_text, u_typed, u_failure, u_hasFailed, u_isQuiet, u_from, u_end, u_numbers)])) (zk_p1 (gs := [gX9 E ax (v_state, v_history, v_program, v_forecast), gX10 E am (u_z, u_snaps, u_hasSnap, u_past, u_pastHas, u_pastMany, u_before, u_spare, u_text, u_typed, u_failure, u_hasFailed, u_isQuiet, u_from, u_end, u_numbers)]) (i := 0) rfl) (fun r333 => (zk_q1 (gs := [gX9 E ax (v_state, v_history, v_program, v_forecast), gX10 E am (u_z, u_snaps, u_hasSnap, u_past, u_pastHas, u_pastMany, u_before, u_spare, u_text, u_typed, u_failure, u_hasFailed, u_isQuiet, u_from, u_end, u_numbers)]) (i := 0) rfl rfl)) rfl rfl rfl rfl (Nat.le_of_ble_eq_true rfl) (fun r333 => [.int r333.1]) (fun _ => rfl) 336 rfl (fun r333 => ?_)
        refine zk_aload_n dL_law_336 2 rfl 337 rfl ?_
        refine zk_aload_n dL_law_337 0 rfl 338 rfl ?_
        refine zk_iload_n dL_law_338 3 rfl 339 rfl ?_
        refine zk_iconst 1 dL_law_339 (by decide) 340 rfl ?_
        refine zk_iadd dL_law_340 341 rfl ?_
        refine zk_sld hX dL_law_341 342 rfl ?_
        refine zk_callV (ci := 10) (st := [.int r333.1]) (c_X10_restore E l am (u_z, u_snaps, u_hasSnap, u_past, u_pastHas, u_pastMany, u_before, u_spare, u_text, u_typed, u_failure, u_hasFailed, u_isQuiet, u_from, u_end, u_numbers) (xs (x3 + 1).toNatClampNeg)) dL_law_342 1 gL_law_X10_restore rfl rfl rfl cd_X10_restore ⟨Nat.le_of_ble_eq_true rfl, Nat.le_of_ble_eq_true rfl⟩ ⟨Nat.le_of_ble_eq_true rfl, Nat.le_of_ble_eq_true rfl⟩ _ (fun r342 => (zk_j [gX9 E ax (r333.2.1, r333.2.2, v_program, v_forecast), gX10 E am (r342.2.1, u_snaps, u_hasSnap, r342.2.2.1, r342.2.2.2.1, r342.2.2.2.2, u_before, u_spare, u_text, u_typed, u_failure, u_hasFailed, u_isQuiet, u_from, u_end, u_numbers)])) (zk_p1 (gs := [gX9 E ax (r333.2.1, r333.2.2, v_program, v_forecast), gX10 E am (u_z, u_snaps, u_hasSnap, u_past, u_pastHas, u_pastMany, u_before, u_spare, u_text, u_typed, u_failure, u_hasFailed, u_isQuiet, u_from, u_end, u_numbers)]) (i := 1) rfl) (fun r342 => (zk_q1 (gs := [gX9 E ax (r333.2.1, r333.2.2, v_program, v_forecast), gX10 E am (u_z, u_snaps, u_hasSnap, u_past, u_pastHas, u_pastMany, u_before, u_spare, u_text, u_typed, u_failure, u_hasFailed, u_isQuiet, u_from, u_end, u_numbers)]) (i := 1) rfl rfl)) rfl rfl rfl rfl (Nat.le_of_ble_eq_true rfl) (fun r342 => [.int r342.1, .int r333.1]) (fun _ => rfl) 345 rfl (fun r342 => ?_)
        refine zk_icmp_eq dL_law_345 722 (by decide) 348 rfl (fun _ => ?_) (fun _ => ?_)
        · exact J722  k18 hk18 x3 r333.2.1 r333.2.2 v_program v_forecast r342.2.1 u_snaps u_hasSnap r342.2.2.1 r342.2.2.2.1 r342.2.2.2.2 u_before u_spare u_text u_typed u_failure u_hasFailed u_isQuiet u_from u_end u_numbers
        · refine zk_iconst 0 dL_law_348 (by decide) 349 rfl ?_
          exact h0 _ _ _
      refine zk_if (c := w1 = 8) (fun h32_8 => ?_) (fun h32_8 => ?_)
      · refine zk_tableIn (off := 318) dL_law_32 350 (by rw [h32_8]; decide) (by rw [h32_8]; decide) (by rw [h32_8]; rfl) (by decide) ?_
        refine zk_aload_n dL_law_350 1 rfl 351 rfl ?_
        refine zk_callV (ci := 9) (st := []) (c_X9_undo E l ax (v_state, v_history, v_program, v_forecast)) dL_law_351 0 gL_law_X9_undo rfl rfl rfl cd_X9_undo ⟨Nat.le_of_ble_eq_true rfl, Nat.le_of_ble_eq_true rfl⟩ ⟨Nat.le_of_ble_eq_true rfl, Nat.le_of_ble_eq_true rfl⟩ _ (fun r351 => (zk_j [gX9 E ax (r351.2.1, r351.2.2, v_program, v_forecast), gX10 E am (u_z, u_snaps, u_hasSnap, u_past, u_pastHas, u_pastMany, u_before, u_spare, u_text, u_typed, u_failure, u_hasFailed, u_isQuiet, u_from, u_end, u_numbers)])) (zk_p1 (gs := [gX9 E ax (v_state, v_history, v_program, v_forecast), gX10 E am (u_z, u_snaps, u_hasSnap, u_past, u_pastHas, u_pastMany, u_before, u_spare, u_text, u_typed, u_failure, u_hasFailed, u_isQuiet, u_from, u_end, u_numbers)]) (i := 0) rfl) (fun r351 => (zk_q1 (gs := [gX9 E ax (v_state, v_history, v_program, v_forecast), gX10 E am (u_z, u_snaps, u_hasSnap, u_past, u_pastHas, u_pastMany, u_before, u_spare, u_text, u_typed, u_failure, u_hasFailed, u_isQuiet, u_from, u_end, u_numbers)]) (i := 0) rfl rfl)) rfl rfl rfl rfl (Nat.le_of_ble_eq_true rfl) (fun r351 => [.int r351.1]) (fun _ => rfl) 354 rfl (fun r351 => ?_)
        refine zk_aload_n dL_law_354 2 rfl 355 rfl ?_
        refine zk_callV (ci := 10) (st := [.int r351.1]) (c_X10_undo E l am (u_z, u_snaps, u_hasSnap, u_past, u_pastHas, u_pastMany, u_before, u_spare, u_text, u_typed, u_failure, u_hasFailed, u_isQuiet, u_from, u_end, u_numbers)) dL_law_355 0 gL_law_X10_undo rfl rfl rfl cd_X10_undo ⟨Nat.le_of_ble_eq_true rfl, Nat.le_of_ble_eq_true rfl⟩ ⟨Nat.le_of_ble_eq_true rfl, Nat.le_of_ble_eq_true rfl⟩ _ (fun r355 => (zk_j [gX9 E ax (r351.2.1, r351.2.2, v_program, v_forecast), gX10 E am (r355.2.1, r355.2.2.1, r355.2.2.2.1, u_past, u_pastHas, r355.2.2.2.2, u_before, u_spare, u_text, u_typed, u_failure, u_hasFailed, u_isQuiet, u_from, u_end, u_numbers)])) (zk_p1 (gs := [gX9 E ax (r351.2.1, r351.2.2, v_program, v_forecast), gX10 E am (u_z, u_snaps, u_hasSnap, u_past, u_pastHas, u_pastMany, u_before, u_spare, u_text, u_typed, u_failure, u_hasFailed, u_isQuiet, u_from, u_end, u_numbers)]) (i := 1) rfl) (fun r355 => (zk_q1 (gs := [gX9 E ax (r351.2.1, r351.2.2, v_program, v_forecast), gX10 E am (u_z, u_snaps, u_hasSnap, u_past, u_pastHas, u_pastMany, u_before, u_spare, u_text, u_typed, u_failure, u_hasFailed, u_isQuiet, u_from, u_end, u_numbers)]) (i := 1) rfl rfl)) rfl rfl rfl rfl (Nat.le_of_ble_eq_true rfl) (fun r355 => [.int r355.1, .int r351.1]) (fun _ => rfl) 358 rfl (fun r355 => ?_)
        refine zk_icmp_eq dL_law_358 722 (by decide) 361 rfl (fun _ => ?_) (fun _ => ?_)
        · exact J722  k18 hk18 x3 r351.2.1 r351.2.2 v_program v_forecast r355.2.1 r355.2.2.1 r355.2.2.2.1 u_past u_pastHas r355.2.2.2.2 u_before u_spare u_text u_typed u_failure u_hasFailed u_isQuiet u_from u_end u_numbers
        · refine zk_iconst 0 dL_law_361 (by decide) 362 rfl ?_
          exact h0 _ _ _
      refine zk_if (c := w1 = 9) (fun h32_9 => ?_) (fun h32_9 => ?_)
      · refine zk_tableIn (off := 331) dL_law_32 363 (by rw [h32_9]; decide) (by rw [h32_9]; decide) (by rw [h32_9]; rfl) (by decide) ?_
        refine zk_aload_n dL_law_363 1 rfl 364 rfl ?_
        refine zk_aload_n dL_law_364 0 rfl 365 rfl ?_
        refine zk_iload_n dL_law_365 3 rfl 366 rfl ?_
        refine zk_iconst 1 dL_law_366 (by decide) 367 rfl ?_
        refine zk_iadd dL_law_367 368 rfl ?_
        refine zk_sld hX dL_law_368 369 rfl ?_
        refine zk_callV (ci := 9) (st := []) (c_X9_append E l ax (v_state, v_history, v_program, v_forecast) (xs (x3 + 1).toNatClampNeg)) dL_law_369 1 gL_law_X9_append rfl rfl rfl cd_X9_append ⟨Nat.le_of_ble_eq_true rfl, Nat.le_of_ble_eq_true rfl⟩ ⟨Nat.le_of_ble_eq_true rfl, Nat.le_of_ble_eq_true rfl⟩ _ (fun r369 => (zk_j [gX9 E ax (v_state, v_history, r369.2, v_forecast), gX10 E am (u_z, u_snaps, u_hasSnap, u_past, u_pastHas, u_pastMany, u_before, u_spare, u_text, u_typed, u_failure, u_hasFailed, u_isQuiet, u_from, u_end, u_numbers)])) (zk_p1 (gs := [gX9 E ax (v_state, v_history, v_program, v_forecast), gX10 E am (u_z, u_snaps, u_hasSnap, u_past, u_pastHas, u_pastMany, u_before, u_spare, u_text, u_typed, u_failure, u_hasFailed, u_isQuiet, u_from, u_end, u_numbers)]) (i := 0) rfl) (fun r369 => (zk_q1 (gs := [gX9 E ax (v_state, v_history, v_program, v_forecast), gX10 E am (u_z, u_snaps, u_hasSnap, u_past, u_pastHas, u_pastMany, u_before, u_spare, u_text, u_typed, u_failure, u_hasFailed, u_isQuiet, u_from, u_end, u_numbers)]) (i := 0) rfl rfl)) rfl rfl rfl rfl (Nat.le_of_ble_eq_true rfl) (fun r369 => [.int r369.1]) (fun _ => rfl) 372 rfl (fun r369 => ?_)
        refine zk_aload_n dL_law_372 2 rfl 373 rfl ?_
        refine zk_aload_n dL_law_373 0 rfl 374 rfl ?_
        refine zk_iload_n dL_law_374 3 rfl 375 rfl ?_
        refine zk_iconst 1 dL_law_375 (by decide) 376 rfl ?_
        refine zk_iadd dL_law_376 377 rfl ?_
        refine zk_sld hX dL_law_377 378 rfl ?_
        refine zk_callV (ci := 10) (st := [.int r369.1]) (c_X10_append E l am (u_z, u_snaps, u_hasSnap, u_past, u_pastHas, u_pastMany, u_before, u_spare, u_text, u_typed, u_failure, u_hasFailed, u_isQuiet, u_from, u_end, u_numbers) (xs (x3 + 1).toNatClampNeg)) dL_law_378 1 gL_law_X10_append rfl rfl rfl cd_X10_append ⟨Nat.le_of_ble_eq_true rfl, Nat.le_of_ble_eq_true rfl⟩ ⟨Nat.le_of_ble_eq_true rfl, Nat.le_of_ble_eq_true rfl⟩ _ (fun r378 => (zk_j [gX9 E ax (v_state, v_history, r369.2, v_forecast), gX10 E am (u_z, u_snaps, u_hasSnap, u_past, u_pastHas, u_pastMany, u_before, u_spare, r378.2.1, r378.2.2, u_failure, u_hasFailed, u_isQuiet, u_from, u_end, u_numbers)])) (zk_p1 (gs := [gX9 E ax (v_state, v_history, r369.2, v_forecast), gX10 E am (u_z, u_snaps, u_hasSnap, u_past, u_pastHas, u_pastMany, u_before, u_spare, u_text, u_typed, u_failure, u_hasFailed, u_isQuiet, u_from, u_end, u_numbers)]) (i := 1) rfl) (fun r378 => (zk_q1 (gs := [gX9 E ax (v_state, v_history, r369.2, v_forecast), gX10 E am (u_z, u_snaps, u_hasSnap, u_past, u_pastHas, u_pastMany, u_before, u_spare, u_text, u_typed, u_failure, u_hasFailed, u_isQuiet, u_from, u_end, u_numbers)]) (i := 1) rfl rfl)) rfl rfl rfl rfl (Nat.le_of_ble_eq_true rfl) (fun r378 => [.int r378.1, .int r369.1]) (fun _ => rfl) 381 rfl (fun r378 => ?_)
        refine zk_icmp_eq dL_law_381 722 (by decide) 384 rfl (fun _ => ?_) (fun _ => ?_)
        · exact J722  k18 hk18 x3 v_state v_history r369.2 v_forecast u_z u_snaps u_hasSnap u_past u_pastHas u_pastMany u_before u_spare r378.2.1 r378.2.2 u_failure u_hasFailed u_isQuiet u_from u_end u_numbers
        · refine zk_iconst 0 dL_law_384 (by decide) 385 rfl ?_
          exact h0 _ _ _
      refine zk_if (c := w1 = 10) (fun h32_10 => ?_) (fun h32_10 => ?_)
      · refine zk_tableIn (off := 354) dL_law_32 386 (by rw [h32_10]; decide) (by rw [h32_10]; decide) (by rw [h32_10]; rfl) (by decide) ?_
        refine zk_aload_n dL_law_386 1 rfl 387 rfl ?_
        refine zk_callV (ci := 9) (st := []) (c_X9_clearText E l ax (v_state, v_history, v_program, v_forecast)) dL_law_387 0 gL_law_X9_clearText rfl rfl rfl cd_X9_clearText ⟨Nat.le_of_ble_eq_true rfl, Nat.le_of_ble_eq_true rfl⟩ ⟨Nat.le_of_ble_eq_true rfl, Nat.le_of_ble_eq_true rfl⟩ _ (fun r387 => (zk_j [gX9 E ax (v_state, v_history, r387.2, v_forecast), gX10 E am (u_z, u_snaps, u_hasSnap, u_past, u_pastHas, u_pastMany, u_before, u_spare, u_text, u_typed, u_failure, u_hasFailed, u_isQuiet, u_from, u_end, u_numbers)])) (zk_p1 (gs := [gX9 E ax (v_state, v_history, v_program, v_forecast), gX10 E am (u_z, u_snaps, u_hasSnap, u_past, u_pastHas, u_pastMany, u_before, u_spare, u_text, u_typed, u_failure, u_hasFailed, u_isQuiet, u_from, u_end, u_numbers)]) (i := 0) rfl) (fun r387 => (zk_q1 (gs := [gX9 E ax (v_state, v_history, v_program, v_forecast), gX10 E am (u_z, u_snaps, u_hasSnap, u_past, u_pastHas, u_pastMany, u_before, u_spare, u_text, u_typed, u_failure, u_hasFailed, u_isQuiet, u_from, u_end, u_numbers)]) (i := 0) rfl rfl)) rfl rfl rfl rfl (Nat.le_of_ble_eq_true rfl) (fun r387 => [.int r387.1]) (fun _ => rfl) 390 rfl (fun r387 => ?_)
        refine zk_aload_n dL_law_390 2 rfl 391 rfl ?_
        refine zk_callV (ci := 10) (st := [.int r387.1]) (c_X10_clearText E l am (u_z, u_snaps, u_hasSnap, u_past, u_pastHas, u_pastMany, u_before, u_spare, u_text, u_typed, u_failure, u_hasFailed, u_isQuiet, u_from, u_end, u_numbers)) dL_law_391 0 gL_law_X10_clearText rfl rfl rfl cd_X10_clearText ⟨Nat.le_of_ble_eq_true rfl, Nat.le_of_ble_eq_true rfl⟩ ⟨Nat.le_of_ble_eq_true rfl, Nat.le_of_ble_eq_true rfl⟩ _ (fun r391 => (zk_j [gX9 E ax (v_state, v_history, r387.2, v_forecast), gX10 E am (u_z, u_snaps, u_hasSnap, u_past, u_pastHas, u_pastMany, u_before, u_spare, u_text, r391.2, u_failure, u_hasFailed, u_isQuiet, u_from, u_end, u_numbers)])) (zk_p1 (gs := [gX9 E ax (v_state, v_history, r387.2, v_forecast), gX10 E am (u_z, u_snaps, u_hasSnap, u_past, u_pastHas, u_pastMany, u_before, u_spare, u_text, u_typed, u_failure, u_hasFailed, u_isQuiet, u_from, u_end, u_numbers)]) (i := 1) rfl) (fun r391 => (zk_q1 (gs := [gX9 E ax (v_state, v_history, r387.2, v_forecast), gX10 E am (u_z, u_snaps, u_hasSnap, u_past, u_pastHas, u_pastMany, u_before, u_spare, u_text, u_typed, u_failure, u_hasFailed, u_isQuiet, u_from, u_end, u_numbers)]) (i := 1) rfl rfl)) rfl rfl rfl rfl (Nat.le_of_ble_eq_true rfl) (fun r391 => [.int r391.1, .int r387.1]) (fun _ => rfl) 394 rfl (fun r391 => ?_)
        refine zk_icmp_eq dL_law_394 722 (by decide) 397 rfl (fun _ => ?_) (fun _ => ?_)
        · exact J722  k18 hk18 x3 v_state v_history r387.2 v_forecast u_z u_snaps u_hasSnap u_past u_pastHas u_pastMany u_before u_spare u_text r391.2 u_failure u_hasFailed u_isQuiet u_from u_end u_numbers
        · refine zk_iconst 0 dL_law_397 (by decide) 398 rfl ?_
          exact h0 _ _ _
      refine zk_if (c := w1 = 11) (fun h32_11 => ?_) (fun h32_11 => ?_)
      · refine zk_tableIn (off := 367) dL_law_32 399 (by rw [h32_11]; decide) (by rw [h32_11]; decide) (by rw [h32_11]; rfl) (by decide) ?_
        refine zk_aload_n dL_law_399 1 rfl 400 rfl ?_
        refine zk_callV (ci := 9) (st := []) (c_X9_run E l ax (v_state, v_history, v_program, v_forecast)) dL_law_400 0 gL_law_X9_run rfl rfl rfl cd_X9_run ⟨Nat.le_of_ble_eq_true rfl, Nat.le_of_ble_eq_true rfl⟩ ⟨Nat.le_of_ble_eq_true rfl, Nat.le_of_ble_eq_true rfl⟩ _ (fun r400 => (zk_j [gX9 E ax (r400.2.1, r400.2.2.1, r400.2.2.2, v_forecast), gX10 E am (u_z, u_snaps, u_hasSnap, u_past, u_pastHas, u_pastMany, u_before, u_spare, u_text, u_typed, u_failure, u_hasFailed, u_isQuiet, u_from, u_end, u_numbers)])) (zk_p1 (gs := [gX9 E ax (v_state, v_history, v_program, v_forecast), gX10 E am (u_z, u_snaps, u_hasSnap, u_past, u_pastHas, u_pastMany, u_before, u_spare, u_text, u_typed, u_failure, u_hasFailed, u_isQuiet, u_from, u_end, u_numbers)]) (i := 0) rfl) (fun r400 => (zk_q1 (gs := [gX9 E ax (v_state, v_history, v_program, v_forecast), gX10 E am (u_z, u_snaps, u_hasSnap, u_past, u_pastHas, u_pastMany, u_before, u_spare, u_text, u_typed, u_failure, u_hasFailed, u_isQuiet, u_from, u_end, u_numbers)]) (i := 0) rfl rfl)) rfl rfl rfl rfl (Nat.le_of_ble_eq_true rfl) (fun r400 => [.int r400.1]) (fun _ => rfl) 403 rfl (fun r400 => ?_)
        refine zk_aload_n dL_law_403 2 rfl 404 rfl ?_
        refine zk_callV (ci := 10) (st := [.int r400.1]) (c_X10_run E l am (u_z, u_snaps, u_hasSnap, u_past, u_pastHas, u_pastMany, u_before, u_spare, u_text, u_typed, u_failure, u_hasFailed, u_isQuiet, u_from, u_end, u_numbers)) dL_law_404 0 gL_law_X10_run rfl rfl rfl cd_X10_run ⟨Nat.le_of_ble_eq_true rfl, Nat.le_of_ble_eq_true rfl⟩ ⟨Nat.le_of_ble_eq_true rfl, Nat.le_of_ble_eq_true rfl⟩ _ (fun r404 => (zk_j [gX9 E ax (r400.2.1, r400.2.2.1, r400.2.2.2, v_forecast), gX10 E am (r404.2.1, u_snaps, u_hasSnap, r404.2.2.1, r404.2.2.2.1, r404.2.2.2.2.1, r404.2.2.2.2.2.1, u_spare, u_text, r404.2.2.2.2.2.2.1, r404.2.2.2.2.2.2.2.1, r404.2.2.2.2.2.2.2.2.1, r404.2.2.2.2.2.2.2.2.2.1, r404.2.2.2.2.2.2.2.2.2.2.1, r404.2.2.2.2.2.2.2.2.2.2.2.1, r404.2.2.2.2.2.2.2.2.2.2.2.2)])) (zk_p1 (gs := [gX9 E ax (r400.2.1, r400.2.2.1, r400.2.2.2, v_forecast), gX10 E am (u_z, u_snaps, u_hasSnap, u_past, u_pastHas, u_pastMany, u_before, u_spare, u_text, u_typed, u_failure, u_hasFailed, u_isQuiet, u_from, u_end, u_numbers)]) (i := 1) rfl) (fun r404 => (zk_q1 (gs := [gX9 E ax (r400.2.1, r400.2.2.1, r400.2.2.2, v_forecast), gX10 E am (u_z, u_snaps, u_hasSnap, u_past, u_pastHas, u_pastMany, u_before, u_spare, u_text, u_typed, u_failure, u_hasFailed, u_isQuiet, u_from, u_end, u_numbers)]) (i := 1) rfl rfl)) rfl rfl rfl rfl (Nat.le_of_ble_eq_true rfl) (fun r404 => [.int r404.1, .int r400.1]) (fun _ => rfl) 407 rfl (fun r404 => ?_)
        refine zk_icmp_eq dL_law_407 722 (by decide) 410 rfl (fun _ => ?_) (fun _ => ?_)
        · exact J722  k18 hk18 x3 r400.2.1 r400.2.2.1 r400.2.2.2 v_forecast r404.2.1 u_snaps u_hasSnap r404.2.2.1 r404.2.2.2.1 r404.2.2.2.2.1 r404.2.2.2.2.2.1 u_spare u_text r404.2.2.2.2.2.2.1 r404.2.2.2.2.2.2.2.1 r404.2.2.2.2.2.2.2.2.1 r404.2.2.2.2.2.2.2.2.2.1 r404.2.2.2.2.2.2.2.2.2.2.1 r404.2.2.2.2.2.2.2.2.2.2.2.1 r404.2.2.2.2.2.2.2.2.2.2.2.2
        · refine zk_iconst 0 dL_law_410 (by decide) 411 rfl ?_
          exact h0 _ _ _
      refine zk_if (c := w1 = 12) (fun h32_12 => ?_) (fun h32_12 => ?_)
      · refine zk_tableIn (off := 380) dL_law_32 412 (by rw [h32_12]; decide) (by rw [h32_12]; decide) (by rw [h32_12]; rfl) (by decide) ?_
        refine zk_aload_n dL_law_412 1 rfl 413 rfl ?_
        refine zk_aload_n dL_law_413 0 rfl 414 rfl ?_
        refine zk_iload_n dL_law_414 3 rfl 415 rfl ?_
        refine zk_iconst 1 dL_law_415 (by decide) 416 rfl ?_
        refine zk_iadd dL_law_416 417 rfl ?_
        refine zk_sld hX dL_law_417 418 rfl ?_
        refine zk_callV (ci := 9) (st := []) (c_X9_failure E l ax (v_state, v_history, v_program, v_forecast) (xs (x3 + 1).toNatClampNeg)) dL_law_418 1 gL_law_X9_failure rfl rfl rfl cd_X9_failure ⟨Nat.le_of_ble_eq_true rfl, Nat.le_of_ble_eq_true rfl⟩ ⟨Nat.le_of_ble_eq_true rfl, Nat.le_of_ble_eq_true rfl⟩ _ (fun r418 => (zk_j [gX9 E ax (v_state, v_history, v_program, v_forecast), gX10 E am (u_z, u_snaps, u_hasSnap, u_past, u_pastHas, u_pastMany, u_before, u_spare, u_text, u_typed, u_failure, u_hasFailed, u_isQuiet, u_from, u_end, u_numbers)])) (zk_p1 (gs := [gX9 E ax (v_state, v_history, v_program, v_forecast), gX10 E am (u_z, u_snaps, u_hasSnap, u_past, u_pastHas, u_pastMany, u_before, u_spare, u_text, u_typed, u_failure, u_hasFailed, u_isQuiet, u_from, u_end, u_numbers)]) (i := 0) rfl) (fun r418 => (zk_q1 (gs := [gX9 E ax (v_state, v_history, v_program, v_forecast), gX10 E am (u_z, u_snaps, u_hasSnap, u_past, u_pastHas, u_pastMany, u_before, u_spare, u_text, u_typed, u_failure, u_hasFailed, u_isQuiet, u_from, u_end, u_numbers)]) (i := 0) rfl rfl)) rfl rfl rfl rfl (Nat.le_of_ble_eq_true rfl) (fun r418 => [.int r418]) (fun _ => rfl) 421 rfl (fun r418 => ?_)
        refine zk_aload_n dL_law_421 2 rfl 422 rfl ?_
        refine zk_aload_n dL_law_422 0 rfl 423 rfl ?_
        refine zk_iload_n dL_law_423 3 rfl 424 rfl ?_
        refine zk_iconst 1 dL_law_424 (by decide) 425 rfl ?_
        refine zk_iadd dL_law_425 426 rfl ?_
        refine zk_sld hX dL_law_426 427 rfl ?_
        refine zk_callV (ci := 10) (st := [.int r418]) (c_X10_failure E l am (u_z, u_snaps, u_hasSnap, u_past, u_pastHas, u_pastMany, u_before, u_spare, u_text, u_typed, u_failure, u_hasFailed, u_isQuiet, u_from, u_end, u_numbers) (xs (x3 + 1).toNatClampNeg)) dL_law_427 1 gL_law_X10_failure rfl rfl rfl cd_X10_failure ⟨Nat.le_of_ble_eq_true rfl, Nat.le_of_ble_eq_true rfl⟩ ⟨Nat.le_of_ble_eq_true rfl, Nat.le_of_ble_eq_true rfl⟩ _ (fun r427 => (zk_j [gX9 E ax (v_state, v_history, v_program, v_forecast), gX10 E am (u_z, u_snaps, u_hasSnap, u_past, u_pastHas, u_pastMany, u_before, u_spare, u_text, u_typed, u_failure, u_hasFailed, u_isQuiet, u_from, u_end, u_numbers)])) (zk_p1 (gs := [gX9 E ax (v_state, v_history, v_program, v_forecast), gX10 E am (u_z, u_snaps, u_hasSnap, u_past, u_pastHas, u_pastMany, u_before, u_spare, u_text, u_typed, u_failure, u_hasFailed, u_isQuiet, u_from, u_end, u_numbers)]) (i := 1) rfl) (fun r427 => (zk_q1 (gs := [gX9 E ax (v_state, v_history, v_program, v_forecast), gX10 E am (u_z, u_snaps, u_hasSnap, u_past, u_pastHas, u_pastMany, u_before, u_spare, u_text, u_typed, u_failure, u_hasFailed, u_isQuiet, u_from, u_end, u_numbers)]) (i := 1) rfl rfl)) rfl rfl rfl rfl (Nat.le_of_ble_eq_true rfl) (fun r427 => [.int r427, .int r418]) (fun _ => rfl) 430 rfl (fun r427 => ?_)
        refine zk_icmp_eq dL_law_430 722 (by decide) 433 rfl (fun _ => ?_) (fun _ => ?_)
        · exact J722  k18 hk18 x3 v_state v_history v_program v_forecast u_z u_snaps u_hasSnap u_past u_pastHas u_pastMany u_before u_spare u_text u_typed u_failure u_hasFailed u_isQuiet u_from u_end u_numbers
        · refine zk_iconst 0 dL_law_433 (by decide) 434 rfl ?_
          exact h0 _ _ _
      refine zk_if (c := w1 = 13) (fun h32_13 => ?_) (fun h32_13 => ?_)
      · refine zk_tableIn (off := 403) dL_law_32 435 (by rw [h32_13]; decide) (by rw [h32_13]; decide) (by rw [h32_13]; rfl) (by decide) ?_
        refine zk_aload_n dL_law_435 1 rfl 436 rfl ?_
        refine zk_aload_n dL_law_436 0 rfl 437 rfl ?_
        refine zk_iload_n dL_law_437 3 rfl 438 rfl ?_
        refine zk_iconst 1 dL_law_438 (by decide) 439 rfl ?_
        refine zk_iadd dL_law_439 440 rfl ?_
        refine zk_sld hX dL_law_440 441 rfl ?_
        refine zk_callV (ci := 9) (st := []) (c_X9_count E l ax (v_state, v_history, v_program, v_forecast) (xs (x3 + 1).toNatClampNeg)) dL_law_441 1 gL_law_X9_count rfl rfl rfl cd_X9_count ⟨Nat.le_of_ble_eq_true rfl, Nat.le_of_ble_eq_true rfl⟩ ⟨Nat.le_of_ble_eq_true rfl, Nat.le_of_ble_eq_true rfl⟩ _ (fun r441 => (zk_j [gX9 E ax (v_state, v_history, v_program, v_forecast), gX10 E am (u_z, u_snaps, u_hasSnap, u_past, u_pastHas, u_pastMany, u_before, u_spare, u_text, u_typed, u_failure, u_hasFailed, u_isQuiet, u_from, u_end, u_numbers)])) (zk_p1 (gs := [gX9 E ax (v_state, v_history, v_program, v_forecast), gX10 E am (u_z, u_snaps, u_hasSnap, u_past, u_pastHas, u_pastMany, u_before, u_spare, u_text, u_typed, u_failure, u_hasFailed, u_isQuiet, u_from, u_end, u_numbers)]) (i := 0) rfl) (fun r441 => (zk_q1 (gs := [gX9 E ax (v_state, v_history, v_program, v_forecast), gX10 E am (u_z, u_snaps, u_hasSnap, u_past, u_pastHas, u_pastMany, u_before, u_spare, u_text, u_typed, u_failure, u_hasFailed, u_isQuiet, u_from, u_end, u_numbers)]) (i := 0) rfl rfl)) rfl rfl rfl rfl (Nat.le_of_ble_eq_true rfl) (fun r441 => [.int r441]) (fun _ => rfl) 444 rfl (fun r441 => ?_)
        refine zk_aload_n dL_law_444 2 rfl 445 rfl ?_
        refine zk_aload_n dL_law_445 0 rfl 446 rfl ?_
        refine zk_iload_n dL_law_446 3 rfl 447 rfl ?_
        refine zk_iconst 1 dL_law_447 (by decide) 448 rfl ?_
        refine zk_iadd dL_law_448 449 rfl ?_
        refine zk_sld hX dL_law_449 450 rfl ?_
        refine zk_callV (ci := 10) (st := [.int r441]) (c_X10_count E l am (u_z, u_snaps, u_hasSnap, u_past, u_pastHas, u_pastMany, u_before, u_spare, u_text, u_typed, u_failure, u_hasFailed, u_isQuiet, u_from, u_end, u_numbers) (xs (x3 + 1).toNatClampNeg)) dL_law_450 1 gL_law_X10_count rfl rfl rfl cd_X10_count ⟨Nat.le_of_ble_eq_true rfl, Nat.le_of_ble_eq_true rfl⟩ ⟨Nat.le_of_ble_eq_true rfl, Nat.le_of_ble_eq_true rfl⟩ _ (fun r450 => (zk_j [gX9 E ax (v_state, v_history, v_program, v_forecast), gX10 E am (u_z, u_snaps, u_hasSnap, u_past, u_pastHas, u_pastMany, u_before, u_spare, u_text, u_typed, u_failure, u_hasFailed, u_isQuiet, u_from, u_end, u_numbers)])) (zk_p1 (gs := [gX9 E ax (v_state, v_history, v_program, v_forecast), gX10 E am (u_z, u_snaps, u_hasSnap, u_past, u_pastHas, u_pastMany, u_before, u_spare, u_text, u_typed, u_failure, u_hasFailed, u_isQuiet, u_from, u_end, u_numbers)]) (i := 1) rfl) (fun r450 => (zk_q1 (gs := [gX9 E ax (v_state, v_history, v_program, v_forecast), gX10 E am (u_z, u_snaps, u_hasSnap, u_past, u_pastHas, u_pastMany, u_before, u_spare, u_text, u_typed, u_failure, u_hasFailed, u_isQuiet, u_from, u_end, u_numbers)]) (i := 1) rfl rfl)) rfl rfl rfl rfl (Nat.le_of_ble_eq_true rfl) (fun r450 => [.int r450, .int r441]) (fun _ => rfl) 453 rfl (fun r450 => ?_)
        refine zk_icmp_eq dL_law_453 722 (by decide) 456 rfl (fun _ => ?_) (fun _ => ?_)
        · exact J722  k18 hk18 x3 v_state v_history v_program v_forecast u_z u_snaps u_hasSnap u_past u_pastHas u_pastMany u_before u_spare u_text u_typed u_failure u_hasFailed u_isQuiet u_from u_end u_numbers
        · refine zk_iconst 0 dL_law_456 (by decide) 457 rfl ?_
          exact h0 _ _ _
      refine zk_if (c := w1 = 14) (fun h32_14 => ?_) (fun h32_14 => ?_)
      · refine zk_tableIn (off := 426) dL_law_32 458 (by rw [h32_14]; decide) (by rw [h32_14]; decide) (by rw [h32_14]; rfl) (by decide) ?_
        refine zk_aload_n dL_law_458 1 rfl 459 rfl ?_
        refine zk_aload_n dL_law_459 0 rfl 460 rfl ?_
        refine zk_iload_n dL_law_460 3 rfl 461 rfl ?_
        refine zk_iconst 1 dL_law_461 (by decide) 462 rfl ?_
        refine zk_iadd dL_law_462 463 rfl ?_
        refine zk_sld hX dL_law_463 464 rfl ?_
        refine zk_aload_n dL_law_464 0 rfl 465 rfl ?_
        refine zk_iload_n dL_law_465 3 rfl 466 rfl ?_
        refine zk_iconst 2 dL_law_466 (by decide) 467 rfl ?_
        refine zk_iadd dL_law_467 468 rfl ?_
        refine zk_sld hX dL_law_468 469 rfl ?_
        refine zk_callV (ci := 9) (st := []) (c_X9_promise E l ax (v_state, v_history, v_program, v_forecast) (xs (x3 + 1).toNatClampNeg) (xs (x3 + 2).toNatClampNeg)) dL_law_469 2 gL_law_X9_promise rfl rfl rfl cd_X9_promise ⟨Nat.le_of_ble_eq_true rfl, Nat.le_of_ble_eq_true rfl⟩ ⟨Nat.le_of_ble_eq_true rfl, Nat.le_of_ble_eq_true rfl⟩ _ (fun r469 => (zk_j [gX9 E ax (v_state, v_history, v_program, v_forecast), gX10 E am (u_z, u_snaps, u_hasSnap, u_past, u_pastHas, u_pastMany, u_before, u_spare, u_text, u_typed, u_failure, u_hasFailed, u_isQuiet, u_from, u_end, u_numbers)])) (zk_p1 (gs := [gX9 E ax (v_state, v_history, v_program, v_forecast), gX10 E am (u_z, u_snaps, u_hasSnap, u_past, u_pastHas, u_pastMany, u_before, u_spare, u_text, u_typed, u_failure, u_hasFailed, u_isQuiet, u_from, u_end, u_numbers)]) (i := 0) rfl) (fun r469 => (zk_q1 (gs := [gX9 E ax (v_state, v_history, v_program, v_forecast), gX10 E am (u_z, u_snaps, u_hasSnap, u_past, u_pastHas, u_pastMany, u_before, u_spare, u_text, u_typed, u_failure, u_hasFailed, u_isQuiet, u_from, u_end, u_numbers)]) (i := 0) rfl rfl)) rfl rfl rfl rfl (Nat.le_of_ble_eq_true rfl) (fun r469 => [.int r469]) (fun _ => rfl) 472 rfl (fun r469 => ?_)
        refine zk_aload_n dL_law_472 2 rfl 473 rfl ?_
        refine zk_aload_n dL_law_473 0 rfl 474 rfl ?_
        refine zk_iload_n dL_law_474 3 rfl 475 rfl ?_
        refine zk_iconst 1 dL_law_475 (by decide) 476 rfl ?_
        refine zk_iadd dL_law_476 477 rfl ?_
        refine zk_sld hX dL_law_477 478 rfl ?_
        refine zk_aload_n dL_law_478 0 rfl 479 rfl ?_
        refine zk_iload_n dL_law_479 3 rfl 480 rfl ?_
        refine zk_iconst 2 dL_law_480 (by decide) 481 rfl ?_
        refine zk_iadd dL_law_481 482 rfl ?_
        refine zk_sld hX dL_law_482 483 rfl ?_
        refine zk_callV (ci := 10) (st := [.int r469]) (c_X10_promise E l am (u_z, u_snaps, u_hasSnap, u_past, u_pastHas, u_pastMany, u_before, u_spare, u_text, u_typed, u_failure, u_hasFailed, u_isQuiet, u_from, u_end, u_numbers) (xs (x3 + 1).toNatClampNeg) (xs (x3 + 2).toNatClampNeg)) dL_law_483 2 gL_law_X10_promise rfl rfl rfl cd_X10_promise ⟨Nat.le_of_ble_eq_true rfl, Nat.le_of_ble_eq_true rfl⟩ ⟨Nat.le_of_ble_eq_true rfl, Nat.le_of_ble_eq_true rfl⟩ _ (fun r483 => (zk_j [gX9 E ax (v_state, v_history, v_program, v_forecast), gX10 E am (u_z, u_snaps, u_hasSnap, u_past, u_pastHas, u_pastMany, u_before, u_spare, u_text, u_typed, u_failure, u_hasFailed, u_isQuiet, u_from, u_end, u_numbers)])) (zk_p1 (gs := [gX9 E ax (v_state, v_history, v_program, v_forecast), gX10 E am (u_z, u_snaps, u_hasSnap, u_past, u_pastHas, u_pastMany, u_before, u_spare, u_text, u_typed, u_failure, u_hasFailed, u_isQuiet, u_from, u_end, u_numbers)]) (i := 1) rfl) (fun r483 => (zk_q1 (gs := [gX9 E ax (v_state, v_history, v_program, v_forecast), gX10 E am (u_z, u_snaps, u_hasSnap, u_past, u_pastHas, u_pastMany, u_before, u_spare, u_text, u_typed, u_failure, u_hasFailed, u_isQuiet, u_from, u_end, u_numbers)]) (i := 1) rfl rfl)) rfl rfl rfl rfl (Nat.le_of_ble_eq_true rfl) (fun r483 => [.int r483, .int r469]) (fun _ => rfl) 486 rfl (fun r483 => ?_)
        refine zk_icmp_eq dL_law_486 722 (by decide) 489 rfl (fun _ => ?_) (fun _ => ?_)
        · exact J722  k18 hk18 x3 v_state v_history v_program v_forecast u_z u_snaps u_hasSnap u_past u_pastHas u_pastMany u_before u_spare u_text u_typed u_failure u_hasFailed u_isQuiet u_from u_end u_numbers
        · refine zk_iconst 0 dL_law_489 (by decide) 490 rfl ?_
          exact h0 _ _ _
      refine zk_if (c := w1 = 15) (fun h32_15 => ?_) (fun h32_15 => ?_)
      · refine zk_tableIn (off := 459) dL_law_32 491 (by rw [h32_15]; decide) (by rw [h32_15]; decide) (by rw [h32_15]; rfl) (by decide) ?_
        refine zk_aload_n dL_law_491 1 rfl 492 rfl ?_
        refine zk_aload_n dL_law_492 0 rfl 493 rfl ?_
        refine zk_iload_n dL_law_493 3 rfl 494 rfl ?_
        refine zk_iconst 1 dL_law_494 (by decide) 495 rfl ?_
        refine zk_iadd dL_law_495 496 rfl ?_
        refine zk_sld hX dL_law_496 497 rfl ?_
        refine zk_aload_n dL_law_497 0 rfl 498 rfl ?_
        refine zk_iload_n dL_law_498 3 rfl 499 rfl ?_
        refine zk_iconst 2 dL_law_499 (by decide) 500 rfl ?_
        refine zk_iadd dL_law_500 501 rfl ?_
        refine zk_sld hX dL_law_501 502 rfl ?_
        refine zk_aload_n dL_law_502 0 rfl 503 rfl ?_
        refine zk_iload_n dL_law_503 3 rfl 504 rfl ?_
        refine zk_iconst 3 dL_law_504 (by decide) 505 rfl ?_
        refine zk_iadd dL_law_505 506 rfl ?_
        refine zk_sld hX dL_law_506 507 rfl ?_
        refine zk_callV (ci := 9) (st := []) (c_X9_slot E l ax (v_state, v_history, v_program, v_forecast) (xs (x3 + 1).toNatClampNeg) (xs (x3 + 2).toNatClampNeg) (xs (x3 + 3).toNatClampNeg)) dL_law_507 3 gL_law_X9_slot rfl rfl rfl cd_X9_slot ⟨Nat.le_of_ble_eq_true rfl, Nat.le_of_ble_eq_true rfl⟩ ⟨Nat.le_of_ble_eq_true rfl, Nat.le_of_ble_eq_true rfl⟩ _ (fun r507 => (zk_j [gX9 E ax (v_state, v_history, v_program, v_forecast), gX10 E am (u_z, u_snaps, u_hasSnap, u_past, u_pastHas, u_pastMany, u_before, u_spare, u_text, u_typed, u_failure, u_hasFailed, u_isQuiet, u_from, u_end, u_numbers)])) (zk_p1 (gs := [gX9 E ax (v_state, v_history, v_program, v_forecast), gX10 E am (u_z, u_snaps, u_hasSnap, u_past, u_pastHas, u_pastMany, u_before, u_spare, u_text, u_typed, u_failure, u_hasFailed, u_isQuiet, u_from, u_end, u_numbers)]) (i := 0) rfl) (fun r507 => (zk_q1 (gs := [gX9 E ax (v_state, v_history, v_program, v_forecast), gX10 E am (u_z, u_snaps, u_hasSnap, u_past, u_pastHas, u_pastMany, u_before, u_spare, u_text, u_typed, u_failure, u_hasFailed, u_isQuiet, u_from, u_end, u_numbers)]) (i := 0) rfl rfl)) rfl rfl rfl rfl (Nat.le_of_ble_eq_true rfl) (fun r507 => [.int r507]) (fun _ => rfl) 510 rfl (fun r507 => ?_)
        refine zk_aload_n dL_law_510 2 rfl 511 rfl ?_
        refine zk_aload_n dL_law_511 0 rfl 512 rfl ?_
        refine zk_iload_n dL_law_512 3 rfl 513 rfl ?_
        refine zk_iconst 1 dL_law_513 (by decide) 514 rfl ?_
        refine zk_iadd dL_law_514 515 rfl ?_
        refine zk_sld hX dL_law_515 516 rfl ?_
        refine zk_aload_n dL_law_516 0 rfl 517 rfl ?_
        refine zk_iload_n dL_law_517 3 rfl 518 rfl ?_
        refine zk_iconst 2 dL_law_518 (by decide) 519 rfl ?_
        refine zk_iadd dL_law_519 520 rfl ?_
        refine zk_sld hX dL_law_520 521 rfl ?_
        refine zk_aload_n dL_law_521 0 rfl 522 rfl ?_
        refine zk_iload_n dL_law_522 3 rfl 523 rfl ?_
        refine zk_iconst 3 dL_law_523 (by decide) 524 rfl ?_
        refine zk_iadd dL_law_524 525 rfl ?_
        refine zk_sld hX dL_law_525 526 rfl ?_
        refine zk_callV (ci := 10) (st := [.int r507]) (c_X10_slot E l am (u_z, u_snaps, u_hasSnap, u_past, u_pastHas, u_pastMany, u_before, u_spare, u_text, u_typed, u_failure, u_hasFailed, u_isQuiet, u_from, u_end, u_numbers) (xs (x3 + 1).toNatClampNeg) (xs (x3 + 2).toNatClampNeg) (xs (x3 + 3).toNatClampNeg)) dL_law_526 3 gL_law_X10_slot rfl rfl rfl cd_X10_slot ⟨Nat.le_of_ble_eq_true rfl, Nat.le_of_ble_eq_true rfl⟩ ⟨Nat.le_of_ble_eq_true rfl, Nat.le_of_ble_eq_true rfl⟩ _ (fun r526 => (zk_j [gX9 E ax (v_state, v_history, v_program, v_forecast), gX10 E am (u_z, u_snaps, u_hasSnap, u_past, u_pastHas, u_pastMany, u_before, u_spare, u_text, u_typed, u_failure, u_hasFailed, u_isQuiet, u_from, u_end, u_numbers)])) (zk_p1 (gs := [gX9 E ax (v_state, v_history, v_program, v_forecast), gX10 E am (u_z, u_snaps, u_hasSnap, u_past, u_pastHas, u_pastMany, u_before, u_spare, u_text, u_typed, u_failure, u_hasFailed, u_isQuiet, u_from, u_end, u_numbers)]) (i := 1) rfl) (fun r526 => (zk_q1 (gs := [gX9 E ax (v_state, v_history, v_program, v_forecast), gX10 E am (u_z, u_snaps, u_hasSnap, u_past, u_pastHas, u_pastMany, u_before, u_spare, u_text, u_typed, u_failure, u_hasFailed, u_isQuiet, u_from, u_end, u_numbers)]) (i := 1) rfl rfl)) rfl rfl rfl rfl (Nat.le_of_ble_eq_true rfl) (fun r526 => [.int r526, .int r507]) (fun _ => rfl) 529 rfl (fun r526 => ?_)
        refine zk_icmp_eq dL_law_529 722 (by decide) 532 rfl (fun _ => ?_) (fun _ => ?_)
        · exact J722  k18 hk18 x3 v_state v_history v_program v_forecast u_z u_snaps u_hasSnap u_past u_pastHas u_pastMany u_before u_spare u_text u_typed u_failure u_hasFailed u_isQuiet u_from u_end u_numbers
        · refine zk_iconst 0 dL_law_532 (by decide) 533 rfl ?_
          exact h0 _ _ _
      refine zk_if (c := w1 = 16) (fun h32_16 => ?_) (fun h32_16 => ?_)
      · refine zk_tableIn (off := 502) dL_law_32 534 (by rw [h32_16]; decide) (by rw [h32_16]; decide) (by rw [h32_16]; rfl) (by decide) ?_
        refine zk_aload_n dL_law_534 1 rfl 535 rfl ?_
        refine zk_aload_n dL_law_535 0 rfl 536 rfl ?_
        refine zk_iload_n dL_law_536 3 rfl 537 rfl ?_
        refine zk_iconst 1 dL_law_537 (by decide) 538 rfl ?_
        refine zk_iadd dL_law_538 539 rfl ?_
        refine zk_sld hX dL_law_539 540 rfl ?_
        refine zk_aload_n dL_law_540 0 rfl 541 rfl ?_
        refine zk_iload_n dL_law_541 3 rfl 542 rfl ?_
        refine zk_iconst 2 dL_law_542 (by decide) 543 rfl ?_
        refine zk_iadd dL_law_543 544 rfl ?_
        refine zk_sld hX dL_law_544 545 rfl ?_
        refine zk_aload_n dL_law_545 0 rfl 546 rfl ?_
        refine zk_iload_n dL_law_546 3 rfl 547 rfl ?_
        refine zk_iconst 3 dL_law_547 (by decide) 548 rfl ?_
        refine zk_iadd dL_law_548 549 rfl ?_
        refine zk_sld hX dL_law_549 550 rfl ?_
        refine zk_callV (ci := 9) (st := []) (c_X9_stands E l ax (v_state, v_history, v_program, v_forecast) (xs (x3 + 1).toNatClampNeg) (xs (x3 + 2).toNatClampNeg) (xs (x3 + 3).toNatClampNeg)) dL_law_550 3 gL_law_X9_stands rfl rfl rfl cd_X9_stands ⟨Nat.le_of_ble_eq_true rfl, Nat.le_of_ble_eq_true rfl⟩ ⟨Nat.le_of_ble_eq_true rfl, Nat.le_of_ble_eq_true rfl⟩ _ (fun r550 => (zk_j [gX9 E ax (v_state, v_history, v_program, v_forecast), gX10 E am (u_z, u_snaps, u_hasSnap, u_past, u_pastHas, u_pastMany, u_before, u_spare, u_text, u_typed, u_failure, u_hasFailed, u_isQuiet, u_from, u_end, u_numbers)])) (zk_p1 (gs := [gX9 E ax (v_state, v_history, v_program, v_forecast), gX10 E am (u_z, u_snaps, u_hasSnap, u_past, u_pastHas, u_pastMany, u_before, u_spare, u_text, u_typed, u_failure, u_hasFailed, u_isQuiet, u_from, u_end, u_numbers)]) (i := 0) rfl) (fun r550 => (zk_q1 (gs := [gX9 E ax (v_state, v_history, v_program, v_forecast), gX10 E am (u_z, u_snaps, u_hasSnap, u_past, u_pastHas, u_pastMany, u_before, u_spare, u_text, u_typed, u_failure, u_hasFailed, u_isQuiet, u_from, u_end, u_numbers)]) (i := 0) rfl rfl)) rfl rfl rfl rfl (Nat.le_of_ble_eq_true rfl) (fun r550 => [.int r550]) (fun _ => rfl) 553 rfl (fun r550 => ?_)
        refine zk_aload_n dL_law_553 2 rfl 554 rfl ?_
        refine zk_aload_n dL_law_554 0 rfl 555 rfl ?_
        refine zk_iload_n dL_law_555 3 rfl 556 rfl ?_
        refine zk_iconst 1 dL_law_556 (by decide) 557 rfl ?_
        refine zk_iadd dL_law_557 558 rfl ?_
        refine zk_sld hX dL_law_558 559 rfl ?_
        refine zk_aload_n dL_law_559 0 rfl 560 rfl ?_
        refine zk_iload_n dL_law_560 3 rfl 561 rfl ?_
        refine zk_iconst 2 dL_law_561 (by decide) 562 rfl ?_
        refine zk_iadd dL_law_562 563 rfl ?_
        refine zk_sld hX dL_law_563 564 rfl ?_
        refine zk_aload_n dL_law_564 0 rfl 565 rfl ?_
        refine zk_iload_n dL_law_565 3 rfl 566 rfl ?_
        refine zk_iconst 3 dL_law_566 (by decide) 567 rfl ?_
        refine zk_iadd dL_law_567 568 rfl ?_
        refine zk_sld hX dL_law_568 569 rfl ?_
        refine zk_callV (ci := 10) (st := [.int r550]) (c_X10_stands E l am (u_z, u_snaps, u_hasSnap, u_past, u_pastHas, u_pastMany, u_before, u_spare, u_text, u_typed, u_failure, u_hasFailed, u_isQuiet, u_from, u_end, u_numbers) (xs (x3 + 1).toNatClampNeg) (xs (x3 + 2).toNatClampNeg) (xs (x3 + 3).toNatClampNeg)) dL_law_569 3 gL_law_X10_stands rfl rfl rfl cd_X10_stands ⟨Nat.le_of_ble_eq_true rfl, Nat.le_of_ble_eq_true rfl⟩ ⟨Nat.le_of_ble_eq_true rfl, Nat.le_of_ble_eq_true rfl⟩ _ (fun r569 => (zk_j [gX9 E ax (v_state, v_history, v_program, v_forecast), gX10 E am (u_z, u_snaps, u_hasSnap, u_past, u_pastHas, u_pastMany, u_before, u_spare, u_text, u_typed, u_failure, u_hasFailed, u_isQuiet, u_from, u_end, u_numbers)])) (zk_p1 (gs := [gX9 E ax (v_state, v_history, v_program, v_forecast), gX10 E am (u_z, u_snaps, u_hasSnap, u_past, u_pastHas, u_pastMany, u_before, u_spare, u_text, u_typed, u_failure, u_hasFailed, u_isQuiet, u_from, u_end, u_numbers)]) (i := 1) rfl) (fun r569 => (zk_q1 (gs := [gX9 E ax (v_state, v_history, v_program, v_forecast), gX10 E am (u_z, u_snaps, u_hasSnap, u_past, u_pastHas, u_pastMany, u_before, u_spare, u_text, u_typed, u_failure, u_hasFailed, u_isQuiet, u_from, u_end, u_numbers)]) (i := 1) rfl rfl)) rfl rfl rfl rfl (Nat.le_of_ble_eq_true rfl) (fun r569 => [.int r569, .int r550]) (fun _ => rfl) 572 rfl (fun r569 => ?_)
        refine zk_icmp_eq dL_law_572 722 (by decide) 575 rfl (fun _ => ?_) (fun _ => ?_)
        · exact J722  k18 hk18 x3 v_state v_history v_program v_forecast u_z u_snaps u_hasSnap u_past u_pastHas u_pastMany u_before u_spare u_text u_typed u_failure u_hasFailed u_isQuiet u_from u_end u_numbers
        · refine zk_iconst 0 dL_law_575 (by decide) 576 rfl ?_
          exact h0 _ _ _
      refine zk_if (c := w1 = 17) (fun h32_17 => ?_) (fun h32_17 => ?_)
      · refine zk_tableIn (off := 545) dL_law_32 577 (by rw [h32_17]; decide) (by rw [h32_17]; decide) (by rw [h32_17]; rfl) (by decide) ?_
        refine zk_aload_n dL_law_577 1 rfl 578 rfl ?_
        refine zk_aload_n dL_law_578 0 rfl 579 rfl ?_
        refine zk_iload_n dL_law_579 3 rfl 580 rfl ?_
        refine zk_iconst 1 dL_law_580 (by decide) 581 rfl ?_
        refine zk_iadd dL_law_581 582 rfl ?_
        refine zk_sld hX dL_law_582 583 rfl ?_
        refine zk_aload_n dL_law_583 0 rfl 584 rfl ?_
        refine zk_iload_n dL_law_584 3 rfl 585 rfl ?_
        refine zk_iconst 2 dL_law_585 (by decide) 586 rfl ?_
        refine zk_iadd dL_law_586 587 rfl ?_
        refine zk_sld hX dL_law_587 588 rfl ?_
        refine zk_callV (ci := 9) (st := []) (c_X9_call E l ax (v_state, v_history, v_program, v_forecast) (xs (x3 + 1).toNatClampNeg) (xs (x3 + 2).toNatClampNeg)) dL_law_588 2 gL_law_X9_call rfl rfl rfl cd_X9_call ⟨Nat.le_of_ble_eq_true rfl, Nat.le_of_ble_eq_true rfl⟩ ⟨Nat.le_of_ble_eq_true rfl, Nat.le_of_ble_eq_true rfl⟩ _ (fun r588 => (zk_j [gX9 E ax (v_state, v_history, v_program, v_forecast), gX10 E am (u_z, u_snaps, u_hasSnap, u_past, u_pastHas, u_pastMany, u_before, u_spare, u_text, u_typed, u_failure, u_hasFailed, u_isQuiet, u_from, u_end, u_numbers)])) (zk_p1 (gs := [gX9 E ax (v_state, v_history, v_program, v_forecast), gX10 E am (u_z, u_snaps, u_hasSnap, u_past, u_pastHas, u_pastMany, u_before, u_spare, u_text, u_typed, u_failure, u_hasFailed, u_isQuiet, u_from, u_end, u_numbers)]) (i := 0) rfl) (fun r588 => (zk_q1 (gs := [gX9 E ax (v_state, v_history, v_program, v_forecast), gX10 E am (u_z, u_snaps, u_hasSnap, u_past, u_pastHas, u_pastMany, u_before, u_spare, u_text, u_typed, u_failure, u_hasFailed, u_isQuiet, u_from, u_end, u_numbers)]) (i := 0) rfl rfl)) rfl rfl rfl rfl (Nat.le_of_ble_eq_true rfl) (fun r588 => [.int r588]) (fun _ => rfl) 591 rfl (fun r588 => ?_)
        refine zk_aload_n dL_law_591 2 rfl 592 rfl ?_
        refine zk_aload_n dL_law_592 0 rfl 593 rfl ?_
        refine zk_iload_n dL_law_593 3 rfl 594 rfl ?_
        refine zk_iconst 1 dL_law_594 (by decide) 595 rfl ?_
        refine zk_iadd dL_law_595 596 rfl ?_
        refine zk_sld hX dL_law_596 597 rfl ?_
        refine zk_aload_n dL_law_597 0 rfl 598 rfl ?_
        refine zk_iload_n dL_law_598 3 rfl 599 rfl ?_
        refine zk_iconst 2 dL_law_599 (by decide) 600 rfl ?_
        refine zk_iadd dL_law_600 601 rfl ?_
        refine zk_sld hX dL_law_601 602 rfl ?_
        refine zk_callV (ci := 10) (st := [.int r588]) (c_X10_call E l am (u_z, u_snaps, u_hasSnap, u_past, u_pastHas, u_pastMany, u_before, u_spare, u_text, u_typed, u_failure, u_hasFailed, u_isQuiet, u_from, u_end, u_numbers) (xs (x3 + 1).toNatClampNeg) (xs (x3 + 2).toNatClampNeg)) dL_law_602 2 gL_law_X10_call rfl rfl rfl cd_X10_call ⟨Nat.le_of_ble_eq_true rfl, Nat.le_of_ble_eq_true rfl⟩ ⟨Nat.le_of_ble_eq_true rfl, Nat.le_of_ble_eq_true rfl⟩ _ (fun r602 => (zk_j [gX9 E ax (v_state, v_history, v_program, v_forecast), gX10 E am (u_z, u_snaps, u_hasSnap, u_past, u_pastHas, u_pastMany, u_before, u_spare, u_text, u_typed, u_failure, u_hasFailed, u_isQuiet, u_from, u_end, u_numbers)])) (zk_p1 (gs := [gX9 E ax (v_state, v_history, v_program, v_forecast), gX10 E am (u_z, u_snaps, u_hasSnap, u_past, u_pastHas, u_pastMany, u_before, u_spare, u_text, u_typed, u_failure, u_hasFailed, u_isQuiet, u_from, u_end, u_numbers)]) (i := 1) rfl) (fun r602 => (zk_q1 (gs := [gX9 E ax (v_state, v_history, v_program, v_forecast), gX10 E am (u_z, u_snaps, u_hasSnap, u_past, u_pastHas, u_pastMany, u_before, u_spare, u_text, u_typed, u_failure, u_hasFailed, u_isQuiet, u_from, u_end, u_numbers)]) (i := 1) rfl rfl)) rfl rfl rfl rfl (Nat.le_of_ble_eq_true rfl) (fun r602 => [.int r602, .int r588]) (fun _ => rfl) 605 rfl (fun r602 => ?_)
        refine zk_icmp_eq dL_law_605 722 (by decide) 608 rfl (fun _ => ?_) (fun _ => ?_)
        · exact J722  k18 hk18 x3 v_state v_history v_program v_forecast u_z u_snaps u_hasSnap u_past u_pastHas u_pastMany u_before u_spare u_text u_typed u_failure u_hasFailed u_isQuiet u_from u_end u_numbers
        · refine zk_iconst 0 dL_law_608 (by decide) 609 rfl ?_
          exact h0 _ _ _
      refine zk_if (c := w1 = 18) (fun h32_18 => ?_) (fun h32_18 => ?_)
      · refine zk_tableIn (off := 578) dL_law_32 610 (by rw [h32_18]; decide) (by rw [h32_18]; decide) (by rw [h32_18]; rfl) (by decide) ?_
        refine zk_aload_n dL_law_610 1 rfl 611 rfl ?_
        refine zk_aload_n dL_law_611 0 rfl 612 rfl ?_
        refine zk_iload_n dL_law_612 3 rfl 613 rfl ?_
        refine zk_iconst 1 dL_law_613 (by decide) 614 rfl ?_
        refine zk_iadd dL_law_614 615 rfl ?_
        refine zk_sld hX dL_law_615 616 rfl ?_
        refine zk_aload_n dL_law_616 0 rfl 617 rfl ?_
        refine zk_iload_n dL_law_617 3 rfl 618 rfl ?_
        refine zk_iconst 2 dL_law_618 (by decide) 619 rfl ?_
        refine zk_iadd dL_law_619 620 rfl ?_
        refine zk_sld hX dL_law_620 621 rfl ?_
        refine zk_callV (ci := 9) (st := []) (c_X9_next E l ax (v_state, v_history, v_program, v_forecast) (xs (x3 + 1).toNatClampNeg) (xs (x3 + 2).toNatClampNeg)) dL_law_621 2 gL_law_X9_next rfl rfl rfl cd_X9_next ⟨Nat.le_of_ble_eq_true rfl, Nat.le_of_ble_eq_true rfl⟩ ⟨Nat.le_of_ble_eq_true rfl, Nat.le_of_ble_eq_true rfl⟩ _ (fun r621 => (zk_j [gX9 E ax (v_state, v_history, v_program, v_forecast), gX10 E am (u_z, u_snaps, u_hasSnap, u_past, u_pastHas, u_pastMany, u_before, u_spare, u_text, u_typed, u_failure, u_hasFailed, u_isQuiet, u_from, u_end, u_numbers)])) (zk_p1 (gs := [gX9 E ax (v_state, v_history, v_program, v_forecast), gX10 E am (u_z, u_snaps, u_hasSnap, u_past, u_pastHas, u_pastMany, u_before, u_spare, u_text, u_typed, u_failure, u_hasFailed, u_isQuiet, u_from, u_end, u_numbers)]) (i := 0) rfl) (fun r621 => (zk_q1 (gs := [gX9 E ax (v_state, v_history, v_program, v_forecast), gX10 E am (u_z, u_snaps, u_hasSnap, u_past, u_pastHas, u_pastMany, u_before, u_spare, u_text, u_typed, u_failure, u_hasFailed, u_isQuiet, u_from, u_end, u_numbers)]) (i := 0) rfl rfl)) rfl rfl rfl rfl (Nat.le_of_ble_eq_true rfl) (fun r621 => [.int r621]) (fun _ => rfl) 624 rfl (fun r621 => ?_)
        refine zk_aload_n dL_law_624 2 rfl 625 rfl ?_
        refine zk_aload_n dL_law_625 0 rfl 626 rfl ?_
        refine zk_iload_n dL_law_626 3 rfl 627 rfl ?_
        refine zk_iconst 1 dL_law_627 (by decide) 628 rfl ?_
        refine zk_iadd dL_law_628 629 rfl ?_
        refine zk_sld hX dL_law_629 630 rfl ?_
        refine zk_aload_n dL_law_630 0 rfl 631 rfl ?_
        refine zk_iload_n dL_law_631 3 rfl 632 rfl ?_
        refine zk_iconst 2 dL_law_632 (by decide) 633 rfl ?_
        refine zk_iadd dL_law_633 634 rfl ?_
        refine zk_sld hX dL_law_634 635 rfl ?_
        refine zk_callV (ci := 10) (st := [.int r621]) (c_X10_next E l am (u_z, u_snaps, u_hasSnap, u_past, u_pastHas, u_pastMany, u_before, u_spare, u_text, u_typed, u_failure, u_hasFailed, u_isQuiet, u_from, u_end, u_numbers) (xs (x3 + 1).toNatClampNeg) (xs (x3 + 2).toNatClampNeg)) dL_law_635 2 gL_law_X10_next rfl rfl rfl cd_X10_next ⟨Nat.le_of_ble_eq_true rfl, Nat.le_of_ble_eq_true rfl⟩ ⟨Nat.le_of_ble_eq_true rfl, Nat.le_of_ble_eq_true rfl⟩ _ (fun r635 => (zk_j [gX9 E ax (v_state, v_history, v_program, v_forecast), gX10 E am (u_z, u_snaps, u_hasSnap, u_past, u_pastHas, u_pastMany, u_before, u_spare, u_text, u_typed, u_failure, u_hasFailed, u_isQuiet, u_from, u_end, u_numbers)])) (zk_p1 (gs := [gX9 E ax (v_state, v_history, v_program, v_forecast), gX10 E am (u_z, u_snaps, u_hasSnap, u_past, u_pastHas, u_pastMany, u_before, u_spare, u_text, u_typed, u_failure, u_hasFailed, u_isQuiet, u_from, u_end, u_numbers)]) (i := 1) rfl) (fun r635 => (zk_q1 (gs := [gX9 E ax (v_state, v_history, v_program, v_forecast), gX10 E am (u_z, u_snaps, u_hasSnap, u_past, u_pastHas, u_pastMany, u_before, u_spare, u_text, u_typed, u_failure, u_hasFailed, u_isQuiet, u_from, u_end, u_numbers)]) (i := 1) rfl rfl)) rfl rfl rfl rfl (Nat.le_of_ble_eq_true rfl) (fun r635 => [.int r635, .int r621]) (fun _ => rfl) 638 rfl (fun r635 => ?_)
        refine zk_icmp_eq dL_law_638 722 (by decide) 641 rfl (fun _ => ?_) (fun _ => ?_)
        · exact J722  k18 hk18 x3 v_state v_history v_program v_forecast u_z u_snaps u_hasSnap u_past u_pastHas u_pastMany u_before u_spare u_text u_typed u_failure u_hasFailed u_isQuiet u_from u_end u_numbers
        · refine zk_iconst 0 dL_law_641 (by decide) 642 rfl ?_
          exact h0 _ _ _
      refine zk_if (c := w1 = 19) (fun h32_19 => ?_) (fun h32_19 => ?_)
      · refine zk_tableIn (off := 611) dL_law_32 643 (by rw [h32_19]; decide) (by rw [h32_19]; decide) (by rw [h32_19]; rfl) (by decide) ?_
        refine zk_aload_n dL_law_643 1 rfl 644 rfl ?_
        refine zk_aload_n dL_law_644 0 rfl 645 rfl ?_
        refine zk_iload_n dL_law_645 3 rfl 646 rfl ?_
        refine zk_iconst 1 dL_law_646 (by decide) 647 rfl ?_
        refine zk_iadd dL_law_647 648 rfl ?_
        refine zk_sld hX dL_law_648 649 rfl ?_
        refine zk_callV (ci := 9) (st := []) (c_X9_when E l ax (v_state, v_history, v_program, v_forecast) (xs (x3 + 1).toNatClampNeg)) dL_law_649 1 gL_law_X9_when rfl rfl rfl cd_X9_when ⟨Nat.le_of_ble_eq_true rfl, Nat.le_of_ble_eq_true rfl⟩ ⟨Nat.le_of_ble_eq_true rfl, Nat.le_of_ble_eq_true rfl⟩ _ (fun r649 => (zk_j [gX9 E ax (v_state, v_history, v_program, r649.2), gX10 E am (u_z, u_snaps, u_hasSnap, u_past, u_pastHas, u_pastMany, u_before, u_spare, u_text, u_typed, u_failure, u_hasFailed, u_isQuiet, u_from, u_end, u_numbers)])) (zk_p1 (gs := [gX9 E ax (v_state, v_history, v_program, v_forecast), gX10 E am (u_z, u_snaps, u_hasSnap, u_past, u_pastHas, u_pastMany, u_before, u_spare, u_text, u_typed, u_failure, u_hasFailed, u_isQuiet, u_from, u_end, u_numbers)]) (i := 0) rfl) (fun r649 => (zk_q1 (gs := [gX9 E ax (v_state, v_history, v_program, v_forecast), gX10 E am (u_z, u_snaps, u_hasSnap, u_past, u_pastHas, u_pastMany, u_before, u_spare, u_text, u_typed, u_failure, u_hasFailed, u_isQuiet, u_from, u_end, u_numbers)]) (i := 0) rfl rfl)) rfl rfl rfl rfl (Nat.le_of_ble_eq_true rfl) (fun r649 => [.int r649.1]) (fun _ => rfl) 652 rfl (fun r649 => ?_)
        refine zk_aload_n dL_law_652 2 rfl 653 rfl ?_
        refine zk_aload_n dL_law_653 0 rfl 654 rfl ?_
        refine zk_iload_n dL_law_654 3 rfl 655 rfl ?_
        refine zk_iconst 1 dL_law_655 (by decide) 656 rfl ?_
        refine zk_iadd dL_law_656 657 rfl ?_
        refine zk_sld hX dL_law_657 658 rfl ?_
        refine zk_callV (ci := 10) (st := [.int r649.1]) (c_X10_when E l am (u_z, u_snaps, u_hasSnap, u_past, u_pastHas, u_pastMany, u_before, u_spare, u_text, u_typed, u_failure, u_hasFailed, u_isQuiet, u_from, u_end, u_numbers) (xs (x3 + 1).toNatClampNeg)) dL_law_658 1 gL_law_X10_when rfl rfl rfl cd_X10_when ⟨Nat.le_of_ble_eq_true rfl, Nat.le_of_ble_eq_true rfl⟩ ⟨Nat.le_of_ble_eq_true rfl, Nat.le_of_ble_eq_true rfl⟩ _ (fun r658 => (zk_j [gX9 E ax (v_state, v_history, v_program, r649.2), gX10 E am (r658.2.1, u_snaps, u_hasSnap, u_past, u_pastHas, u_pastMany, u_before, r658.2.2, u_text, u_typed, u_failure, u_hasFailed, u_isQuiet, u_from, u_end, u_numbers)])) (zk_p1 (gs := [gX9 E ax (v_state, v_history, v_program, r649.2), gX10 E am (u_z, u_snaps, u_hasSnap, u_past, u_pastHas, u_pastMany, u_before, u_spare, u_text, u_typed, u_failure, u_hasFailed, u_isQuiet, u_from, u_end, u_numbers)]) (i := 1) rfl) (fun r658 => (zk_q1 (gs := [gX9 E ax (v_state, v_history, v_program, r649.2), gX10 E am (u_z, u_snaps, u_hasSnap, u_past, u_pastHas, u_pastMany, u_before, u_spare, u_text, u_typed, u_failure, u_hasFailed, u_isQuiet, u_from, u_end, u_numbers)]) (i := 1) rfl rfl)) rfl rfl rfl rfl (Nat.le_of_ble_eq_true rfl) (fun r658 => [.int r658.1, .int r649.1]) (fun _ => rfl) 661 rfl (fun r658 => ?_)
        refine zk_icmp_eq dL_law_661 722 (by decide) 664 rfl (fun _ => ?_) (fun _ => ?_)
        · exact J722  k18 hk18 x3 v_state v_history v_program r649.2 r658.2.1 u_snaps u_hasSnap u_past u_pastHas u_pastMany u_before r658.2.2 u_text u_typed u_failure u_hasFailed u_isQuiet u_from u_end u_numbers
        · refine zk_iconst 0 dL_law_664 (by decide) 665 rfl ?_
          exact h0 _ _ _
      refine zk_if (c := w1 = 20) (fun h32_20 => ?_) (fun h32_20 => ?_)
      · refine zk_tableIn (off := 634) dL_law_32 666 (by rw [h32_20]; decide) (by rw [h32_20]; decide) (by rw [h32_20]; rfl) (by decide) ?_
        refine zk_aload_n dL_law_666 1 rfl 667 rfl ?_
        refine zk_aload_n dL_law_667 0 rfl 668 rfl ?_
        refine zk_iload_n dL_law_668 3 rfl 669 rfl ?_
        refine zk_iconst 1 dL_law_669 (by decide) 670 rfl ?_
        refine zk_iadd dL_law_670 671 rfl ?_
        refine zk_sld hX dL_law_671 672 rfl ?_
        refine zk_aload_n dL_law_672 0 rfl 673 rfl ?_
        refine zk_iload_n dL_law_673 3 rfl 674 rfl ?_
        refine zk_iconst 2 dL_law_674 (by decide) 675 rfl ?_
        refine zk_iadd dL_law_675 676 rfl ?_
        refine zk_sld hX dL_law_676 677 rfl ?_
        refine zk_callV (ci := 9) (st := []) (c_X9_would E l ax (v_state, v_history, v_program, v_forecast) (xs (x3 + 1).toNatClampNeg) (xs (x3 + 2).toNatClampNeg)) dL_law_677 2 gL_law_X9_would rfl rfl rfl cd_X9_would ⟨Nat.le_of_ble_eq_true rfl, Nat.le_of_ble_eq_true rfl⟩ ⟨Nat.le_of_ble_eq_true rfl, Nat.le_of_ble_eq_true rfl⟩ _ (fun r677 => (zk_j [gX9 E ax (v_state, v_history, v_program, r677.2), gX10 E am (u_z, u_snaps, u_hasSnap, u_past, u_pastHas, u_pastMany, u_before, u_spare, u_text, u_typed, u_failure, u_hasFailed, u_isQuiet, u_from, u_end, u_numbers)])) (zk_p1 (gs := [gX9 E ax (v_state, v_history, v_program, v_forecast), gX10 E am (u_z, u_snaps, u_hasSnap, u_past, u_pastHas, u_pastMany, u_before, u_spare, u_text, u_typed, u_failure, u_hasFailed, u_isQuiet, u_from, u_end, u_numbers)]) (i := 0) rfl) (fun r677 => (zk_q1 (gs := [gX9 E ax (v_state, v_history, v_program, v_forecast), gX10 E am (u_z, u_snaps, u_hasSnap, u_past, u_pastHas, u_pastMany, u_before, u_spare, u_text, u_typed, u_failure, u_hasFailed, u_isQuiet, u_from, u_end, u_numbers)]) (i := 0) rfl rfl)) rfl rfl rfl rfl (Nat.le_of_ble_eq_true rfl) (fun r677 => [.int r677.1]) (fun _ => rfl) 680 rfl (fun r677 => ?_)
        refine zk_aload_n dL_law_680 2 rfl 681 rfl ?_
        refine zk_aload_n dL_law_681 0 rfl 682 rfl ?_
        refine zk_iload_n dL_law_682 3 rfl 683 rfl ?_
        refine zk_iconst 1 dL_law_683 (by decide) 684 rfl ?_
        refine zk_iadd dL_law_684 685 rfl ?_
        refine zk_sld hX dL_law_685 686 rfl ?_
        refine zk_aload_n dL_law_686 0 rfl 687 rfl ?_
        refine zk_iload_n dL_law_687 3 rfl 688 rfl ?_
        refine zk_iconst 2 dL_law_688 (by decide) 689 rfl ?_
        refine zk_iadd dL_law_689 690 rfl ?_
        refine zk_sld hX dL_law_690 691 rfl ?_
        refine zk_callV (ci := 10) (st := [.int r677.1]) (c_X10_would E l am (u_z, u_snaps, u_hasSnap, u_past, u_pastHas, u_pastMany, u_before, u_spare, u_text, u_typed, u_failure, u_hasFailed, u_isQuiet, u_from, u_end, u_numbers) (xs (x3 + 1).toNatClampNeg) (xs (x3 + 2).toNatClampNeg)) dL_law_691 2 gL_law_X10_would rfl rfl rfl cd_X10_would ⟨Nat.le_of_ble_eq_true rfl, Nat.le_of_ble_eq_true rfl⟩ ⟨Nat.le_of_ble_eq_true rfl, Nat.le_of_ble_eq_true rfl⟩ _ (fun r691 => (zk_j [gX9 E ax (v_state, v_history, v_program, r677.2), gX10 E am (r691.2.1, u_snaps, u_hasSnap, u_past, u_pastHas, u_pastMany, u_before, r691.2.2, u_text, u_typed, u_failure, u_hasFailed, u_isQuiet, u_from, u_end, u_numbers)])) (zk_p1 (gs := [gX9 E ax (v_state, v_history, v_program, r677.2), gX10 E am (u_z, u_snaps, u_hasSnap, u_past, u_pastHas, u_pastMany, u_before, u_spare, u_text, u_typed, u_failure, u_hasFailed, u_isQuiet, u_from, u_end, u_numbers)]) (i := 1) rfl) (fun r691 => (zk_q1 (gs := [gX9 E ax (v_state, v_history, v_program, r677.2), gX10 E am (u_z, u_snaps, u_hasSnap, u_past, u_pastHas, u_pastMany, u_before, u_spare, u_text, u_typed, u_failure, u_hasFailed, u_isQuiet, u_from, u_end, u_numbers)]) (i := 1) rfl rfl)) rfl rfl rfl rfl (Nat.le_of_ble_eq_true rfl) (fun r691 => [.int r691.1, .int r677.1]) (fun _ => rfl) 694 rfl (fun r691 => ?_)
        refine zk_icmp_eq dL_law_694 722 (by decide) 697 rfl (fun _ => ?_) (fun _ => ?_)
        · exact J722  k18 hk18 x3 v_state v_history v_program r677.2 r691.2.1 u_snaps u_hasSnap u_past u_pastHas u_pastMany u_before r691.2.2 u_text u_typed u_failure u_hasFailed u_isQuiet u_from u_end u_numbers
        · refine zk_iconst 0 dL_law_697 (by decide) 698 rfl ?_
          exact h0 _ _ _
      refine zk_if (c := w1 = 21) (fun h32_21 => ?_) (fun h32_21 => ?_)
      · refine zk_tableIn (off := 667) dL_law_32 699 (by rw [h32_21]; decide) (by rw [h32_21]; decide) (by rw [h32_21]; rfl) (by decide) ?_
        refine zk_aload_n dL_law_699 1 rfl 700 rfl ?_
        refine zk_aload_n dL_law_700 0 rfl 701 rfl ?_
        refine zk_iload_n dL_law_701 3 rfl 702 rfl ?_
        refine zk_iconst 1 dL_law_702 (by decide) 703 rfl ?_
        refine zk_iadd dL_law_703 704 rfl ?_
        refine zk_sld hX dL_law_704 705 rfl ?_
        refine zk_callV (ci := 9) (st := []) (c_X9_leastRoom E l ax (v_state, v_history, v_program, v_forecast) (xs (x3 + 1).toNatClampNeg)) dL_law_705 1 gL_law_X9_leastRoom rfl rfl rfl cd_X9_leastRoom ⟨Nat.le_of_ble_eq_true rfl, Nat.le_of_ble_eq_true rfl⟩ ⟨Nat.le_of_ble_eq_true rfl, Nat.le_of_ble_eq_true rfl⟩ _ (fun r705 => (zk_j [gX9 E ax (v_state, v_history, v_program, r705.2), gX10 E am (u_z, u_snaps, u_hasSnap, u_past, u_pastHas, u_pastMany, u_before, u_spare, u_text, u_typed, u_failure, u_hasFailed, u_isQuiet, u_from, u_end, u_numbers)])) (zk_p1 (gs := [gX9 E ax (v_state, v_history, v_program, v_forecast), gX10 E am (u_z, u_snaps, u_hasSnap, u_past, u_pastHas, u_pastMany, u_before, u_spare, u_text, u_typed, u_failure, u_hasFailed, u_isQuiet, u_from, u_end, u_numbers)]) (i := 0) rfl) (fun r705 => (zk_q1 (gs := [gX9 E ax (v_state, v_history, v_program, v_forecast), gX10 E am (u_z, u_snaps, u_hasSnap, u_past, u_pastHas, u_pastMany, u_before, u_spare, u_text, u_typed, u_failure, u_hasFailed, u_isQuiet, u_from, u_end, u_numbers)]) (i := 0) rfl rfl)) rfl rfl rfl rfl (Nat.le_of_ble_eq_true rfl) (fun r705 => [.int r705.1]) (fun _ => rfl) 708 rfl (fun r705 => ?_)
        refine zk_aload_n dL_law_708 2 rfl 709 rfl ?_
        refine zk_aload_n dL_law_709 0 rfl 710 rfl ?_
        refine zk_iload_n dL_law_710 3 rfl 711 rfl ?_
        refine zk_iconst 1 dL_law_711 (by decide) 712 rfl ?_
        refine zk_iadd dL_law_712 713 rfl ?_
        refine zk_sld hX dL_law_713 714 rfl ?_
        refine zk_callV (ci := 10) (st := [.int r705.1]) (c_X10_leastRoom E l am (u_z, u_snaps, u_hasSnap, u_past, u_pastHas, u_pastMany, u_before, u_spare, u_text, u_typed, u_failure, u_hasFailed, u_isQuiet, u_from, u_end, u_numbers) (xs (x3 + 1).toNatClampNeg)) dL_law_714 1 gL_law_X10_leastRoom rfl rfl rfl cd_X10_leastRoom ⟨Nat.le_of_ble_eq_true rfl, Nat.le_of_ble_eq_true rfl⟩ ⟨Nat.le_of_ble_eq_true rfl, Nat.le_of_ble_eq_true rfl⟩ _ (fun r714 => (zk_j [gX9 E ax (v_state, v_history, v_program, r705.2), gX10 E am (r714.2.1, u_snaps, u_hasSnap, u_past, u_pastHas, u_pastMany, u_before, r714.2.2, u_text, u_typed, u_failure, u_hasFailed, u_isQuiet, u_from, u_end, u_numbers)])) (zk_p1 (gs := [gX9 E ax (v_state, v_history, v_program, r705.2), gX10 E am (u_z, u_snaps, u_hasSnap, u_past, u_pastHas, u_pastMany, u_before, u_spare, u_text, u_typed, u_failure, u_hasFailed, u_isQuiet, u_from, u_end, u_numbers)]) (i := 1) rfl) (fun r714 => (zk_q1 (gs := [gX9 E ax (v_state, v_history, v_program, r705.2), gX10 E am (u_z, u_snaps, u_hasSnap, u_past, u_pastHas, u_pastMany, u_before, u_spare, u_text, u_typed, u_failure, u_hasFailed, u_isQuiet, u_from, u_end, u_numbers)]) (i := 1) rfl rfl)) rfl rfl rfl rfl (Nat.le_of_ble_eq_true rfl) (fun r714 => [.int r714.1, .int r705.1]) (fun _ => rfl) 717 rfl (fun r714 => ?_)
        refine zk_icmp_eq dL_law_717 722 (by decide) 720 rfl (fun _ => ?_) (fun _ => ?_)
        · exact J722  k18 hk18 x3 v_state v_history v_program r705.2 r714.2.1 u_snaps u_hasSnap u_past u_pastHas u_pastMany u_before r714.2.2 u_text u_typed u_failure u_hasFailed u_isQuiet u_from u_end u_numbers
        · refine zk_iconst 0 dL_law_720 (by decide) 721 rfl ?_
          exact h0 _ _ _
      refine zk_tableOut dL_law_32 722 (by have e0 : w1.toInt ≠ 0 := fun z => h32_0 (Int32.toInt_inj.mp z); have e1 : w1.toInt ≠ 1 := fun z => h32_1 (Int32.toInt_inj.mp z); have e2 : w1.toInt ≠ 2 := fun z => h32_2 (Int32.toInt_inj.mp z); have e3 : w1.toInt ≠ 3 := fun z => h32_3 (Int32.toInt_inj.mp z); have e4 : w1.toInt ≠ 4 := fun z => h32_4 (Int32.toInt_inj.mp z); have e5 : w1.toInt ≠ 5 := fun z => h32_5 (Int32.toInt_inj.mp z); have e6 : w1.toInt ≠ 6 := fun z => h32_6 (Int32.toInt_inj.mp z); have e7 : w1.toInt ≠ 7 := fun z => h32_7 (Int32.toInt_inj.mp z); have e8 : w1.toInt ≠ 8 := fun z => h32_8 (Int32.toInt_inj.mp z); have e9 : w1.toInt ≠ 9 := fun z => h32_9 (Int32.toInt_inj.mp z); have e10 : w1.toInt ≠ 10 := fun z => h32_10 (Int32.toInt_inj.mp z); have e11 : w1.toInt ≠ 11 := fun z => h32_11 (Int32.toInt_inj.mp z); have e12 : w1.toInt ≠ 12 := fun z => h32_12 (Int32.toInt_inj.mp z); have e13 : w1.toInt ≠ 13 := fun z => h32_13 (Int32.toInt_inj.mp z); have e14 : w1.toInt ≠ 14 := fun z => h32_14 (Int32.toInt_inj.mp z); have e15 : w1.toInt ≠ 15 := fun z => h32_15 (Int32.toInt_inj.mp z); have e16 : w1.toInt ≠ 16 := fun z => h32_16 (Int32.toInt_inj.mp z); have e17 : w1.toInt ≠ 17 := fun z => h32_17 (Int32.toInt_inj.mp z); have e18 : w1.toInt ≠ 18 := fun z => h32_18 (Int32.toInt_inj.mp z); have e19 : w1.toInt ≠ 19 := fun z => h32_19 (Int32.toInt_inj.mp z); have e20 : w1.toInt ≠ 20 := fun z => h32_20 (Int32.toInt_inj.mp z); have e21 : w1.toInt ≠ 21 := fun z => h32_21 (Int32.toInt_inj.mp z); omega) (by decide) ?_
      exact J722  k18 hk18 x3 v_state v_history v_program v_forecast u_z u_snaps u_hasSnap u_past u_pastHas u_pastMany u_before u_spare u_text u_typed u_failure u_hasFailed u_isQuiet u_from u_end u_numbers
  refine zk_eqv (w1 := (zk_j [gX9 E ax (v_state, v_history, v_program, v_forecast), gX10 E am (u_z, u_snaps, u_hasSnap, u_past, u_pastHas, u_pastMany, u_before, u_spare, u_text, u_typed, u_failure, u_hasFailed, u_isQuiet, u_from, u_end, u_numbers)])) (lv1 := [(2, .ref am.1), (1, .ref ax.1), (0, .ref b)]) (st1 := []) (o1 := f_L_law lng xs v_state v_history v_program v_forecast u_z u_snaps u_hasSnap u_past u_pastHas u_pastMany u_before u_spare u_text u_typed u_failure u_hasFailed u_isQuiet u_from u_end u_numbers) rfl rfl rfl rfl ?_
  unfold f_L_law
  refine zk_iconst 0 dL_law_16 (by decide) 17 rfl ?_
  refine zk_istore_n [(3, .int 0), (2, .ref am.1), (1, .ref ax.1), (0, .ref b)] dL_law_17 (by decide) rfl 18 rfl ?_
  refine zk_lv [3, 2, 1, 0] rfl ?_
  exact J18    zk_N 0 v_state v_history v_program v_forecast u_z u_snaps u_hasSnap u_past u_pastHas u_pastMany u_before u_spare u_text u_typed u_failure u_hasFailed u_isQuiet u_from u_end u_numbers
