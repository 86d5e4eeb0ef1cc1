/-! the law: its own walk, and its function -/

def f_L_law_192 (k24 : Int32 × VX6 × VX2 × VX1 × VX6 × VX2 × (Nat → Int32) → Option (Int32)) (x4 : Int32) (v_state : VX6) (v_history : VX2) (v_forecast : VX1) (u_state : VX6) (u_history : VX2) (w_row : (Nat → Int32)) : Option (Int32) := k24 ((x4 + 1), v_state, v_history, v_forecast, u_state, u_history, w_row)
def f_L_law_131 (v_program : VX4) (u_program : VX4) (k24 : Int32 × VX6 × VX2 × VX1 × VX6 × VX2 × (Nat → Int32) → Option (Int32)) (s131_2 : Int32) (s131_3 : Int32) (s131_4 : Int32) (x4 : Int32) (x6 : Int32) (v_state : VX6) (v_history : VX2) (v_forecast : VX1) (u_state : VX6) (u_history : VX2) (w_row : (Nat → Int32)) : Option (Int32) := (f_L_low s131_3 s131_4).bind fun r131 => (f_L_pass (s131_2 + r131) v_state v_history v_program v_forecast u_state u_history u_program w_row).bind fun r136 => if r136.1 = 0 then some 0 else (f_L_areAlike r136.2.1 r136.2.2.1 v_program r136.2.2.2.2.1 r136.2.2.2.2.2.1 u_program).bind fun r144 => if r144 = 0 then some 0 else (f_L_areNext r136.2.2.2.2.1 r136.2.2.2.2.2.1 u_program).bind fun r151 => if r151 = 0 then some 0 else (f_L_low (x6 >>> (16 &&& 31)) 3).bind fun r165 => if r165 = 0 then (f_L_low (x6 >>> (18 &&& 31)) 40).bind fun r180 => (f_L_leastRoom (1 + r180) r136.2.1 r136.2.2.1 v_program r136.2.2.2.1).bind fun r184 => if r184.1 = 0 then some 0 else f_L_law_192 k24 x4 r184.2.1 r184.2.2.1 r184.2.2.2 r136.2.2.2.2.1 r136.2.2.2.2.2.1 r136.2.2.2.2.2.2 else f_L_law_192 k24 x4 r136.2.1 r136.2.2.1 r136.2.2.2.1 r136.2.2.2.2.1 r136.2.2.2.2.2.1 r136.2.2.2.2.2.2
def F_L_law_52 (lng : Nat) (xs : (Nat → Int32)) (v_program : VX4) (u_program : VX4) (x4 : Int32) (x5 : Int32) (v_forecast : VX1) (w_row : (Nat → Int32)) (k24 : Int32 × VX6 × VX2 × VX1 × VX6 × VX2 × (Nat → Int32) → Option (Int32)) (k52 : Int32 × VX6 × VX2 × VX6 × VX2 → Option (Int32)) : Int32 × VX6 × VX2 × VX6 × VX2 → Option (Int32) := fun s => match s with
  | (x6, v_state, v_history, u_state, u_history) => if x5 ≤ x6 then (f_L_cell (50 + x4) lng xs).bind fun r95 => (f_L_areNext v_state v_history v_program).bind fun r101 => if r101 = 0 then some 0 else (f_L_low (r95 >>> (10 &&& 31)) 2).bind fun r118 => if r118 = 0 then f_L_law_131 v_program u_program k24 1 r95 10 x4 r95 v_state v_history v_forecast u_state u_history w_row else f_L_law_131 v_program u_program k24 1 r95 70 x4 r95 v_state v_history v_forecast u_state u_history w_row else (f_L_cell (((6 * x4) + x6) + 1) lng xs).bind fun r72 => (f_L_change r72 v_state v_history v_program u_state u_history).bind fun r75 => if r75.1 = 0 then some 0 else k52 ((x6 + 1), r75.2.1, r75.2.2.1, r75.2.2.2.1, r75.2.2.2.2)
def F_L_law_24 (lng : Nat) (xs : (Nat → Int32)) (v_program : VX4) (u_program : VX4) (k24 : Int32 × VX6 × VX2 × VX1 × VX6 × VX2 × (Nat → Int32) → Option (Int32)) : Int32 × VX6 × VX2 × VX1 × VX6 × VX2 × (Nat → Int32) → Option (Int32) := fun s => match s with
  | (x4, v_state, v_history, v_forecast, u_state, u_history, w_row) => if 6 ≤ x4 then (f_L_areAlike v_state v_history v_program u_state u_history u_program).bind fun r200 => some r200 else (f_L_cell (40 + x4) lng xs).bind fun r38 => (f_L_low r38 7).bind fun r43 => zk_let (1 + r43) fun x5_1 => zk_fx (F_L_law_52 lng xs v_program u_program x4 x5_1 v_forecast w_row k24) zk_N (0, v_state, v_history, u_state, u_history)
def f_L_law (lng : Nat) (xs : (Nat → Int32)) (v_state : VX6) (v_history : VX2) (v_program : VX4) (v_forecast : VX1) (u_state : VX6) (u_history : VX2) (u_program : VX4) (w_row : (Nat → Int32)) : Option (Int32) := zk_fx (F_L_law_24 lng xs v_program u_program ) zk_N (0, v_state, v_history, v_forecast, u_state, u_history, w_row)
set_option maxRecDepth 100000 in
set_option maxHeartbeats 8000000 in
theorem c_law (E : zk_Env) (l : Launch) (X : zk_X) (Q : Int32 → State → Prop) (h1 : ∀ w lv r, zk_G E l X cL_law 7 (some .boolean) yL_law.cls wsL_law room_1 545 20378 Q w lv 203 [.int r] (some r)) (h0 : ∀ w lv pc, zk_G E l X cL_law 7 (some .boolean) yL_law.cls wsL_law room_1 545 20378 Q w lv pc [.int 0] (some 0)) (ax : aX9) (vx : VX9) (ay : aX9) (vy : VX9) (aw : aA) (vw : VA) : zk_G E l X cL_law 7 (some .boolean) yL_law.cls wsL_law room_1 545 20378 Q (zk_j [gX9 E ax vx, gX9 E ay vy, gA E aw vw]) [(3, .ref aw), (2, .ref ay.1), (1, .ref ax.1), (0, .ref E.2.2.1)] 21 [] (f_L_law E.2.2.2.1 E.2.2.2.2 vx.1 vx.2.1 vx.2.2.1 vx.2.2.2 vy.1 vy.2.1 vy.2.2.1 vw) := by
  obtain ⟨v_state, v_history, v_program, v_forecast⟩ := vx
  obtain ⟨u_state, u_history, u_program, u_forecast⟩ := vy
  obtain ⟨w_row, rfl⟩ : ∃ z, z = vw := ⟨_, rfl⟩
  have J192 : ∀ (k24 : Int32 × VX6 × VX2 × VX1 × VX6 × VX2 × (Nat → Int32) → Option (Int32)) (hk24 : ∀ s : Int32 × VX6 × VX2 × VX1 × VX6 × VX2 × (Nat → Int32), zk_G E l X cL_law 7 (some .boolean) yL_law.cls wsL_law room_1 545 20378 Q (zk_j [gX9 E ax (s.2.1, s.2.2.1, v_program, s.2.2.2.1), gX9 E ay (s.2.2.2.2.1, s.2.2.2.2.2.1, u_program, u_forecast), gA E aw s.2.2.2.2.2.2]) [(0, .ref E.2.2.1), (1, .ref ax.1), (2, .ref ay.1), (3, .ref aw), (4, .int s.1)] 24 [] (k24 s)) (x4 : Int32) (v_state : VX6) (v_history : VX2) (v_forecast : VX1) (u_state : VX6) (u_history : VX2) (w_row : (Nat → Int32)), zk_G E l X cL_law 7 (some .boolean) yL_law.cls wsL_law room_1 545 20378 Q (zk_j [gX9 E ax (v_state, v_history, v_program, v_forecast), gX9 E ay (u_state, u_history, u_program, u_forecast), gA E aw w_row]) [(0, .ref E.2.2.1), (1, .ref ax.1), (2, .ref ay.1), (3, .ref aw), (4, .int x4)] 192 [] (f_L_law_192 k24 x4 v_state v_history v_forecast u_state u_history w_row) := by
    intro k24 hk24 x4 v_state v_history v_forecast u_state u_history w_row
    unfold f_L_law_192
    refine zk_iinc (x4 + 1) [(4, .int (x4 + 1)), (0, .ref E.2.2.1), (1, .ref ax.1), (2, .ref ay.1), (3, .ref aw)] dL_law_192 4 rfl rfl (by decide) rfl 195 rfl ?_
    refine zk_goto dL_law_195 24 (by decide) ?_
    refine zk_lv [1, 2, 3, 4, 0] rfl ?_
    exact hk24 ((x4 + 1), v_state, v_history, v_forecast, u_state, u_history, w_row)
  have J131 : ∀ (k24 : Int32 × VX6 × VX2 × VX1 × VX6 × VX2 × (Nat → Int32) → Option (Int32)) (hk24 : ∀ s : Int32 × VX6 × VX2 × VX1 × VX6 × VX2 × (Nat → Int32), zk_G E l X cL_law 7 (some .boolean) yL_law.cls wsL_law room_1 545 20378 Q (zk_j [gX9 E ax (s.2.1, s.2.2.1, v_program, s.2.2.2.1), gX9 E ay (s.2.2.2.2.1, s.2.2.2.2.2.1, u_program, u_forecast), gA E aw s.2.2.2.2.2.2]) [(0, .ref E.2.2.1), (1, .ref ax.1), (2, .ref ay.1), (3, .ref aw), (4, .int s.1)] 24 [] (k24 s)) (s131_2 : Int32) (s131_3 : Int32) (s131_4 : Int32) (x4 : Int32) (x6 : Int32) (v_state : VX6) (v_history : VX2) (v_forecast : VX1) (u_state : VX6) (u_history : VX2) (w_row : (Nat → Int32)), zk_G E l X cL_law 7 (some .boolean) yL_law.cls wsL_law room_1 545 20378 Q (zk_j [gX9 E ax (v_state, v_history, v_program, v_forecast), gX9 E ay (u_state, u_history, u_program, u_forecast), gA E aw w_row]) [(0, .ref E.2.2.1), (1, .ref ax.1), (2, .ref ay.1), (3, .ref aw), (4, .int x4), (6, .int x6)] 131 [.int s131_4, .int s131_3, .int s131_2, .ref ay.1, .ref ax.1] (f_L_law_131 v_program u_program k24 s131_2 s131_3 s131_4 x4 x6 v_state v_history v_forecast u_state u_history w_row) := by
    intro k24 hk24 s131_2 s131_3 s131_4 x4 x6 v_state v_history v_forecast u_state u_history w_row
    unfold f_L_law_131
    refine zk_callS (st := [.int s131_2, .ref ay.1, .ref ax.1]) (c_L_low E l s131_3 s131_4) dL_law_131 2 gL_law_L_low rfl rfl rfl cd_L_low ⟨Nat.le_of_ble_eq_true rfl, Nat.le_of_ble_eq_true rfl⟩ ⟨Nat.le_of_ble_eq_true rfl, Nat.le_of_ble_eq_true rfl⟩ _ (fun r131 => (zk_j [gX9 E ax (v_state, v_history, v_program, v_forecast), gX9 E ay (u_state, u_history, u_program, u_forecast), gA E aw w_row])) zk_pn (fun r131 => (List.Perm.refl _)) rfl rfl (Nat.le_of_ble_eq_true rfl) (fun r131 => [.int r131, .int s131_2, .ref ay.1, .ref ax.1]) (fun _ => rfl) 134 rfl (fun r131 => ?_)
    refine zk_iadd dL_law_134 135 rfl ?_
    refine zk_aload_n dL_law_135 3 rfl 136 rfl ?_
    refine zk_callS (st := []) (c_L_pass E l ax (v_state, v_history, v_program, v_forecast) ay (u_state, u_history, u_program, u_forecast) aw w_row (s131_2 + r131)) dL_law_136 4 gL_law_L_pass rfl rfl rfl cd_L_pass ⟨Nat.le_of_ble_eq_true rfl, Nat.le_of_ble_eq_true rfl⟩ ⟨Nat.le_of_ble_eq_true rfl, Nat.le_of_ble_eq_true rfl⟩ _ (fun r136 => (zk_j [gX9 E ax (r136.2.1, r136.2.2.1, v_program, r136.2.2.2.1), gX9 E ay (r136.2.2.2.2.1, r136.2.2.2.2.2.1, u_program, u_forecast), gA E aw r136.2.2.2.2.2.2])) zk_pa (fun r136 => zk_qa) rfl rfl (Nat.le_of_ble_eq_true rfl) (fun r136 => [.int r136.1]) (fun _ => rfl) 139 rfl (fun r136 => ?_)
    refine zk_if_eq dL_law_139 157 (by decide) 142 rfl (fun _ => ?_) (fun _ => ?_)
    · refine zk_iconst 0 dL_law_157 (by decide) 158 rfl ?_
      exact h0 _ _ _
    · refine zk_aload_n dL_law_142 1 rfl 143 rfl ?_
      refine zk_aload_n dL_law_143 2 rfl 144 rfl ?_
      refine zk_callS (st := []) (c_L_areAlike E l ax (r136.2.1, r136.2.2.1, v_program, r136.2.2.2.1) ay (r136.2.2.2.2.1, r136.2.2.2.2.2.1, u_program, u_forecast)) dL_law_144 2 gL_law_L_areAlike rfl rfl rfl cd_L_areAlike ⟨Nat.le_of_ble_eq_true rfl, Nat.le_of_ble_eq_true rfl⟩ ⟨Nat.le_of_ble_eq_true rfl, Nat.le_of_ble_eq_true rfl⟩ _ (fun r144 => (zk_j [gX9 E ax (r136.2.1, r136.2.2.1, v_program, r136.2.2.2.1), gX9 E ay (r136.2.2.2.2.1, r136.2.2.2.2.2.1, u_program, u_forecast), gA E aw r136.2.2.2.2.2.2])) (zk_pp zk_pa (zk_pb (gs := [gX9 E ax (r136.2.1, r136.2.2.1, v_program, r136.2.2.2.1), gX9 E ay (r136.2.2.2.2.1, r136.2.2.2.2.2.1, u_program, u_forecast), gA E aw r136.2.2.2.2.2.2]) (i := 0) (j := 1) rfl rfl (by decide)) zk_pa zk_pa) (fun r144 => (zk_qq zk_qa (zk_qb (gs := [gX9 E ax (r136.2.1, r136.2.2.1, v_program, r136.2.2.2.1), gX9 E ay (r136.2.2.2.2.1, r136.2.2.2.2.2.1, u_program, u_forecast), gA E aw r136.2.2.2.2.2.2]) (i := 0) (j := 1) (g' := gX9 E ax (r136.2.1, r136.2.2.1, v_program, r136.2.2.2.1)) (h' := gX9 E ay (r136.2.2.2.2.1, r136.2.2.2.2.2.1, u_program, u_forecast)) rfl rfl (by decide) rfl) zk_qa zk_qa)) rfl rfl (Nat.le_of_ble_eq_true rfl) (fun r144 => [.int r144]) (fun _ => rfl) 147 rfl (fun r144 => ?_)
      refine zk_if_eq dL_law_147 157 (by decide) 150 rfl (fun _ => ?_) (fun _ => ?_)
      · refine zk_iconst 0 dL_law_157 (by decide) 158 rfl ?_
        exact h0 _ _ _
      · refine zk_aload_n dL_law_150 2 rfl 151 rfl ?_
        refine zk_callS (st := []) (c_L_areNext E l ay (r136.2.2.2.2.1, r136.2.2.2.2.2.1, u_program, u_forecast)) dL_law_151 1 gL_law_L_areNext rfl rfl rfl cd_L_areNext ⟨Nat.le_of_ble_eq_true rfl, Nat.le_of_ble_eq_true rfl⟩ ⟨Nat.le_of_ble_eq_true rfl, Nat.le_of_ble_eq_true rfl⟩ _ (fun r151 => (zk_j [gX9 E ax (r136.2.1, r136.2.2.1, v_program, r136.2.2.2.1), gX9 E ay (r136.2.2.2.2.1, r136.2.2.2.2.2.1, u_program, u_forecast), gA E aw r136.2.2.2.2.2.2])) (zk_p1 (gs := [gX9 E ax (r136.2.1, r136.2.2.1, v_program, r136.2.2.2.1), gX9 E ay (r136.2.2.2.2.1, r136.2.2.2.2.2.1, u_program, u_forecast), gA E aw r136.2.2.2.2.2.2]) (i := 1) rfl) (fun r151 => (zk_q1 (gs := [gX9 E ax (r136.2.1, r136.2.2.1, v_program, r136.2.2.2.1), gX9 E ay (r136.2.2.2.2.1, r136.2.2.2.2.2.1, u_program, u_forecast), gA E aw r136.2.2.2.2.2.2]) (i := 1) rfl rfl)) rfl rfl (Nat.le_of_ble_eq_true rfl) (fun r151 => [.int r151]) (fun _ => rfl) 154 rfl (fun r151 => ?_)
        refine zk_if_ne dL_law_154 159 (by decide) 157 rfl (fun _ => ?_) (fun _ => ?_)
        · refine zk_iconst 0 dL_law_157 (by decide) 158 rfl ?_
          exact h0 _ _ _
        · refine zk_iload dL_law_159 5 rfl 161 rfl ?_
          refine zk_bipush 16 dL_law_161 (by decide) 163 rfl ?_
          refine zk_ishr dL_law_163 164 rfl ?_
          refine zk_iconst 3 dL_law_164 (by decide) 165 rfl ?_
          refine zk_callS (st := []) (c_L_low E l (x6 >>> (16 &&& 31)) 3) dL_law_165 2 gL_law_L_low rfl rfl rfl cd_L_low ⟨Nat.le_of_ble_eq_true rfl, Nat.le_of_ble_eq_true rfl⟩ ⟨Nat.le_of_ble_eq_true rfl, Nat.le_of_ble_eq_true rfl⟩ _ (fun r165 => (zk_j [gX9 E ax (r136.2.1, r136.2.2.1, v_program, r136.2.2.2.1), gX9 E ay (r136.2.2.2.2.1, r136.2.2.2.2.2.1, u_program, u_forecast), gA E aw r136.2.2.2.2.2.2])) zk_pn (fun r165 => (List.Perm.refl _)) rfl rfl (Nat.le_of_ble_eq_true rfl) (fun r165 => [.int r165]) (fun _ => rfl) 168 rfl (fun r165 => ?_)
          refine zk_if_ne dL_law_168 192 (by decide) 171 rfl (fun _ => ?_) (fun _ => ?_)
          · refine zk_aload_n dL_law_171 1 rfl 172 rfl ?_
            refine zk_iconst 1 dL_law_172 (by decide) 173 rfl ?_
            refine zk_iload dL_law_173 5 rfl 175 rfl ?_
            refine zk_bipush 18 dL_law_175 (by decide) 177 rfl ?_
            refine zk_ishr dL_law_177 178 rfl ?_
            refine zk_bipush 40 dL_law_178 (by decide) 180 rfl ?_
            refine zk_callS (st := [.int 1, .ref ax.1]) (c_L_low E l (x6 >>> (18 &&& 31)) 40) dL_law_180 2 gL_law_L_low rfl rfl rfl cd_L_low ⟨Nat.le_of_ble_eq_true rfl, Nat.le_of_ble_eq_true rfl⟩ ⟨Nat.le_of_ble_eq_true rfl, Nat.le_of_ble_eq_true rfl⟩ _ (fun r180 => (zk_j [gX9 E ax (r136.2.1, r136.2.2.1, v_program, r136.2.2.2.1), gX9 E ay (r136.2.2.2.2.1, r136.2.2.2.2.2.1, u_program, u_forecast), gA E aw r136.2.2.2.2.2.2])) zk_pn (fun r180 => (List.Perm.refl _)) rfl rfl (Nat.le_of_ble_eq_true rfl) (fun r180 => [.int r180, .int 1, .ref ax.1]) (fun _ => rfl) 183 rfl (fun r180 => ?_)
            refine zk_iadd dL_law_183 184 rfl ?_
            refine zk_callS (st := []) (c_L_leastRoom E l ax (r136.2.1, r136.2.2.1, v_program, r136.2.2.2.1) (1 + r180)) dL_law_184 2 gL_law_L_leastRoom rfl rfl rfl cd_L_leastRoom ⟨Nat.le_of_ble_eq_true rfl, Nat.le_of_ble_eq_true rfl⟩ ⟨Nat.le_of_ble_eq_true rfl, Nat.le_of_ble_eq_true rfl⟩ _ (fun r184 => (zk_j [gX9 E ax (r184.2.1, r184.2.2.1, v_program, r184.2.2.2), gX9 E ay (r136.2.2.2.2.1, r136.2.2.2.2.2.1, u_program, u_forecast), gA E aw r136.2.2.2.2.2.2])) (zk_p1 (gs := [gX9 E ax (r136.2.1, r136.2.2.1, v_program, r136.2.2.2.1), gX9 E ay (r136.2.2.2.2.1, r136.2.2.2.2.2.1, u_program, u_forecast), gA E aw r136.2.2.2.2.2.2]) (i := 0) rfl) (fun r184 => (zk_q1 (gs := [gX9 E ax (r136.2.1, r136.2.2.1, v_program, r136.2.2.2.1), gX9 E ay (r136.2.2.2.2.1, r136.2.2.2.2.2.1, u_program, u_forecast), gA E aw r136.2.2.2.2.2.2]) (i := 0) rfl rfl)) rfl rfl (Nat.le_of_ble_eq_true rfl) (fun r184 => [.int r184.1]) (fun _ => rfl) 187 rfl (fun r184 => ?_)
            refine zk_if_ne dL_law_187 192 (by decide) 190 rfl (fun _ => ?_) (fun _ => ?_)
            · refine zk_iconst 0 dL_law_190 (by decide) 191 rfl ?_
              exact h0 _ _ _
            · refine zk_lv [0, 1, 2, 3, 4] rfl ?_
              exact J192  k24 hk24 x4 r184.2.1 r184.2.2.1 r184.2.2.2 r136.2.2.2.2.1 r136.2.2.2.2.2.1 r136.2.2.2.2.2.2
          · refine zk_lv [0, 1, 2, 3, 4] rfl ?_
            exact J192  k24 hk24 x4 r136.2.1 r136.2.2.1 r136.2.2.2.1 r136.2.2.2.2.1 r136.2.2.2.2.2.1 r136.2.2.2.2.2.2
  have J52 : ∀ (k24 : Int32 × VX6 × VX2 × VX1 × VX6 × VX2 × (Nat → Int32) → Option (Int32)) (hk24 : ∀ s : Int32 × VX6 × VX2 × VX1 × VX6 × VX2 × (Nat → Int32), zk_G E l X cL_law 7 (some .boolean) yL_law.cls wsL_law room_1 545 20378 Q (zk_j [gX9 E ax (s.2.1, s.2.2.1, v_program, s.2.2.2.1), gX9 E ay (s.2.2.2.2.1, s.2.2.2.2.2.1, u_program, u_forecast), gA E aw s.2.2.2.2.2.2]) [(0, .ref E.2.2.1), (1, .ref ax.1), (2, .ref ay.1), (3, .ref aw), (4, .int s.1)] 24 [] (k24 s)) (x4 : Int32) (x5 : Int32) (v_forecast : VX1) (w_row : (Nat → Int32)) (n : Nat) (x6 : Int32) (v_state : VX6) (v_history : VX2) (u_state : VX6) (u_history : VX2), zk_G E l X cL_law 7 (some .boolean) yL_law.cls wsL_law room_1 545 20378 Q (zk_j [gX9 E ax (v_state, v_history, v_program, v_forecast), gX9 E ay (u_state, u_history, u_program, u_forecast), gA E aw w_row]) [(0, .ref E.2.2.1), (1, .ref ax.1), (2, .ref ay.1), (3, .ref aw), (4, .int x4), (5, .int x5), (6, .int x6)] 52 [] (zk_fx (F_L_law_52 E.2.2.2.1 E.2.2.2.2 v_program u_program x4 x5 v_forecast w_row k24) n (x6, v_state, v_history, u_state, u_history)) := by
    intro k24 hk24 x4 x5 v_forecast w_row n x6 v_state v_history u_state u_history
    refine zk_loop (S := Int32 × VX6 × VX2 × VX6 × VX2) (F := F_L_law_52 E.2.2.2.1 E.2.2.2.2 v_program u_program x4 x5 v_forecast w_row k24) (wS := fun s => (zk_j [gX9 E ax (s.2.1, s.2.2.1, v_program, v_forecast), gX9 E ay (s.2.2.2.1, s.2.2.2.2, u_program, u_forecast), gA E aw w_row])) (lS := fun s => [(0, .ref E.2.2.1), (1, .ref ax.1), (2, .ref ay.1), (3, .ref aw), (4, .int x4), (5, .int x5), (6, .int s.1)]) (sS := fun _ => []) (fun k52 hk52 s => ?_) n (x6, v_state, v_history, u_state, u_history)
    obtain ⟨x6, v_state, v_history, u_state, u_history⟩ := s
    unfold F_L_law_52
    try dsimp only
    refine zk_iload dL_law_52 6 rfl 54 rfl ?_
    refine zk_iload dL_law_54 5 rfl 56 rfl ?_
    refine zk_icmp_ge dL_law_56 89 (by decide) 59 rfl (fun _ => ?_) (fun _ => ?_)
    · refine zk_aload_n dL_law_89 0 rfl 90 rfl ?_
      refine zk_bipush 50 dL_law_90 (by decide) 92 rfl ?_
      refine zk_iload dL_law_92 4 rfl 94 rfl ?_
      refine zk_iadd dL_law_94 95 rfl ?_
      refine zk_callS (st := []) (c_L_cell E l (50 + x4)) dL_law_95 2 gL_law_L_cell rfl rfl rfl cd_L_cell ⟨Nat.le_of_ble_eq_true rfl, Nat.le_of_ble_eq_true rfl⟩ ⟨Nat.le_of_ble_eq_true rfl, Nat.le_of_ble_eq_true rfl⟩ _ (fun r95 => (zk_j [gX9 E ax (v_state, v_history, v_program, v_forecast), gX9 E ay (u_state, u_history, u_program, u_forecast), gA E aw w_row])) zk_pn (fun r95 => (List.Perm.refl _)) rfl rfl (Nat.le_of_ble_eq_true rfl) (fun r95 => [.int r95]) (fun _ => rfl) 98 rfl (fun r95 => ?_)
      refine zk_istore [(6, .int r95), (0, .ref E.2.2.1), (1, .ref ax.1), (2, .ref ay.1), (3, .ref aw), (4, .int x4), (5, .int x5)] dL_law_98 (by decide) rfl 100 rfl ?_
      refine zk_aload_n dL_law_100 2 rfl 101 rfl ?_
      refine zk_callS (st := []) (c_L_areNext E l ax (v_state, v_history, v_program, v_forecast)) dL_law_101 1 gL_law_L_areNext rfl rfl rfl cd_L_areNext ⟨Nat.le_of_ble_eq_true rfl, Nat.le_of_ble_eq_true rfl⟩ ⟨Nat.le_of_ble_eq_true rfl, Nat.le_of_ble_eq_true rfl⟩ _ (fun r101 => (zk_j [gX9 E ax (v_state, v_history, v_program, v_forecast), gX9 E ay (u_state, u_history, u_program, u_forecast), gA E aw w_row])) (zk_p1 (gs := [gX9 E ax (v_state, v_history, v_program, v_forecast), gX9 E ay (u_state, u_history, u_program, u_forecast), gA E aw w_row]) (i := 0) rfl) (fun r101 => (zk_q1 (gs := [gX9 E ax (v_state, v_history, v_program, v_forecast), gX9 E ay (u_state, u_history, u_program, u_forecast), gA E aw w_row]) (i := 0) rfl rfl)) rfl rfl (Nat.le_of_ble_eq_true rfl) (fun r101 => [.int r101]) (fun _ => rfl) 104 rfl (fun r101 => ?_)
      refine zk_if_eq dL_law_104 157 (by decide) 107 rfl (fun _ => ?_) (fun _ => ?_)
      · refine zk_iconst 0 dL_law_157 (by decide) 158 rfl ?_
        exact h0 _ _ _
      · refine zk_aload_n dL_law_107 2 rfl 108 rfl ?_
        refine zk_aload_n dL_law_108 3 rfl 109 rfl ?_
        refine zk_iconst 1 dL_law_109 (by decide) 110 rfl ?_
        refine zk_iload dL_law_110 0 rfl 112 rfl ?_
        refine zk_iload dL_law_112 0 rfl 114 rfl ?_
        refine zk_bipush 10 dL_law_114 (by decide) 116 rfl ?_
        refine zk_ishr dL_law_116 117 rfl ?_
        refine zk_iconst 2 dL_law_117 (by decide) 118 rfl ?_
        refine zk_callS (st := [.int r95, .int 1, .ref ay.1, .ref ax.1]) (c_L_low E l (r95 >>> (10 &&& 31)) 2) dL_law_118 2 gL_law_L_low rfl rfl rfl cd_L_low ⟨Nat.le_of_ble_eq_true rfl, Nat.le_of_ble_eq_true rfl⟩ ⟨Nat.le_of_ble_eq_true rfl, Nat.le_of_ble_eq_true rfl⟩ _ (fun r118 => (zk_j [gX9 E ax (v_state, v_history, v_program, v_forecast), gX9 E ay (u_state, u_history, u_program, u_forecast), gA E aw w_row])) zk_pn (fun r118 => (List.Perm.refl _)) rfl rfl (Nat.le_of_ble_eq_true rfl) (fun r118 => [.int r118, .int r95, .int 1, .ref ay.1, .ref ax.1]) (fun _ => rfl) 121 rfl (fun r118 => ?_)
        refine zk_if_ne dL_law_121 129 (by decide) 124 rfl (fun _ => ?_) (fun _ => ?_)
        · refine zk_bipush 10 dL_law_124 (by decide) 126 rfl ?_
          refine zk_goto dL_law_126 131 (by decide) ?_
          refine zk_lv [1, 2, 3, 4, 5, 0] rfl ?_
          exact J131  k24 hk24 1 r95 10 x4 r95 v_state v_history v_forecast u_state u_history w_row
        · refine zk_bipush 70 dL_law_129 (by decide) 131 rfl ?_
          refine zk_lv [1, 2, 3, 4, 5, 0] rfl ?_
          exact J131  k24 hk24 1 r95 70 x4 r95 v_state v_history v_forecast u_state u_history w_row
    · refine zk_aload_n dL_law_59 1 rfl 60 rfl ?_
      refine zk_aload_n dL_law_60 2 rfl 61 rfl ?_
      refine zk_aload_n dL_law_61 0 rfl 62 rfl ?_
      refine zk_bipush 6 dL_law_62 (by decide) 64 rfl ?_
      refine zk_iload dL_law_64 4 rfl 66 rfl ?_
      refine zk_imul dL_law_66 67 rfl ?_
      refine zk_iload dL_law_67 6 rfl 69 rfl ?_
      refine zk_iadd dL_law_69 70 rfl ?_
      refine zk_iconst 1 dL_law_70 (by decide) 71 rfl ?_
      refine zk_iadd dL_law_71 72 rfl ?_
      refine zk_callS (st := [.ref ay.1, .ref ax.1]) (c_L_cell E l (((6 * x4) + x6) + 1)) dL_law_72 2 gL_law_L_cell rfl rfl rfl cd_L_cell ⟨Nat.le_of_ble_eq_true rfl, Nat.le_of_ble_eq_true rfl⟩ ⟨Nat.le_of_ble_eq_true rfl, Nat.le_of_ble_eq_true rfl⟩ _ (fun r72 => (zk_j [gX9 E ax (v_state, v_history, v_program, v_forecast), gX9 E ay (u_state, u_history, u_program, u_forecast), gA E aw w_row])) zk_pn (fun r72 => (List.Perm.refl _)) rfl rfl (Nat.le_of_ble_eq_true rfl) (fun r72 => [.int r72, .ref ay.1, .ref ax.1]) (fun _ => rfl) 75 rfl (fun r72 => ?_)
      refine zk_callS (st := []) (c_L_change E l ax (v_state, v_history, v_program, v_forecast) ay (u_state, u_history, u_program, u_forecast) r72) dL_law_75 3 gL_law_L_change rfl rfl rfl cd_L_change ⟨Nat.le_of_ble_eq_true rfl, Nat.le_of_ble_eq_true rfl⟩ ⟨Nat.le_of_ble_eq_true rfl, Nat.le_of_ble_eq_true rfl⟩ _ (fun r75 => (zk_j [gX9 E ax (r75.2.1, r75.2.2.1, v_program, v_forecast), gX9 E ay (r75.2.2.2.1, r75.2.2.2.2, u_program, u_forecast), gA E aw w_row])) (zk_pp zk_pa (zk_pb (gs := [gX9 E ax (v_state, v_history, v_program, v_forecast), gX9 E ay (u_state, u_history, u_program, u_forecast), gA E aw w_row]) (i := 0) (j := 1) rfl rfl (by decide)) zk_pa zk_pa) (fun r75 => (zk_qq zk_qa (zk_qb (gs := [gX9 E ax (v_state, v_history, v_program, v_forecast), gX9 E ay (u_state, u_history, u_program, u_forecast), gA E aw w_row]) (i := 0) (j := 1) (g' := gX9 E ax (r75.2.1, r75.2.2.1, v_program, v_forecast)) (h' := gX9 E ay (r75.2.2.2.1, r75.2.2.2.2, u_program, u_forecast)) rfl rfl (by decide) rfl) zk_qa zk_qa)) rfl rfl (Nat.le_of_ble_eq_true rfl) (fun r75 => [.int r75.1]) (fun _ => rfl) 78 rfl (fun r75 => ?_)
      refine zk_if_ne dL_law_78 83 (by decide) 81 rfl (fun _ => ?_) (fun _ => ?_)
      · refine zk_iconst 0 dL_law_81 (by decide) 82 rfl ?_
        exact h0 _ _ _
      · refine zk_iinc (x6 + 1) [(6, .int (x6 + 1)), (0, .ref E.2.2.1), (1, .ref ax.1), (2, .ref ay.1), (3, .ref aw), (4, .int x4), (5, .int x5)] dL_law_83 6 rfl rfl (by decide) rfl 86 rfl ?_
        refine zk_goto dL_law_86 52 (by decide) ?_
        refine zk_lv [1, 2, 3, 4, 5, 6, 0] rfl ?_
        exact hk52 ((x6 + 1), r75.2.1, r75.2.2.1, r75.2.2.2.1, r75.2.2.2.2)
  have J24 : ∀ (n : Nat) (x4 : Int32) (v_state : VX6) (v_history : VX2) (v_forecast : VX1) (u_state : VX6) (u_history : VX2) (w_row : (Nat → Int32)), zk_G E l X cL_law 7 (some .boolean) yL_law.cls wsL_law room_1 545 20378 Q (zk_j [gX9 E ax (v_state, v_history, v_program, v_forecast), gX9 E ay (u_state, u_history, u_program, u_forecast), gA E aw w_row]) [(0, .ref E.2.2.1), (1, .ref ax.1), (2, .ref ay.1), (3, .ref aw), (4, .int x4)] 24 [] (zk_fx (F_L_law_24 E.2.2.2.1 E.2.2.2.2 v_program u_program ) n (x4, v_state, v_history, v_forecast, u_state, u_history, w_row)) := by
    intro n x4 v_state v_history v_forecast u_state u_history w_row
    refine zk_loop (S := Int32 × VX6 × VX2 × VX1 × VX6 × VX2 × (Nat → Int32)) (F := F_L_law_24 E.2.2.2.1 E.2.2.2.2 v_program u_program) (wS := fun s => (zk_j [gX9 E ax (s.2.1, s.2.2.1, v_program, s.2.2.2.1), gX9 E ay (s.2.2.2.2.1, s.2.2.2.2.2.1, u_program, u_forecast), gA E aw s.2.2.2.2.2.2])) (lS := fun s => [(0, .ref E.2.2.1), (1, .ref ax.1), (2, .ref ay.1), (3, .ref aw), (4, .int s.1)]) (sS := fun _ => []) (fun k24 hk24 s => ?_) n (x4, v_state, v_history, v_forecast, u_state, u_history, w_row)
    obtain ⟨x4, v_state, v_history, v_forecast, u_state, u_history, w_row⟩ := s
    unfold F_L_law_24
    try dsimp only
    refine zk_iload dL_law_24 4 rfl 26 rfl ?_
    refine zk_bipush 6 dL_law_26 (by decide) 28 rfl ?_
    refine zk_icmp_ge dL_law_28 198 (by decide) 31 rfl (fun _ => ?_) (fun _ => ?_)
    · refine zk_aload_n dL_law_198 1 rfl 199 rfl ?_
      refine zk_aload_n dL_law_199 2 rfl 200 rfl ?_
      refine zk_callS (st := []) (c_L_areAlike E l ax (v_state, v_history, v_program, v_forecast) ay (u_state, u_history, u_program, u_forecast)) dL_law_200 2 gL_law_L_areAlike rfl rfl rfl cd_L_areAlike ⟨Nat.le_of_ble_eq_true rfl, Nat.le_of_ble_eq_true rfl⟩ ⟨Nat.le_of_ble_eq_true rfl, Nat.le_of_ble_eq_true rfl⟩ _ (fun r200 => (zk_j [gX9 E ax (v_state, v_history, v_program, v_forecast), gX9 E ay (u_state, u_history, u_program, u_forecast), gA E aw w_row])) (zk_pp zk_pa (zk_pb (gs := [gX9 E ax (v_state, v_history, v_program, v_forecast), gX9 E ay (u_state, u_history, u_program, u_forecast), gA E aw w_row]) (i := 0) (j := 1) rfl rfl (by decide)) zk_pa zk_pa) (fun r200 => (zk_qq zk_qa (zk_qb (gs := [gX9 E ax (v_state, v_history, v_program, v_forecast), gX9 E ay (u_state, u_history, u_program, u_forecast), gA E aw w_row]) (i := 0) (j := 1) (g' := gX9 E ax (v_state, v_history, v_program, v_forecast)) (h' := gX9 E ay (u_state, u_history, u_program, u_forecast)) rfl rfl (by decide) rfl) zk_qa zk_qa)) rfl rfl (Nat.le_of_ble_eq_true rfl) (fun r200 => [.int r200]) (fun _ => rfl) 203 rfl (fun r200 => ?_)
      exact h1 _ _ _
    · refine zk_iconst 1 dL_law_31 (by decide) 32 rfl ?_
      refine zk_aload_n dL_law_32 0 rfl 33 rfl ?_
      refine zk_bipush 40 dL_law_33 (by decide) 35 rfl ?_
      refine zk_iload dL_law_35 4 rfl 37 rfl ?_
      refine zk_iadd dL_law_37 38 rfl ?_
      refine zk_callS (st := [.int 1]) (c_L_cell E l (40 + x4)) dL_law_38 2 gL_law_L_cell rfl rfl rfl cd_L_cell ⟨Nat.le_of_ble_eq_true rfl, Nat.le_of_ble_eq_true rfl⟩ ⟨Nat.le_of_ble_eq_true rfl, Nat.le_of_ble_eq_true rfl⟩ _ (fun r38 => (zk_j [gX9 E ax (v_state, v_history, v_program, v_forecast), gX9 E ay (u_state, u_history, u_program, u_forecast), gA E aw w_row])) zk_pn (fun r38 => (List.Perm.refl _)) rfl rfl (Nat.le_of_ble_eq_true rfl) (fun r38 => [.int r38, .int 1]) (fun _ => rfl) 41 rfl (fun r38 => ?_)
      refine zk_bipush 7 dL_law_41 (by decide) 43 rfl ?_
      refine zk_callS (st := [.int 1]) (c_L_low E l r38 7) dL_law_43 2 gL_law_L_low rfl rfl rfl cd_L_low ⟨Nat.le_of_ble_eq_true rfl, Nat.le_of_ble_eq_true rfl⟩ ⟨Nat.le_of_ble_eq_true rfl, Nat.le_of_ble_eq_true rfl⟩ _ (fun r43 => (zk_j [gX9 E ax (v_state, v_history, v_program, v_forecast), gX9 E ay (u_state, u_history, u_program, u_forecast), gA E aw w_row])) zk_pn (fun r43 => (List.Perm.refl _)) rfl rfl (Nat.le_of_ble_eq_true rfl) (fun r43 => [.int r43, .int 1]) (fun _ => rfl) 46 rfl (fun r43 => ?_)
      refine zk_iadd dL_law_46 47 rfl ?_
      refine zk_nm (fun x5_1 => ?_)
      refine zk_istore [(5, .int x5_1), (0, .ref E.2.2.1), (1, .ref ax.1), (2, .ref ay.1), (3, .ref aw), (4, .int x4)] dL_law_47 (by decide) rfl 49 rfl ?_
      refine zk_iconst 0 dL_law_49 (by decide) 50 rfl ?_
      refine zk_istore [(6, .int 0), (5, .int x5_1), (0, .ref E.2.2.1), (1, .ref ax.1), (2, .ref ay.1), (3, .ref aw), (4, .int x4)] dL_law_50 (by decide) rfl 52 rfl ?_
      refine zk_lv [2, 3, 4, 5, 6, 1, 0] rfl ?_
      exact J52  k24 hk24 x4 x5_1 v_forecast w_row zk_N 0 v_state v_history u_state u_history
  refine zk_eqv (w1 := (zk_j [gX9 E ax (v_state, v_history, v_program, v_forecast), gX9 E ay (u_state, u_history, u_program, u_forecast), gA E aw w_row])) (lv1 := [(3, .ref aw), (2, .ref ay.1), (1, .ref ax.1), (0, .ref E.2.2.1)]) (st1 := []) (o1 := f_L_law E.2.2.2.1 E.2.2.2.2 v_state v_history v_program v_forecast u_state u_history u_program w_row) rfl rfl rfl rfl ?_
  unfold f_L_law
  refine zk_iconst 0 dL_law_21 (by decide) 22 rfl ?_
  refine zk_istore [(4, .int 0), (3, .ref aw), (2, .ref ay.1), (1, .ref ax.1), (0, .ref E.2.2.1)] dL_law_22 (by decide) rfl 24 rfl ?_
  refine zk_lv [4, 3, 2, 1, 0] rfl ?_
  exact J24    zk_N 0 v_state v_history v_forecast u_state u_history w_row
