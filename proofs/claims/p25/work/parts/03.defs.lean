/-! what the objects of each class are: addresses, values, cells in groups -/
abbrev aX5 : Type := Nat × Nat
abbrev VX5 : Type := (Nat → Int32) × Int32
def lX5 (E : zk_Env) (a : aX5) (v : VX5) : List va_W := [[(a.1, .inr (5, [.ref a.2, .int v.2])), (a.2, .inl (zk_ci E, 240, .inl v.1))]]
def gX5 (E : zk_Env) (a : aX5) (v : VX5) : va_W := zk_j (lX5 E a v)
abbrev aX3 : Type := Nat × Nat × Nat × Nat × Nat × Nat
abbrev VX3 : Type := (Nat → Int32) × (Nat → Int32) × (Nat → Int32) × (Nat → Int32) × (Nat → Int32)
def lX3 (E : zk_Env) (a : aX3) (v : VX3) : List va_W := [[(a.1, .inr (3, [.ref a.2.1, .ref a.2.2.1, .ref a.2.2.2.1, .ref a.2.2.2.2.1, .ref a.2.2.2.2.2])), (a.2.1, .inl (zk_ci E, 25, .inl v.1)), (a.2.2.1, .inl (zk_ci E, 25, .inl v.2.1)), (a.2.2.2.1, .inl (zk_ci E, 25, .inl v.2.2.1)), (a.2.2.2.2.1, .inl (zk_ci E, 40, .inl v.2.2.2.1)), (a.2.2.2.2.2, .inl (zk_ci E, 40, .inl v.2.2.2.2))]]
def gX3 (E : zk_Env) (a : aX3) (v : VX3) : va_W := zk_j (lX3 E a v)
abbrev aX0 : Type := Nat × Nat
abbrev VX0 : Type := (Nat → Int32) × Int32
def lX0 (E : zk_Env) (a : aX0) (v : VX0) : List va_W := [[(a.1, .inr (0, [.ref a.2, .int v.2])), (a.2, .inl (zk_ci E, 36, .inl v.1))]]
def gX0 (E : zk_Env) (a : aX0) (v : VX0) : va_W := zk_j (lX0 E a v)
abbrev aX8 : Type := Nat × aX5 × aX3 × aX0
abbrev VX8 : Type := VX5 × VX3 × VX0 × Int32 × Int32 × Int32 × Int32 × Int32 × Int32 × Int32 × Int32 × Int32 × Int32
def lX8 (E : zk_Env) (a : aX8) (v : VX8) : List va_W := [[(a.1, .inr (8, [.ref a.2.1.1, .ref a.2.2.1.1, .ref a.2.2.2.1, .int v.2.2.2.1, .int v.2.2.2.2.1, .int v.2.2.2.2.2.1, .int v.2.2.2.2.2.2.1, .int v.2.2.2.2.2.2.2.1, .int v.2.2.2.2.2.2.2.2.1, .int v.2.2.2.2.2.2.2.2.2.1, .int v.2.2.2.2.2.2.2.2.2.2.1, .int v.2.2.2.2.2.2.2.2.2.2.2.1, .int v.2.2.2.2.2.2.2.2.2.2.2.2]))], gX5 E a.2.1 v.1, gX3 E a.2.2.1 v.2.1, gX0 E a.2.2.2 v.2.2.1]
def gX8 (E : zk_Env) (a : aX8) (v : VX8) : va_W := zk_j (lX8 E a v)
abbrev aX7 : Type := Nat × Nat
abbrev VX7 : Type := (Nat → Int32) × Int32 × Int32 × Int32 × Int32
def lX7 (E : zk_Env) (a : aX7) (v : VX7) : List va_W := [[(a.1, .inr (7, [.ref a.2, .int v.2.1, .int v.2.2.1, .int v.2.2.2.1, .int v.2.2.2.2])), (a.2, .inl (zk_ci E, 120, .inl v.1))]]
def gX7 (E : zk_Env) (a : aX7) (v : VX7) : va_W := zk_j (lX7 E a v)
abbrev aX4 : Type := Nat × aX7 × Nat × Nat
abbrev VX4 : Type := VX7 × (Nat → Int32) × (Nat → Int32) × Int32 × Int32 × Int32 × Int32 × Int32
def lX4 (E : zk_Env) (a : aX4) (v : VX4) : List va_W := [[(a.1, .inr (4, [.ref a.2.1.1, .ref a.2.2.1, .ref a.2.2.2, .int v.2.2.2.1, .int v.2.2.2.2.1, .int v.2.2.2.2.2.1, .int v.2.2.2.2.2.2.1, .int v.2.2.2.2.2.2.2])), (a.2.2.1, .inl (zk_ci E, 3, .inl v.2.1)), (a.2.2.2, .inl (zk_ci E, 4, .inl v.2.2.1))], gX7 E a.2.1 v.1]
def gX4 (E : zk_Env) (a : aX4) (v : VX4) : va_W := zk_j (lX4 E a v)
abbrev aX6 : Type := Nat × aX8 × (Nat × (Nat → aX8)) × Nat
abbrev VX6 : Type := VX8 × (Nat → VX8) × (Nat → Int32)
def hX6 (E : zk_Env) (a : aX6) (v : VX6) : List va_W := [[(a.1, .inr (6, [.ref a.2.1.1, .ref a.2.2.1.1, .ref a.2.2.2])), (a.2.2.1.1, .inl (zk_cw E, 2, .inr (.inr (.inr (.inr (fun i => some (a.2.2.1.2 i).1)))))), (a.2.2.2, .inl (zk_cz E, 2, .inl v.2.2))], gX8 E a.2.1 v.1]
def lX6 (E : zk_Env) (a : aX6) (v : VX6) : List va_W := hX6 E a v ++ zk_fam 2 (fun i => gX8 E (a.2.2.1.2 i) (v.2.1 i))
def gX6 (E : zk_Env) (a : aX6) (v : VX6) : va_W := zk_j (lX6 E a v)
abbrev aX1 : Type := Nat × aX8
abbrev VX1 : Type := VX8
def lX1 (E : zk_Env) (a : aX1) (v : VX1) : List va_W := [[(a.1, .inr (1, [.ref a.2.1]))], gX8 E a.2 v]
def gX1 (E : zk_Env) (a : aX1) (v : VX1) : va_W := zk_j (lX1 E a v)
abbrev aX2 : Type := Nat × (Nat × (Nat → aX6))
abbrev VX2 : Type := (Nat → VX6) × Int32 × Int32
def hX2 (E : zk_Env) (a : aX2) (v : VX2) : List va_W := [[(a.1, .inr (2, [.ref a.2.1, .int v.2.1, .int v.2.2])), (a.2.1, .inl (zk_cs E, 6, .inr (.inr (.inr (.inr (fun i => some (a.2.2 i).1))))))]]
def lX2 (E : zk_Env) (a : aX2) (v : VX2) : List va_W := hX2 E a v ++ zk_fam 6 (fun i => gX6 E (a.2.2 i) (v.1 i))
def gX2 (E : zk_Env) (a : aX2) (v : VX2) : va_W := zk_j (lX2 E a v)
abbrev aX9 : Type := Nat × aX6 × aX2 × aX4 × aX1
abbrev VX9 : Type := VX6 × VX2 × VX4 × VX1
def lX9 (E : zk_Env) (a : aX9) (v : VX9) : List va_W := [[(a.1, .inr (9, [.ref a.2.1.1, .ref a.2.2.1.1, .ref a.2.2.2.1.1, .ref a.2.2.2.2.1]))], gX6 E a.2.1 v.1, gX4 E a.2.2.2.1 v.2.2.1, gX1 E a.2.2.2.2 v.2.2.2, gX2 E a.2.2.1 v.2.1]
def gX9 (E : zk_Env) (a : aX9) (v : VX9) : va_W := zk_j (lX9 E a v)
abbrev aA : Type := Nat
abbrev VA : Type := Nat → Int32
def lA (E : zk_Env) (a : aA) (v : VA) : List va_W := [[(a, .inl (zk_ci E, 40, .inl v))]]
def gA (E : zk_Env) (a : aA) (v : VA) : va_W := zk_j (lA E a v)
