/-! The two halves as one heap. -/
abbrev CS : Type := (((((Nat → Int32) × (Nat × Nat)) × ((Nat × Nat) × (Nat × Nat))) × ((Nat × (Nat × (Nat → Int32))) × (((Nat → Int32) × (Nat → Int32)) × ((Nat → Int32) × Nat)))) × ((((Nat → Int32) × ((Nat → Int32) × Nat)) × (((Nat → Int64) × Nat) × ((Nat → Int32) × Nat))) × ((Nat × (Nat × (Nat → Int64))) × ((Nat × Int32) × (Int32 × Int64)))))
abbrev CS.t (c : CS) : Nat → Int32 := c.1.1.1.1
abbrev CS.L (c : CS) : Nat := c.1.1.1.2.1
abbrev CS.n (c : CS) : Nat := c.1.1.1.2.2
abbrev CS.r (c : CS) : Nat := c.1.1.2.1.1
abbrev CS.u (c : CS) : Nat := c.1.1.2.1.2
abbrev CS.n4 (c : CS) : Nat := c.1.1.2.2.1
abbrev CS.r4 (c : CS) : Nat := c.1.1.2.2.2
abbrev CS.u4 (c : CS) : Nat := c.1.2.1.1
abbrev CS.cnt (c : CS) : Nat := c.1.2.1.2.1
abbrev CS.f6 (c : CS) : Nat → Int32 := c.1.2.1.2.2
abbrev CS.f7 (c : CS) : Nat → Int32 := c.1.2.2.1.1
abbrev CS.f9 (c : CS) : Nat → Int32 := c.1.2.2.1.2
abbrev CS.f10 (c : CS) : Nat → Int32 := c.1.2.2.2.1
abbrev CS.kb (c : CS) : Nat := c.1.2.2.2.2
abbrev CS.f12 (c : CS) : Nat → Int32 := c.2.1.1.1
abbrev CS.f13 (c : CS) : Nat → Int32 := c.2.1.1.2.1
abbrev CS.sn (c : CS) : Nat := c.2.1.1.2.2
abbrev CS.f16 (c : CS) : Nat → Int64 := c.2.1.2.1.1
abbrev CS.oc (c : CS) : Nat := c.2.1.2.1.2
abbrev CS.f17 (c : CS) : Nat → Int32 := c.2.1.2.2.1
abbrev CS.n8 (c : CS) : Nat := c.2.1.2.2.2
abbrev CS.r8 (c : CS) : Nat := c.2.2.1.1
abbrev CS.u8 (c : CS) : Nat := c.2.2.1.2.1
abbrev CS.f20 (c : CS) : Nat → Int64 := c.2.2.1.2.2
abbrev CS.tc (c : CS) : Nat := c.2.2.2.1.1
abbrev CS.fa (c : CS) : Int32 := c.2.2.2.1.2
abbrev CS.fz (c : CS) : Int32 := c.2.2.2.2.1
abbrev CS.sd (c : CS) : Int64 := c.2.2.2.2.2
abbrev CS.zt (c : CS) (y : Nat → Int32) : CS := ((((y, c.1.1.1.2), c.1.1.2), c.1.2), c.2)
abbrev CS.zL (c : CS) (y : Nat) : CS := ((((c.1.1.1.1, (y, c.1.1.1.2.2)), c.1.1.2), c.1.2), c.2)
abbrev CS.zn (c : CS) (y : Nat) : CS := ((((c.1.1.1.1, (c.1.1.1.2.1, y)), c.1.1.2), c.1.2), c.2)
abbrev CS.zr (c : CS) (y : Nat) : CS := (((c.1.1.1, ((y, c.1.1.2.1.2), c.1.1.2.2)), c.1.2), c.2)
abbrev CS.zu (c : CS) (y : Nat) : CS := (((c.1.1.1, ((c.1.1.2.1.1, y), c.1.1.2.2)), c.1.2), c.2)
abbrev CS.zn4 (c : CS) (y : Nat) : CS := (((c.1.1.1, (c.1.1.2.1, (y, c.1.1.2.2.2))), c.1.2), c.2)
abbrev CS.zr4 (c : CS) (y : Nat) : CS := (((c.1.1.1, (c.1.1.2.1, (c.1.1.2.2.1, y))), c.1.2), c.2)
abbrev CS.zu4 (c : CS) (y : Nat) : CS := ((c.1.1, ((y, c.1.2.1.2), c.1.2.2)), c.2)
abbrev CS.zcnt (c : CS) (y : Nat) : CS := ((c.1.1, ((c.1.2.1.1, (y, c.1.2.1.2.2)), c.1.2.2)), c.2)
abbrev CS.zf6 (c : CS) (y : Nat → Int32) : CS := ((c.1.1, ((c.1.2.1.1, (c.1.2.1.2.1, y)), c.1.2.2)), c.2)
abbrev CS.zf7 (c : CS) (y : Nat → Int32) : CS := ((c.1.1, (c.1.2.1, ((y, c.1.2.2.1.2), c.1.2.2.2))), c.2)
abbrev CS.zf9 (c : CS) (y : Nat → Int32) : CS := ((c.1.1, (c.1.2.1, ((c.1.2.2.1.1, y), c.1.2.2.2))), c.2)
abbrev CS.zf10 (c : CS) (y : Nat → Int32) : CS := ((c.1.1, (c.1.2.1, (c.1.2.2.1, (y, c.1.2.2.2.2)))), c.2)
abbrev CS.zkb (c : CS) (y : Nat) : CS := ((c.1.1, (c.1.2.1, (c.1.2.2.1, (c.1.2.2.2.1, y)))), c.2)
abbrev CS.zf12 (c : CS) (y : Nat → Int32) : CS := (c.1, (((y, c.2.1.1.2), c.2.1.2), c.2.2))
abbrev CS.zf13 (c : CS) (y : Nat → Int32) : CS := (c.1, (((c.2.1.1.1, (y, c.2.1.1.2.2)), c.2.1.2), c.2.2))
abbrev CS.zsn (c : CS) (y : Nat) : CS := (c.1, (((c.2.1.1.1, (c.2.1.1.2.1, y)), c.2.1.2), c.2.2))
abbrev CS.zf16 (c : CS) (y : Nat → Int64) : CS := (c.1, ((c.2.1.1, ((y, c.2.1.2.1.2), c.2.1.2.2)), c.2.2))
abbrev CS.zoc (c : CS) (y : Nat) : CS := (c.1, ((c.2.1.1, ((c.2.1.2.1.1, y), c.2.1.2.2)), c.2.2))
abbrev CS.zf17 (c : CS) (y : Nat → Int32) : CS := (c.1, ((c.2.1.1, (c.2.1.2.1, (y, c.2.1.2.2.2))), c.2.2))
abbrev CS.zn8 (c : CS) (y : Nat) : CS := (c.1, ((c.2.1.1, (c.2.1.2.1, (c.2.1.2.2.1, y))), c.2.2))
abbrev CS.zr8 (c : CS) (y : Nat) : CS := (c.1, (c.2.1, ((y, c.2.2.1.2), c.2.2.2)))
abbrev CS.zu8 (c : CS) (y : Nat) : CS := (c.1, (c.2.1, ((c.2.2.1.1, (y, c.2.2.1.2.2)), c.2.2.2)))
abbrev CS.zf20 (c : CS) (y : Nat → Int64) : CS := (c.1, (c.2.1, ((c.2.2.1.1, (c.2.2.1.2.1, y)), c.2.2.2)))
abbrev CS.ztc (c : CS) (y : Nat) : CS := (c.1, (c.2.1, (c.2.2.1, ((y, c.2.2.2.1.2), c.2.2.2.2))))
abbrev CS.zfa (c : CS) (y : Int32) : CS := (c.1, (c.2.1, (c.2.2.1, ((c.2.2.2.1.1, y), c.2.2.2.2))))
abbrev CS.zfz (c : CS) (y : Int32) : CS := (c.1, (c.2.1, (c.2.2.1, (c.2.2.2.1, (y, c.2.2.2.2.2)))))
abbrev CS.zsd (c : CS) (y : Int64) : CS := (c.1, (c.2.1, (c.2.2.1, (c.2.2.2.1, (c.2.2.2.2.1, y)))))
abbrev MS : Type := (((((Nat → Int32) × Nat) × ((Nat → Int32) × ((Nat → Int32) × (Nat → Int32)))) × (((Nat → Int32) × ((Nat → Int32) × Nat)) × (Nat × ((Nat → Int32) × (Nat → Int32))))) × ((((Nat → Int32) × ((Nat → Int32) × Nat)) × (Int64 × ((Nat → Int32) × (Nat → Int32)))) × (((Nat → Int64) × ((Nat → Int32) × Int32)) × ((Nat → Int32) × ((Nat → Int32) × Int32)))))
abbrev MS.t (m : MS) : Nat → Int32 := m.1.1.1.1
abbrev MS.ln (m : MS) : Nat := m.1.1.1.2
abbrev MS.f24 (m : MS) : Nat → Int32 := m.1.1.2.1
abbrev MS.f25 (m : MS) : Nat → Int32 := m.1.1.2.2.1
abbrev MS.f26 (m : MS) : Nat → Int32 := m.1.1.2.2.2
abbrev MS.f27 (m : MS) : Nat → Int32 := m.1.2.1.1
abbrev MS.f28 (m : MS) : Nat → Int32 := m.1.2.1.2.1
abbrev MS.dn (m : MS) : Nat := m.1.2.1.2.2
abbrev MS.nx (m : MS) : Nat := m.1.2.2.1
abbrev MS.f29 (m : MS) : Nat → Int32 := m.1.2.2.2.1
abbrev MS.f30 (m : MS) : Nat → Int32 := m.1.2.2.2.2
abbrev MS.f31 (m : MS) : Nat → Int32 := m.2.1.1.1
abbrev MS.f32 (m : MS) : Nat → Int32 := m.2.1.1.2.1
abbrev MS.sn (m : MS) : Nat := m.2.1.1.2.2
abbrev MS.sd (m : MS) : Int64 := m.2.1.2.1
abbrev MS.f33 (m : MS) : Nat → Int32 := m.2.1.2.2.1
abbrev MS.f34 (m : MS) : Nat → Int32 := m.2.1.2.2.2
abbrev MS.f35 (m : MS) : Nat → Int64 := m.2.2.1.1
abbrev MS.f36 (m : MS) : Nat → Int32 := m.2.2.1.2.1
abbrev MS.mn (m : MS) : Int32 := m.2.2.1.2.2
abbrev MS.f37 (m : MS) : Nat → Int32 := m.2.2.2.1
abbrev MS.f38 (m : MS) : Nat → Int32 := m.2.2.2.2.1
abbrev MS.sz (m : MS) : Int32 := m.2.2.2.2.2
abbrev MS.zt (m : MS) (y : Nat → Int32) : MS := ((((y, m.1.1.1.2), m.1.1.2), m.1.2), m.2)
abbrev MS.zln (m : MS) (y : Nat) : MS := ((((m.1.1.1.1, y), m.1.1.2), m.1.2), m.2)
abbrev MS.zf24 (m : MS) (y : Nat → Int32) : MS := (((m.1.1.1, (y, m.1.1.2.2)), m.1.2), m.2)
abbrev MS.zf25 (m : MS) (y : Nat → Int32) : MS := (((m.1.1.1, (m.1.1.2.1, (y, m.1.1.2.2.2))), m.1.2), m.2)
abbrev MS.zf26 (m : MS) (y : Nat → Int32) : MS := (((m.1.1.1, (m.1.1.2.1, (m.1.1.2.2.1, y))), m.1.2), m.2)
abbrev MS.zf27 (m : MS) (y : Nat → Int32) : MS := ((m.1.1, ((y, m.1.2.1.2), m.1.2.2)), m.2)
abbrev MS.zf28 (m : MS) (y : Nat → Int32) : MS := ((m.1.1, ((m.1.2.1.1, (y, m.1.2.1.2.2)), m.1.2.2)), m.2)
abbrev MS.zdn (m : MS) (y : Nat) : MS := ((m.1.1, ((m.1.2.1.1, (m.1.2.1.2.1, y)), m.1.2.2)), m.2)
abbrev MS.znx (m : MS) (y : Nat) : MS := ((m.1.1, (m.1.2.1, (y, m.1.2.2.2))), m.2)
abbrev MS.zf29 (m : MS) (y : Nat → Int32) : MS := ((m.1.1, (m.1.2.1, (m.1.2.2.1, (y, m.1.2.2.2.2)))), m.2)
abbrev MS.zf30 (m : MS) (y : Nat → Int32) : MS := ((m.1.1, (m.1.2.1, (m.1.2.2.1, (m.1.2.2.2.1, y)))), m.2)
abbrev MS.zf31 (m : MS) (y : Nat → Int32) : MS := (m.1, (((y, m.2.1.1.2), m.2.1.2), m.2.2))
abbrev MS.zf32 (m : MS) (y : Nat → Int32) : MS := (m.1, (((m.2.1.1.1, (y, m.2.1.1.2.2)), m.2.1.2), m.2.2))
abbrev MS.zsn (m : MS) (y : Nat) : MS := (m.1, (((m.2.1.1.1, (m.2.1.1.2.1, y)), m.2.1.2), m.2.2))
abbrev MS.zsd (m : MS) (y : Int64) : MS := (m.1, ((m.2.1.1, (y, m.2.1.2.2)), m.2.2))
abbrev MS.zf33 (m : MS) (y : Nat → Int32) : MS := (m.1, ((m.2.1.1, (m.2.1.2.1, (y, m.2.1.2.2.2))), m.2.2))
abbrev MS.zf34 (m : MS) (y : Nat → Int32) : MS := (m.1, ((m.2.1.1, (m.2.1.2.1, (m.2.1.2.2.1, y))), m.2.2))
abbrev MS.zf35 (m : MS) (y : Nat → Int64) : MS := (m.1, (m.2.1, ((y, m.2.2.1.2), m.2.2.2)))
abbrev MS.zf36 (m : MS) (y : Nat → Int32) : MS := (m.1, (m.2.1, ((m.2.2.1.1, (y, m.2.2.1.2.2)), m.2.2.2)))
abbrev MS.zmn (m : MS) (y : Int32) : MS := (m.1, (m.2.1, ((m.2.2.1.1, (m.2.2.1.2.1, y)), m.2.2.2)))
abbrev MS.zf37 (m : MS) (y : Nat → Int32) : MS := (m.1, (m.2.1, (m.2.2.1, (y, m.2.2.2.2))))
abbrev MS.zf38 (m : MS) (y : Nat → Int32) : MS := (m.1, (m.2.1, (m.2.2.1, (m.2.2.2.1, (y, m.2.2.2.2.2)))))
abbrev MS.zsz (m : MS) (y : Int32) : MS := (m.1, (m.2.1, (m.2.2.1, (m.2.2.2.1, (m.2.2.2.2.1, y)))))
def hp (c : CS) (m : MS) : Hp := [.inr (8, [.ref 1, .ref 3, .ref 4, .ref 5, .ref 8, .ref 11, .ref 14, .ref 19, .ref 21, .long c.sd]), .inr (3, [.ref 2, .int (nI c.L)]), .inl (0, 20, .inl c.t), glE c.n c.r c.u, glE c.n4 c.r4 c.u4, .inr (5, [.ref 6, .ref 7, .int (nI c.cnt)]), .inl (0, 14, .inl c.f6), .inl (0, 14, .inl c.f7), .inr (7, [.ref 9, .ref 10, .int (nI c.kb)]), .inl (0, 2, .inl c.f9), .inl (0, 2, .inl c.f10), .inr (6, [.ref 12, .ref 13, .int (nI c.sn)]), .inl (0, 6, .inl c.f12), .inl (0, 6, .inl c.f13), .inr (4, [.ref 15, .ref 17, .ref 18]), .inr (0, [.ref 16, .int (nI c.oc)]), .inl (1, 128, .inr (.inl c.f16)), .inl (0, 128, .inl c.f17), glE c.n8 c.r8 c.u8, .inr (0, [.ref 20, .int (nI c.tc)]), .inl (1, 128, .inr (.inl c.f20)), .inr (1, [.int c.fa, .int c.fz]), mob (nI m.ln) (nI m.dn) (nI m.nx) (nI m.sn) m.sd m.mn m.sz, .inl (0, 20, .inl m.t), .inl (0, 11, .inl m.f24), .inl (0, 11, .inl m.f25), .inl (0, 11, .inl m.f26), .inl (0, 10, .inl m.f27), .inl (0, 154, .inl m.f28), .inl (0, 22, .inl m.f29), .inl (2, 2, .inl m.f30), .inl (0, 6, .inl m.f31), .inl (0, 6, .inl m.f32), .inl (0, 5, .inl m.f33), .inl (0, 5, .inl m.f34), .inl (1, 128, .inr (.inl m.f35)), .inl (0, 128, .inl m.f36), .inl (0, 120, .inl m.f37), .inl (0, 32, .inl m.f38)]
section HPS
variable {c : CS} {m : MS}
theorem hA0_0 : gA (hp c m) 0 8 0 = some 1 := rfl
theorem hA0_1 : gA (hp c m) 0 8 1 = some 3 := rfl
theorem hA0_2 : gA (hp c m) 0 8 2 = some 4 := rfl
theorem hA0_3 : gA (hp c m) 0 8 3 = some 5 := rfl
theorem hA0_4 : gA (hp c m) 0 8 4 = some 8 := rfl
theorem hA0_5 : gA (hp c m) 0 8 5 = some 11 := rfl
theorem hA0_6 : gA (hp c m) 0 8 6 = some 14 := rfl
theorem hA0_7 : gA (hp c m) 0 8 7 = some 19 := rfl
theorem hA0_8 : gA (hp c m) 0 8 8 = some 21 := rfl
theorem hA1_0 : gA (hp c m) 1 3 0 = some 2 := rfl
theorem hA5_0 : gA (hp c m) 5 5 0 = some 6 := rfl
theorem hA5_1 : gA (hp c m) 5 5 1 = some 7 := rfl
theorem hA8_0 : gA (hp c m) 8 7 0 = some 9 := rfl
theorem hA8_1 : gA (hp c m) 8 7 1 = some 10 := rfl
theorem hA11_0 : gA (hp c m) 11 6 0 = some 12 := rfl
theorem hA11_1 : gA (hp c m) 11 6 1 = some 13 := rfl
theorem hA14_0 : gA (hp c m) 14 4 0 = some 15 := rfl
theorem hA14_1 : gA (hp c m) 14 4 1 = some 17 := rfl
theorem hA14_2 : gA (hp c m) 14 4 2 = some 18 := rfl
theorem hA15_0 : gA (hp c m) 15 0 0 = some 16 := rfl
theorem hA19_0 : gA (hp c m) 19 0 0 = some 20 := rfl
theorem hA22_0 : gA (hp c m) 22 9 0 = some 23 := rfl
theorem hA22_2 : gA (hp c m) 22 9 2 = some 24 := rfl
theorem hA22_3 : gA (hp c m) 22 9 3 = some 25 := rfl
theorem hA22_4 : gA (hp c m) 22 9 4 = some 26 := rfl
theorem hA22_5 : gA (hp c m) 22 9 5 = some 27 := rfl
theorem hA22_6 : gA (hp c m) 22 9 6 = some 28 := rfl
theorem hA22_9 : gA (hp c m) 22 9 9 = some 29 := rfl
theorem hA22_10 : gA (hp c m) 22 9 10 = some 30 := rfl
theorem hA22_11 : gA (hp c m) 22 9 11 = some 31 := rfl
theorem hA22_12 : gA (hp c m) 22 9 12 = some 32 := rfl
theorem hA22_15 : gA (hp c m) 22 9 15 = some 33 := rfl
theorem hA22_16 : gA (hp c m) 22 9 16 = some 34 := rfl
theorem hA22_17 : gA (hp c m) 22 9 17 = some 35 := rfl
theorem hA22_18 : gA (hp c m) 22 9 18 = some 36 := rfl
theorem hA22_20 : gA (hp c m) 22 9 20 = some 37 := rfl
theorem hA22_21 : gA (hp c m) 22 9 21 = some 38 := rfl
theorem hI1_1 : gI (hp c m) 1 3 1 = some (nI c.L) := rfl
theorem hI5_2 : gI (hp c m) 5 5 2 = some (nI c.cnt) := rfl
theorem hI8_2 : gI (hp c m) 8 7 2 = some (nI c.kb) := rfl
theorem hI11_2 : gI (hp c m) 11 6 2 = some (nI c.sn) := rfl
theorem hI15_1 : gI (hp c m) 15 0 1 = some (nI c.oc) := rfl
theorem hI19_1 : gI (hp c m) 19 0 1 = some (nI c.tc) := rfl
theorem hI21_0 : gI (hp c m) 21 1 0 = some (c.fa) := rfl
theorem hI21_1 : gI (hp c m) 21 1 1 = some (c.fz) := rfl
theorem hI22_1 : gI (hp c m) 22 9 1 = some (nI m.ln) := rfl
theorem hI22_7 : gI (hp c m) 22 9 7 = some (nI m.dn) := rfl
theorem hI22_8 : gI (hp c m) 22 9 8 = some (nI m.nx) := rfl
theorem hI22_13 : gI (hp c m) 22 9 13 = some (nI m.sn) := rfl
theorem hI22_19 : gI (hp c m) 22 9 19 = some (m.mn) := rfl
theorem hI22_22 : gI (hp c m) 22 9 22 = some (m.sz) := rfl
theorem hI3_0 : gI (hp c m) 3 2 0 = some (nI c.n) := rfl
theorem hI3_1 : gI (hp c m) 3 2 1 = some (nI c.r) := rfl
theorem hI3_2 : gI (hp c m) 3 2 2 = some (nI c.u) := rfl
theorem hI4_0 : gI (hp c m) 4 2 0 = some (nI c.n4) := rfl
theorem hI4_1 : gI (hp c m) 4 2 1 = some (nI c.r4) := rfl
theorem hI4_2 : gI (hp c m) 4 2 2 = some (nI c.u4) := rfl
theorem hI18_0 : gI (hp c m) 18 2 0 = some (nI c.n8) := rfl
theorem hI18_1 : gI (hp c m) 18 2 1 = some (nI c.r8) := rfl
theorem hI18_2 : gI (hp c m) 18 2 2 = some (nI c.u8) := rfl
theorem hJ0_9 : gJ (hp c m) 0 8 9 = some c.sd := rfl
theorem hJ22_14 : gJ (hp c m) 22 9 14 = some m.sd := rfl
theorem hO0 : isO (hp c m) 0 8 = true := rfl
theorem hO1 : isO (hp c m) 1 3 = true := rfl
theorem hO3 : isO (hp c m) 3 2 = true := rfl
theorem hO4 : isO (hp c m) 4 2 = true := rfl
theorem hO5 : isO (hp c m) 5 5 = true := rfl
theorem hO8 : isO (hp c m) 8 7 = true := rfl
theorem hO11 : isO (hp c m) 11 6 = true := rfl
theorem hO14 : isO (hp c m) 14 4 = true := rfl
theorem hO15 : isO (hp c m) 15 0 = true := rfl
theorem hO18 : isO (hp c m) 18 2 = true := rfl
theorem hO19 : isO (hp c m) 19 0 = true := rfl
theorem hO21 : isO (hp c m) 21 1 = true := rfl
theorem hO22 : isO (hp c m) 22 9 = true := rfl
theorem hg3 : gl (hp c m) 3 c.n c.r c.u := rfl
theorem hg4 : gl (hp c m) 4 c.n4 c.r4 c.u4 := rfl
theorem hg18 : gl (hp c m) 18 c.n8 c.r8 c.u8 := rfl
theorem hc2 : (hp c m)[2]? = some (.inl (0, 20, .inl c.t)) := rfl
theorem hc6 : (hp c m)[6]? = some (.inl (0, 14, .inl c.f6)) := rfl
theorem hc7 : (hp c m)[7]? = some (.inl (0, 14, .inl c.f7)) := rfl
theorem hc9 : (hp c m)[9]? = some (.inl (0, 2, .inl c.f9)) := rfl
theorem hc10 : (hp c m)[10]? = some (.inl (0, 2, .inl c.f10)) := rfl
theorem hc12 : (hp c m)[12]? = some (.inl (0, 6, .inl c.f12)) := rfl
theorem hc13 : (hp c m)[13]? = some (.inl (0, 6, .inl c.f13)) := rfl
theorem hc16 : (hp c m)[16]? = some (.inl (1, 128, .inr (.inl c.f16))) := rfl
theorem hc17 : (hp c m)[17]? = some (.inl (0, 128, .inl c.f17)) := rfl
theorem hc20 : (hp c m)[20]? = some (.inl (1, 128, .inr (.inl c.f20))) := rfl
theorem hc22 : (hp c m)[22]? = some (mob (nI m.ln) (nI m.dn) (nI m.nx) (nI m.sn) m.sd m.mn m.sz) := rfl
theorem hc23 : (hp c m)[23]? = some (.inl (0, 20, .inl m.t)) := rfl
theorem hc24 : (hp c m)[24]? = some (.inl (0, 11, .inl m.f24)) := rfl
theorem hc25 : (hp c m)[25]? = some (.inl (0, 11, .inl m.f25)) := rfl
theorem hc26 : (hp c m)[26]? = some (.inl (0, 11, .inl m.f26)) := rfl
theorem hc27 : (hp c m)[27]? = some (.inl (0, 10, .inl m.f27)) := rfl
theorem hc28 : (hp c m)[28]? = some (.inl (0, 154, .inl m.f28)) := rfl
theorem hc29 : (hp c m)[29]? = some (.inl (0, 22, .inl m.f29)) := rfl
theorem hc30 : (hp c m)[30]? = some (.inl (2, 2, .inl m.f30)) := rfl
theorem hc31 : (hp c m)[31]? = some (.inl (0, 6, .inl m.f31)) := rfl
theorem hc32 : (hp c m)[32]? = some (.inl (0, 6, .inl m.f32)) := rfl
theorem hc33 : (hp c m)[33]? = some (.inl (0, 5, .inl m.f33)) := rfl
theorem hc34 : (hp c m)[34]? = some (.inl (0, 5, .inl m.f34)) := rfl
theorem hc35 : (hp c m)[35]? = some (.inl (1, 128, .inr (.inl m.f35))) := rfl
theorem hc36 : (hp c m)[36]? = some (.inl (0, 128, .inl m.f36)) := rfl
theorem hc37 : (hp c m)[37]? = some (.inl (0, 120, .inl m.f37)) := rfl
theorem hc38 : (hp c m)[38]? = some (.inl (0, 32, .inl m.f38)) := rfl
theorem hr2 {i : Nat} (hi : i < 20) : aI (hp c m) 2 0 (nI i) = some (c.t i) := aI_of hc2 hi (by decide)
theorem hw2 {i : Nat} (hi : i < 20) (x : Int32) : sI (hp c m) 2 0 (nI i) x = some (hp (c.zt (upd c.t i x)) m) := sI_of hc2 hi (by decide)
theorem hr6 {i : Nat} (hi : i < 14) : aI (hp c m) 6 0 (nI i) = some (c.f6 i) := aI_of hc6 hi (by decide)
theorem hw6 {i : Nat} (hi : i < 14) (x : Int32) : sI (hp c m) 6 0 (nI i) x = some (hp (c.zf6 (upd c.f6 i x)) m) := sI_of hc6 hi (by decide)
theorem hr7 {i : Nat} (hi : i < 14) : aI (hp c m) 7 0 (nI i) = some (c.f7 i) := aI_of hc7 hi (by decide)
theorem hw7 {i : Nat} (hi : i < 14) (x : Int32) : sI (hp c m) 7 0 (nI i) x = some (hp (c.zf7 (upd c.f7 i x)) m) := sI_of hc7 hi (by decide)
theorem hr9 {i : Nat} (hi : i < 2) : aI (hp c m) 9 0 (nI i) = some (c.f9 i) := aI_of hc9 hi (by decide)
theorem hw9 {i : Nat} (hi : i < 2) (x : Int32) : sI (hp c m) 9 0 (nI i) x = some (hp (c.zf9 (upd c.f9 i x)) m) := sI_of hc9 hi (by decide)
theorem hr10 {i : Nat} (hi : i < 2) : aI (hp c m) 10 0 (nI i) = some (c.f10 i) := aI_of hc10 hi (by decide)
theorem hw10 {i : Nat} (hi : i < 2) (x : Int32) : sI (hp c m) 10 0 (nI i) x = some (hp (c.zf10 (upd c.f10 i x)) m) := sI_of hc10 hi (by decide)
theorem hr12 {i : Nat} (hi : i < 6) : aI (hp c m) 12 0 (nI i) = some (c.f12 i) := aI_of hc12 hi (by decide)
theorem hw12 {i : Nat} (hi : i < 6) (x : Int32) : sI (hp c m) 12 0 (nI i) x = some (hp (c.zf12 (upd c.f12 i x)) m) := sI_of hc12 hi (by decide)
theorem hr13 {i : Nat} (hi : i < 6) : aI (hp c m) 13 0 (nI i) = some (c.f13 i) := aI_of hc13 hi (by decide)
theorem hw13 {i : Nat} (hi : i < 6) (x : Int32) : sI (hp c m) 13 0 (nI i) x = some (hp (c.zf13 (upd c.f13 i x)) m) := sI_of hc13 hi (by decide)
theorem hr17 {i : Nat} (hi : i < 128) : aI (hp c m) 17 0 (nI i) = some (c.f17 i) := aI_of hc17 hi (by decide)
theorem hw17 {i : Nat} (hi : i < 128) (x : Int32) : sI (hp c m) 17 0 (nI i) x = some (hp (c.zf17 (upd c.f17 i x)) m) := sI_of hc17 hi (by decide)
theorem hr23 {i : Nat} (hi : i < 20) : aI (hp c m) 23 0 (nI i) = some (m.t i) := aI_of hc23 hi (by decide)
theorem hw23 {i : Nat} (hi : i < 20) (x : Int32) : sI (hp c m) 23 0 (nI i) x = some (hp c (m.zt (upd m.t i x))) := sI_of hc23 hi (by decide)
theorem hr24 {i : Nat} (hi : i < 11) : aI (hp c m) 24 0 (nI i) = some (m.f24 i) := aI_of hc24 hi (by decide)
theorem hw24 {i : Nat} (hi : i < 11) (x : Int32) : sI (hp c m) 24 0 (nI i) x = some (hp c (m.zf24 (upd m.f24 i x))) := sI_of hc24 hi (by decide)
theorem hr25 {i : Nat} (hi : i < 11) : aI (hp c m) 25 0 (nI i) = some (m.f25 i) := aI_of hc25 hi (by decide)
theorem hw25 {i : Nat} (hi : i < 11) (x : Int32) : sI (hp c m) 25 0 (nI i) x = some (hp c (m.zf25 (upd m.f25 i x))) := sI_of hc25 hi (by decide)
theorem hr26 {i : Nat} (hi : i < 11) : aI (hp c m) 26 0 (nI i) = some (m.f26 i) := aI_of hc26 hi (by decide)
theorem hw26 {i : Nat} (hi : i < 11) (x : Int32) : sI (hp c m) 26 0 (nI i) x = some (hp c (m.zf26 (upd m.f26 i x))) := sI_of hc26 hi (by decide)
theorem hr27 {i : Nat} (hi : i < 10) : aI (hp c m) 27 0 (nI i) = some (m.f27 i) := aI_of hc27 hi (by decide)
theorem hw27 {i : Nat} (hi : i < 10) (x : Int32) : sI (hp c m) 27 0 (nI i) x = some (hp c (m.zf27 (upd m.f27 i x))) := sI_of hc27 hi (by decide)
theorem hr28 {i : Nat} (hi : i < 154) : aI (hp c m) 28 0 (nI i) = some (m.f28 i) := aI_of hc28 hi (by decide)
theorem hw28 {i : Nat} (hi : i < 154) (x : Int32) : sI (hp c m) 28 0 (nI i) x = some (hp c (m.zf28 (upd m.f28 i x))) := sI_of hc28 hi (by decide)
theorem hr29 {i : Nat} (hi : i < 22) : aI (hp c m) 29 0 (nI i) = some (m.f29 i) := aI_of hc29 hi (by decide)
theorem hw29 {i : Nat} (hi : i < 22) (x : Int32) : sI (hp c m) 29 0 (nI i) x = some (hp c (m.zf29 (upd m.f29 i x))) := sI_of hc29 hi (by decide)
theorem hr30 {i : Nat} (hi : i < 2) : aI (hp c m) 30 2 (nI i) = some (m.f30 i) := aI_of hc30 hi (by decide)
theorem hw30 {i : Nat} (hi : i < 2) (x : Int32) : sI (hp c m) 30 2 (nI i) x = some (hp c (m.zf30 (upd m.f30 i x))) := sI_of hc30 hi (by decide)
theorem hr31 {i : Nat} (hi : i < 6) : aI (hp c m) 31 0 (nI i) = some (m.f31 i) := aI_of hc31 hi (by decide)
theorem hw31 {i : Nat} (hi : i < 6) (x : Int32) : sI (hp c m) 31 0 (nI i) x = some (hp c (m.zf31 (upd m.f31 i x))) := sI_of hc31 hi (by decide)
theorem hr32 {i : Nat} (hi : i < 6) : aI (hp c m) 32 0 (nI i) = some (m.f32 i) := aI_of hc32 hi (by decide)
theorem hw32 {i : Nat} (hi : i < 6) (x : Int32) : sI (hp c m) 32 0 (nI i) x = some (hp c (m.zf32 (upd m.f32 i x))) := sI_of hc32 hi (by decide)
theorem hr33 {i : Nat} (hi : i < 5) : aI (hp c m) 33 0 (nI i) = some (m.f33 i) := aI_of hc33 hi (by decide)
theorem hw33 {i : Nat} (hi : i < 5) (x : Int32) : sI (hp c m) 33 0 (nI i) x = some (hp c (m.zf33 (upd m.f33 i x))) := sI_of hc33 hi (by decide)
theorem hr34 {i : Nat} (hi : i < 5) : aI (hp c m) 34 0 (nI i) = some (m.f34 i) := aI_of hc34 hi (by decide)
theorem hw34 {i : Nat} (hi : i < 5) (x : Int32) : sI (hp c m) 34 0 (nI i) x = some (hp c (m.zf34 (upd m.f34 i x))) := sI_of hc34 hi (by decide)
theorem hr36 {i : Nat} (hi : i < 128) : aI (hp c m) 36 0 (nI i) = some (m.f36 i) := aI_of hc36 hi (by decide)
theorem hw36 {i : Nat} (hi : i < 128) (x : Int32) : sI (hp c m) 36 0 (nI i) x = some (hp c (m.zf36 (upd m.f36 i x))) := sI_of hc36 hi (by decide)
theorem hr37 {i : Nat} (hi : i < 120) : aI (hp c m) 37 0 (nI i) = some (m.f37 i) := aI_of hc37 hi (by decide)
theorem hw37 {i : Nat} (hi : i < 120) (x : Int32) : sI (hp c m) 37 0 (nI i) x = some (hp c (m.zf37 (upd m.f37 i x))) := sI_of hc37 hi (by decide)
theorem hr38 {i : Nat} (hi : i < 32) : aI (hp c m) 38 0 (nI i) = some (m.f38 i) := aI_of hc38 hi (by decide)
theorem hw38 {i : Nat} (hi : i < 32) (x : Int32) : sI (hp c m) 38 0 (nI i) x = some (hp c (m.zf38 (upd m.f38 i x))) := sI_of hc38 hi (by decide)
theorem hr16 {i : Nat} (hi : i < 128) : aJ (hp c m) 16 (nI i) = some (c.f16 i) := aJ_of hc16 hi (by decide)
theorem hw16 {i : Nat} (hi : i < 128) (x : Int64) : sJ (hp c m) 16 (nI i) x = some (hp (c.zf16 (vp_updL c.f16 i x)) m) := sJ_of hc16 hi (by decide)
theorem hr20 {i : Nat} (hi : i < 128) : aJ (hp c m) 20 (nI i) = some (c.f20 i) := aJ_of hc20 hi (by decide)
theorem hw20 {i : Nat} (hi : i < 128) (x : Int64) : sJ (hp c m) 20 (nI i) x = some (hp (c.zf20 (vp_updL c.f20 i x)) m) := sJ_of hc20 hi (by decide)
theorem hr35 {i : Nat} (hi : i < 128) : aJ (hp c m) 35 (nI i) = some (m.f35 i) := aJ_of hc35 hi (by decide)
theorem hw35 {i : Nat} (hi : i < 128) (x : Int64) : sJ (hp c m) 35 (nI i) x = some (hp c (m.zf35 (vp_updL m.f35 i x))) := sJ_of hc35 hi (by decide)
theorem hp1_1 {v : Int32} (y : Nat) (h : v = nI y) : pV (hp c m) 1 3 1 (.int v) = some (hp (c.zL y) m) := by subst h; rfl
theorem hp5_2 {v : Int32} (y : Nat) (h : v = nI y) : pV (hp c m) 5 5 2 (.int v) = some (hp (c.zcnt y) m) := by subst h; rfl
theorem hp8_2 {v : Int32} (y : Nat) (h : v = nI y) : pV (hp c m) 8 7 2 (.int v) = some (hp (c.zkb y) m) := by subst h; rfl
theorem hp11_2 {v : Int32} (y : Nat) (h : v = nI y) : pV (hp c m) 11 6 2 (.int v) = some (hp (c.zsn y) m) := by subst h; rfl
theorem hp15_1 {v : Int32} (y : Nat) (h : v = nI y) : pV (hp c m) 15 0 1 (.int v) = some (hp (c.zoc y) m) := by subst h; rfl
theorem hp19_1 {v : Int32} (y : Nat) (h : v = nI y) : pV (hp c m) 19 0 1 (.int v) = some (hp (c.ztc y) m) := by subst h; rfl
theorem hp22_1 {v : Int32} (y : Nat) (h : v = nI y) : pV (hp c m) 22 9 1 (.int v) = some (hp c (m.zln y)) := by subst h; rfl
theorem hp22_7 {v : Int32} (y : Nat) (h : v = nI y) : pV (hp c m) 22 9 7 (.int v) = some (hp c (m.zdn y)) := by subst h; rfl
theorem hp22_8 {v : Int32} (y : Nat) (h : v = nI y) : pV (hp c m) 22 9 8 (.int v) = some (hp c (m.znx y)) := by subst h; rfl
theorem hp22_13 {v : Int32} (y : Nat) (h : v = nI y) : pV (hp c m) 22 9 13 (.int v) = some (hp c (m.zsn y)) := by subst h; rfl
theorem hp21_0 (v : Int32) : pV (hp c m) 21 1 0 (.int v) = some (hp (c.zfa v) m) := rfl
theorem hp21_1 (v : Int32) : pV (hp c m) 21 1 1 (.int v) = some (hp (c.zfz v) m) := rfl
theorem hp22_19 (v : Int32) : pV (hp c m) 22 9 19 (.int v) = some (hp c (m.zmn v)) := rfl
theorem hp22_22 (v : Int32) : pV (hp c m) 22 9 22 (.int v) = some (hp c (m.zsz v)) := rfl
theorem hp0_9 (v : Int64) : pV (hp c m) 0 8 9 (.long v) = some (hp (c.zsd v) m) := rfl
theorem hp22_14 (v : Int64) : pV (hp c m) 22 9 14 (.long v) = some (hp c (m.zsd v)) := rfl
theorem hs3 (n r u : Nat) : (hp c m).set 3 (glE n r u) = hp (((c.zn n).zr r).zu u) m := rfl
theorem hs4 (n r u : Nat) : (hp c m).set 4 (glE n r u) = hp (((c.zn4 n).zr4 r).zu4 u) m := rfl
theorem hs18 (n r u : Nat) : (hp c m).set 18 (glE n r u) = hp (((c.zn8 n).zr8 r).zu8 u) m := rfl
end HPS
/-- frames to heaps -/
theorem fr1 {H H' : Hp} {a : Nat} {e : va_E} (h : Fr [a] H H') (ha : H'[a]? = some e) : H' = H.set a e := by
  apply List.ext_getElem?
  intro k
  by_cases hk : k = a
  · subst hk
    have hl : k < H'.length := (List.getElem?_eq_some_iff.mp ha).1
    rw [ha, List.getElem?_set_self (by rw [← h.1]; exact hl)]
  · rw [h.2 k (by simpa using hk), List.getElem?_set_ne (fun q => hk q.symm)]
theorem fr2 {H H' : Hp} {a b : Nat} {e1 e2 : va_E} (h : Fr [a, b] H H') (ha : H'[a]? = some e1) (hb : H'[b]? = some e2) (hab : a ≠ b) : H' = (H.set a e1).set b e2 := by
  have h2 : Fr [b] (H.set a e1) H' := by
    refine ⟨by rw [h.1, List.length_set], fun k hk => ?_⟩
    by_cases hka : k = a
    · subst hka
      have hl : k < H'.length := (List.getElem?_eq_some_iff.mp ha).1
      rw [ha, List.getElem?_set_self (by rw [← h.1]; exact hl)]
    · rw [h.2 k (by simp at hk ⊢; exact ⟨hka, hk⟩), List.getElem?_set_ne (fun q => hka q.symm)]
  exact fr1 h2 hb
theorem fr3 {H H' : Hp} {a b d : Nat} {e1 e2 e3 : va_E} (h : Fr [a, b, d] H H') (ha : H'[a]? = some e1) (hb : H'[b]? = some e2) (hd : H'[d]? = some e3) (hbd : b ≠ d) : H' = ((H.set a e1).set b e2).set d e3 := by
  have h2 : Fr [b, d] (H.set a e1) H' := by
    refine ⟨by rw [h.1, List.length_set], fun k hk => ?_⟩
    by_cases hka : k = a
    · subst hka
      have hl : k < H'.length := (List.getElem?_eq_some_iff.mp ha).1
      rw [ha, List.getElem?_set_self (by rw [← h.1]; exact hl)]
    · rw [h.2 k (by simp at hk ⊢; exact ⟨hka, hk⟩), List.getElem?_set_ne (fun q => hka q.symm)]
  exact fr2 h2 hb hd hbd
/-- within bounds -/
def rg (a b : Nat) (x : Int32) : Bool := decide (nI a ≤ x ∧ x ≤ nI b)
theorem rg_t {a b : Nat} {x : Int32} (hb : b < 2 ^ 31) (ha : a < 2 ^ 31) : rg a b x = true ↔ ∃ w, a ≤ w ∧ w ≤ b ∧ x = nI w := by
  unfold rg
  rw [decide_eq_true_eq, ← in_int x a b hb ha, fa_le, fa_le, fa_le64, fa_le64, Int32.toInt_toInt64, nI_toInt ha, nI_toInt hb, lN_toInt (by omega), lN_toInt (by omega)]
theorem rg_in {a b : Nat} {x : Int32} (hb : b < 2 ^ 31) (ha : a < 2 ^ 31) (H : Hp) : FX10_in x.toInt64 (lN a) (lN b) H = some (b01 (rg a b x), H) := by
  rw [eIn]
  have h := rg_t (x := x) hb ha
  rw [← in_int x a b hb ha] at h
  cases e : rg a b x with
  | true => rw [decide_eq_true (h.mp e)]
  | false => rw [decide_eq_false (fun q => by rw [h.mpr q] at e; cases e)]
theorem rg_cls {α : Type} {a b : Nat} {x : Int32} {A B : α} : (if x < nI a then A else if x ≤ nI b then B else A) = if rg a b x = true then B else A := by
  unfold rg
  by_cases h1 : x < nI a
  · rw [if_pos h1, if_neg]
    rw [decide_eq_true_eq]
    rintro ⟨h2, _⟩
    rw [fa_lt] at h1
    rw [fa_le] at h2
    omega
  · rw [if_neg h1]
    have h3 := fa_of_nlt h1
    by_cases h2 : x ≤ nI b
    · rw [if_pos h2, if_pos (by rw [decide_eq_true_eq]; exact ⟨h3, h2⟩)]
    · rw [if_neg h2, if_neg]
      rw [decide_eq_true_eq]
      exact fun q => h2 q.2
theorem b01_1 : ¬ b01 true = 0 := by decide
theorem b01_f : b01 false = 0 := rfl
