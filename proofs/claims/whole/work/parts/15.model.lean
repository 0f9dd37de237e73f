/-! SquareFoldsModel.in(JJJ)Z -/
theorem kX10_in_0_0 : decB cX10_in 0 [(.lload_n 0, .null), (.lload_n 2, .null), (.lcmp, .null)] = true := by decide +kernel
theorem kX10_in_0_1 : decB cX10_in 17 [(.iconst 0, .int 0)] = true := by decide +kernel
theorem kX10_in_0_2 : decB cX10_in 6 [(.lload_n 0, .null), (.lload 4, .null), (.lcmp, .null)] = true := by decide +kernel
theorem kX10_in_0_3 : decB cX10_in 17 [(.iconst 0, .int 0)] = true := by decide +kernel
theorem kX10_in_0_4 : decB cX10_in 13 [(.iconst 1, .int 1), (.goto 4, .retAddr 18)] = true := by decide +kernel
theorem dX10_in_3 : decode cX10_in 3 = .ok (.ifCond .lt 14, 3) := by decide +kernel
theorem dX10_in_10 : decode cX10_in 10 = .ok (.ifCond .gt 7, 3) := by decide +kernel
theorem dX10_in_18 : decode cX10_in 18 = .ok (.ireturn, 1) := by decide +kernel
def FX10_in  (a0 : Int64) (a2 : Int64) (a4 : Int64) (H : Hp) : Option (Int32 × Hp) :=
  if ((lg_cmp a0 a2) < 0 : Prop) then
    some (0, H)
  else
    if (0 < (lg_cmp a0 a4) : Prop) then
      some (0, H)
    else
      some (1, H)
set_option maxHeartbeats 4000000 in
set_option maxRecDepth 100000 in
theorem tFX10_in {G : GG} {r : Int32} {H' : Hp}   {a0 : Int64} {a2 : Int64} {a4 : Int64} {H : Hp} (h : FX10_in  a0 a2 a4 H = some (r, H')) : Sn G (T0 G (some (.int r)) H') mX10_in 0 [some (.long a0), none, some (.long a2), none, some (.long a4), none] [] H := by
  unfold FX10_in at h
  refine sn_blk _ kX10_in_0_0 (pc' := 3) (L' := [some (.long a0), none, some (.long a2), none, some (.long a4), none]) (st' := [.int (lg_cmp a0 a2)]) rfl rfl ?_
  refine sn_if_lt (tgt := 17) dX10_in_3 (by decide) (fun c => ?_) (fun c => ?_)
  · rw [if_pos c] at h
    refine sn_blk _ kX10_in_0_1 (pc' := 18) (L' := [some (.long a0), none, some (.long a2), none, some (.long a4), none]) (st' := [.int 0]) rfl rfl ?_
    cases h
    exact sn_iret (ty := .boolean) dX10_in_18 rfl rfl
  · rw [if_neg c] at h
    refine sn_blk _ kX10_in_0_2 (pc' := 10) (L' := [some (.long a0), none, some (.long a2), none, some (.long a4), none]) (st' := [.int (lg_cmp a0 a4)]) rfl rfl ?_
    refine sn_if_gt (tgt := 17) dX10_in_10 (by decide) (fun c => ?_) (fun c => ?_)
    · rw [if_pos c] at h
      refine sn_blk _ kX10_in_0_3 (pc' := 18) (L' := [some (.long a0), none, some (.long a2), none, some (.long a4), none]) (st' := [.int 0]) rfl rfl ?_
      cases h
      exact sn_iret (ty := .boolean) dX10_in_18 rfl rfl
    · rw [if_neg c] at h
      refine sn_blk _ kX10_in_0_4 (pc' := 18) (L' := [some (.long a0), none, some (.long a2), none, some (.long a4), none]) (st' := [.int 1]) rfl rfl ?_
      cases h
      exact sn_iret (ty := .boolean) dX10_in_18 rfl rfl
theorem sX10_in {G : GG} {r : Int32} {H' : Hp} {a0 : Int64} {a2 : Int64} {a4 : Int64} {H : Hp} (h : FX10_in a0 a2 a4 H = some (r, H')) : SM G mX10_in [.long a0, .long a2, .long a4] H (some (.int r)) H' := tFX10_in h
/-! SquareFoldsModel.write(I)I -/
theorem kX10_write_0_0 : decB cX10_write 0 [(.iload_n 1, .null), (.i2l, .null), (.lconst 0, .long 0)] = true := by decide +kernel
theorem kX10_write_0_1 : decB cX10_write 15 [(.aload_n 0, .null)] = true := by decide +kernel
theorem kX10_write_0_2 : decB cX10_write 19 [(.bipush 20, .int 20)] = true := by decide +kernel
theorem kX10_write_0_3 : decB cX10_write 27 [(.aload_n 0, .null)] = true := by decide +kernel
theorem kX10_write_0_4 : decB cX10_write 31 [(.aload_n 0, .null)] = true := by decide +kernel
theorem kX10_write_0_5 : decB cX10_write 35 [(.iload_n 1, .null)] = true := by decide +kernel
theorem kX10_write_0_6 : decB cX10_write 37 [(.aload_n 0, .null), (.dup, .null)] = true := by decide +kernel
theorem kX10_write_0_7 : decB cX10_write 42 [(.iconst 1, .int 1), (.iadd, .null)] = true := by decide +kernel
theorem kX10_write_0_8 : decB cX10_write 47 [(.aload_n 0, .null)] = true := by decide +kernel
theorem kX10_write_0_9 : decB cX10_write 24 [(.bipush (-4), .int (-4))] = true := by decide +kernel
theorem kX10_write_0_10 : decB cX10_write 12 [(.bipush (-2), .int (-2))] = true := by decide +kernel
theorem dX10_write_3 : decode cX10_write 3 = .ok (.ldc2_w 131, 3) := by decide +kernel
theorem dX10_write_6 : decode cX10_write 6 = .ok (.invokestatic 127, 3) := by decide +kernel
theorem dX10_write_9 : decode cX10_write 9 = .ok (.ifCond .ne 6, 3) := by decide +kernel
theorem dX10_write_14 : decode cX10_write 14 = .ok (.ireturn, 1) := by decide +kernel
theorem dX10_write_16 : decode cX10_write 16 = .ok (.getfield 133, 3) := by decide +kernel
theorem dX10_write_21 : decode cX10_write 21 = .ok (.if_icmp .ne 6, 3) := by decide +kernel
theorem dX10_write_26 : decode cX10_write 26 = .ok (.ireturn, 1) := by decide +kernel
theorem dX10_write_28 : decode cX10_write 28 = .ok (.getfield 7, 3) := by decide +kernel
theorem dX10_write_32 : decode cX10_write 32 = .ok (.getfield 133, 3) := by decide +kernel
theorem dX10_write_36 : decode cX10_write 36 = .ok (.iastore, 1) := by decide +kernel
theorem dX10_write_39 : decode cX10_write 39 = .ok (.getfield 133, 3) := by decide +kernel
theorem dX10_write_44 : decode cX10_write 44 = .ok (.putfield 133, 3) := by decide +kernel
theorem dX10_write_48 : decode cX10_write 48 = .ok (.getfield 133, 3) := by decide +kernel
theorem dX10_write_51 : decode cX10_write 51 = .ok (.ireturn, 1) := by decide +kernel
def FX10_write  (a0 : Nat) (a1 : Int32) (H : Hp) : Option (Int32 × Hp) :=
  bd2 (FX10_in (Int32.toInt64 a1) 0 255 H) fun x1 H2 =>
  if (x1 = 0 : Prop) then
    some ((-2), H2)
  else
    bd (gI H2 a0 9 1) fun x3 =>
    if (x3 = 20 : Prop) then
      some ((-4), H2)
    else
      bd (gA H2 a0 9 0) fun x4 =>
      bd (gI H2 a0 9 1) fun x5 =>
      bd (sI H2 x4 0 x5 a1) fun H6 =>
      bd (gI H6 a0 9 1) fun x7 =>
      bd (pV H6 a0 9 1 (.int (x7 + 1))) fun H8 =>
      bd (gI H8 a0 9 1) fun x9 =>
      some (x9, H8)
set_option maxHeartbeats 4000000 in
set_option maxRecDepth 100000 in
theorem tFX10_write {G : GG} {r : Int32} {H' : Hp}   {a0 : Nat} {a1 : Int32} {H : Hp} (h : FX10_write  a0 a1 H = some (r, H')) : Sn G (T0 G (some (.int r)) H') mX10_write 0 [some (.ref a0), some (.int a1)] [] H := by
  unfold FX10_write at h
  refine sn_blk _ kX10_write_0_0 (pc' := 3) (L' := [some (.ref a0), some (.int a1)]) (st' := [.long 0, .long (Int32.toInt64 a1)]) rfl rfl ?_
  refine sn_ldc2 dX10_write_3 kcX10_131 ?_
  obtain ⟨x1, H2, hx1, h⟩ := bd2_inv h
  refine sn_calls (av := [.long (Int32.toInt64 a1), .long 0, .long 255]) (st := []) (M2 := mX10_in) dX10_write_6 msX10_in mlX10_127 rfl rfl rfl rfl rfl (sX10_in hx1) ?_
  refine sn_if_ne (tgt := 15) dX10_write_9 (by decide) (fun c => ?_) (fun c => ?_)
  · rw [if_neg c] at h
    refine sn_blk _ kX10_write_0_1 (pc' := 16) (L' := [some (.ref a0), some (.int a1)]) (st' := [.ref a0]) rfl rfl ?_
    obtain ⟨x3, hx3, h⟩ := bd_inv h
    refine sn_gI dX10_write_16 foX10_133 hx3 ?_
    refine sn_blk _ kX10_write_0_2 (pc' := 21) (L' := [some (.ref a0), some (.int a1)]) (st' := [.int 20, .int x3]) rfl rfl ?_
    refine sn_icmp_ne (tgt := 27) dX10_write_21 (by decide) (fun c => ?_) (fun c => ?_)
    · rw [if_neg c] at h
      refine sn_blk _ kX10_write_0_3 (pc' := 28) (L' := [some (.ref a0), some (.int a1)]) (st' := [.ref a0]) rfl rfl ?_
      obtain ⟨x4, hx4, h⟩ := bd_inv h
      refine sn_gA dX10_write_28 foX10_7 hx4 ?_
      refine sn_blk _ kX10_write_0_4 (pc' := 32) (L' := [some (.ref a0), some (.int a1)]) (st' := [.ref a0, .ref x4]) rfl rfl ?_
      obtain ⟨x5, hx5, h⟩ := bd_inv h
      refine sn_gI dX10_write_32 foX10_133 hx5 ?_
      refine sn_blk _ kX10_write_0_5 (pc' := 36) (L' := [some (.ref a0), some (.int a1)]) (st' := [.int a1, .int x5, .ref x4]) rfl rfl ?_
      obtain ⟨H6, hH6, h⟩ := bd_inv h
      refine sn_iast dX10_write_36 hH6 ?_
      refine sn_blk _ kX10_write_0_6 (pc' := 39) (L' := [some (.ref a0), some (.int a1)]) (st' := [.ref a0, .ref a0]) rfl rfl ?_
      obtain ⟨x7, hx7, h⟩ := bd_inv h
      refine sn_gI dX10_write_39 foX10_133 hx7 ?_
      refine sn_blk _ kX10_write_0_7 (pc' := 44) (L' := [some (.ref a0), some (.int a1)]) (st' := [.int (x7 + 1), .ref a0]) rfl rfl ?_
      obtain ⟨H8, hH8, h⟩ := bd_inv h
      refine sn_pI dX10_write_44 foX10_133 fpX10_1 hH8 ?_
      refine sn_blk _ kX10_write_0_8 (pc' := 48) (L' := [some (.ref a0), some (.int a1)]) (st' := [.ref a0]) rfl rfl ?_
      obtain ⟨x9, hx9, h⟩ := bd_inv h
      refine sn_gI dX10_write_48 foX10_133 hx9 ?_
      cases h
      exact sn_iret (ty := .int) dX10_write_51 rfl rfl
    · rw [if_pos c] at h
      refine sn_blk _ kX10_write_0_9 (pc' := 26) (L' := [some (.ref a0), some (.int a1)]) (st' := [.int (-4)]) rfl rfl ?_
      cases h
      exact sn_iret (ty := .int) dX10_write_26 rfl rfl
  · rw [if_pos c] at h
    refine sn_blk _ kX10_write_0_10 (pc' := 14) (L' := [some (.ref a0), some (.int a1)]) (st' := [.int (-2)]) rfl rfl ?_
    cases h
    exact sn_iret (ty := .int) dX10_write_14 rfl rfl
theorem sX10_write {G : GG} {r : Int32} {H' : Hp} {a0 : Nat} {a1 : Int32} {H : Hp} (h : FX10_write a0 a1 H = some (r, H')) : SM G mX10_write [.ref a0, .int a1] H (some (.int r)) H' := tFX10_write h
/-! SquareFoldsModel.wipe()I -/
theorem kX10_wipe_0_0 : decB cX10_wipe 0 [(.aload_n 0, .null)] = true := by decide +kernel
theorem kX10_wipe_0_1 : decB cX10_wipe 4 [(.istore_n 1, .null), (.aload_n 0, .null), (.iconst 0, .int 0)] = true := by decide +kernel
theorem kX10_wipe_0_2 : decB cX10_wipe 10 [(.iload_n 1, .null)] = true := by decide +kernel
theorem dX10_wipe_1 : decode cX10_wipe 1 = .ok (.getfield 133, 3) := by decide +kernel
theorem dX10_wipe_7 : decode cX10_wipe 7 = .ok (.putfield 133, 3) := by decide +kernel
theorem dX10_wipe_11 : decode cX10_wipe 11 = .ok (.ireturn, 1) := by decide +kernel
def FX10_wipe  (a0 : Nat) (H : Hp) : Option (Int32 × Hp) :=
  bd (gI H a0 9 1) fun x1 =>
  bd (pV H a0 9 1 (.int 0)) fun H2 =>
  some (x1, H2)
set_option maxHeartbeats 4000000 in
set_option maxRecDepth 100000 in
theorem tFX10_wipe {G : GG} {r : Int32} {H' : Hp}   {a0 : Nat} {H : Hp} (h : FX10_wipe  a0 H = some (r, H')) : Sn G (T0 G (some (.int r)) H') mX10_wipe 0 [some (.ref a0), none] [] H := by
  unfold FX10_wipe at h
  refine sn_blk _ kX10_wipe_0_0 (pc' := 1) (L' := [some (.ref a0), none]) (st' := [.ref a0]) rfl rfl ?_
  obtain ⟨x1, hx1, h⟩ := bd_inv h
  refine sn_gI dX10_wipe_1 foX10_133 hx1 ?_
  refine sn_blk _ kX10_wipe_0_1 (pc' := 7) (L' := [some (.ref a0), some (.int x1)]) (st' := [.int 0, .ref a0]) rfl rfl ?_
  obtain ⟨H2, hH2, h⟩ := bd_inv h
  refine sn_pI dX10_wipe_7 foX10_133 fpX10_1 hH2 ?_
  refine sn_blk _ kX10_wipe_0_2 (pc' := 11) (L' := [some (.ref a0), some (.int x1)]) (st' := [.int x1]) rfl rfl ?_
  cases h
  exact sn_iret (ty := .int) dX10_wipe_11 rfl rfl
theorem sX10_wipe {G : GG} {r : Int32} {H' : Hp} {a0 : Nat} {H : Hp} (h : FX10_wipe a0 H = some (r, H')) : SM G mX10_wipe [.ref a0] H (some (.int r)) H' := tFX10_wipe h
/-! SquareFoldsModel.canStand(I)Z -/
theorem kX10_canStand_0_0 : decB cX10_canStand 0 [(.aload_n 0, .null)] = true := by decide +kernel
theorem kX10_canStand_0_1 : decB cX10_canStand 4 [(.iload_n 1, .null)] = true := by decide +kernel
theorem kX10_canStand_0_2 : decB cX10_canStand 6 [(.bipush 48, .int 48), (.isub, .null), (.istore_n 2, .null), (.iload_n 1, .null)] = true := by decide +kernel
theorem kX10_canStand_0_3 : decB cX10_canStand 31 [(.iload_n 1, .null), (.iconst 1, .int 1)] = true := by decide +kernel
theorem kX10_canStand_0_4 : decB cX10_canStand 46 [(.aload_n 0, .null)] = true := by decide +kernel
theorem kX10_canStand_0_5 : decB cX10_canStand 50 [(.iconst 1, .int 1)] = true := by decide +kernel
theorem kX10_canStand_0_6 : decB cX10_canStand 52 [(.bipush 48, .int 48), (.isub, .null), (.istore_n 3, .null), (.iload_n 1, .null), (.iconst 2, .int 2), (.iconst 2, .int 2), (.iload_n 3, .null), (.imul, .null), (.iadd, .null)] = true := by decide +kernel
theorem kX10_canStand_0_7 : decB cX10_canStand 78 [(.iconst 0, .int 0)] = true := by decide +kernel
theorem kX10_canStand_0_8 : decB cX10_canStand 65 [(.iload_n 2, .null), (.i2l, .null), (.lconst 0, .long 0), (.iload_n 3, .null), (.iconst 1, .int 1), (.isub, .null), (.i2l, .null)] = true := by decide +kernel
theorem kX10_canStand_0_9 : decB cX10_canStand 80 [(.iconst 1, .int 1), (.istore 4, .null), (.iload_n 1, .null), (.iconst 2, .int 2), (.iload_n 3, .null), (.iadd, .null)] = true := by decide +kernel
theorem kX10_canStand_0_10 : decB cX10_canStand 94 [(.iconst 2, .int 2), (.iload_n 3, .null), (.iadd, .null), (.istore 5, .null)] = true := by decide +kernel
theorem kX10_canStand_0_11 : decB cX10_canStand 90 [(.iconst 2, .int 2), (.goto 6, .retAddr 97), (.istore 5, .null)] = true := by decide +kernel
theorem kX10_canStand_0_12 : decB cX10_canStand 78 [(.iconst 0, .int 0)] = true := by decide +kernel
theorem kX10_canStand_0_13 : decB cX10_canStand 36 [(.iload_n 2, .null), (.i2l, .null), (.lconst 1, .long 1)] = true := by decide +kernel
theorem kX10_canStand_0_14 : decB cX10_canStand 14 [(.aload_n 0, .null)] = true := by decide +kernel
theorem kX10_canStand_0_15 : decB cX10_canStand 18 [(.iload_n 1, .null)] = true := by decide +kernel
theorem kX10_canStand_0_16 : decB cX10_canStand 20 [(.bipush 83, .int 83)] = true := by decide +kernel
theorem kX10_canStand_0_17 : decB cX10_canStand 29 [(.iconst 0, .int 0)] = true := by decide +kernel
theorem kX10_canStand_0_18 : decB cX10_canStand 25 [(.iconst 1, .int 1), (.goto 4, .retAddr 30)] = true := by decide +kernel
theorem kX10_canStand_99_0 : decB cX10_canStand 99 [(.iload 5, .null), (.iload_n 1, .null)] = true := by decide +kernel
theorem kX10_canStand_99_1 : decB cX10_canStand 139 [(.iload 4, .null)] = true := by decide +kernel
theorem kX10_canStand_99_2 : decB cX10_canStand 105 [(.iload 4, .null)] = true := by decide +kernel
theorem kX10_canStand_99_3 : decB cX10_canStand 130 [(.iconst 0, .int 0), (.istore 4, .null), (.iinc 5 1, .int 1), (.goto (-37), .retAddr 99)] = true := by decide +kernel
theorem kX10_canStand_99_4 : decB cX10_canStand 110 [(.aload_n 0, .null)] = true := by decide +kernel
theorem kX10_canStand_99_5 : decB cX10_canStand 114 [(.iload 5, .null)] = true := by decide +kernel
theorem kX10_canStand_99_6 : decB cX10_canStand 117 [(.aload_n 0, .null)] = true := by decide +kernel
theorem kX10_canStand_99_7 : decB cX10_canStand 121 [(.iload_n 1, .null)] = true := by decide +kernel
theorem kX10_canStand_99_8 : decB cX10_canStand 130 [(.iconst 0, .int 0), (.istore 4, .null), (.iinc 5 1, .int 1), (.goto (-37), .retAddr 99)] = true := by decide +kernel
theorem kX10_canStand_99_9 : decB cX10_canStand 126 [(.iconst 1, .int 1), (.goto 4, .retAddr 131), (.istore 4, .null), (.iinc 5 1, .int 1), (.goto (-37), .retAddr 99)] = true := by decide +kernel
theorem dX10_canStand_1 : decode cX10_canStand 1 = .ok (.getfield 7, 3) := by decide +kernel
theorem dX10_canStand_5 : decode cX10_canStand 5 = .ok (.iaload, 1) := by decide +kernel
theorem dX10_canStand_11 : decode cX10_canStand 11 = .ok (.ifCond .ne 20, 3) := by decide +kernel
theorem dX10_canStand_15 : decode cX10_canStand 15 = .ok (.getfield 7, 3) := by decide +kernel
theorem dX10_canStand_19 : decode cX10_canStand 19 = .ok (.iaload, 1) := by decide +kernel
theorem dX10_canStand_22 : decode cX10_canStand 22 = .ok (.if_icmp .ne 7, 3) := by decide +kernel
theorem dX10_canStand_30 : decode cX10_canStand 30 = .ok (.ireturn, 1) := by decide +kernel
theorem dX10_canStand_33 : decode cX10_canStand 33 = .ok (.if_icmp .ne 13, 3) := by decide +kernel
theorem dX10_canStand_39 : decode cX10_canStand 39 = .ok (.ldc2_w 137, 3) := by decide +kernel
theorem dX10_canStand_42 : decode cX10_canStand 42 = .ok (.invokestatic 127, 3) := by decide +kernel
theorem dX10_canStand_45 : decode cX10_canStand 45 = .ok (.ireturn, 1) := by decide +kernel
theorem dX10_canStand_47 : decode cX10_canStand 47 = .ok (.getfield 7, 3) := by decide +kernel
theorem dX10_canStand_51 : decode cX10_canStand 51 = .ok (.iaload, 1) := by decide +kernel
theorem dX10_canStand_62 : decode cX10_canStand 62 = .ok (.if_icmp .ge 16, 3) := by decide +kernel
theorem dX10_canStand_72 : decode cX10_canStand 72 = .ok (.invokestatic 127, 3) := by decide +kernel
theorem dX10_canStand_75 : decode cX10_canStand 75 = .ok (.ifCond .ne 5, 3) := by decide +kernel
theorem dX10_canStand_79 : decode cX10_canStand 79 = .ok (.ireturn, 1) := by decide +kernel
theorem dX10_canStand_87 : decode cX10_canStand 87 = .ok (.if_icmp .ge 7, 3) := by decide +kernel
theorem dX10_canStand_102 : decode cX10_canStand 102 = .ok (.if_icmp .ge 37, 3) := by decide +kernel
theorem dX10_canStand_107 : decode cX10_canStand 107 = .ok (.ifCond .eq 23, 3) := by decide +kernel
theorem dX10_canStand_111 : decode cX10_canStand 111 = .ok (.getfield 7, 3) := by decide +kernel
theorem dX10_canStand_116 : decode cX10_canStand 116 = .ok (.iaload, 1) := by decide +kernel
theorem dX10_canStand_118 : decode cX10_canStand 118 = .ok (.getfield 7, 3) := by decide +kernel
theorem dX10_canStand_122 : decode cX10_canStand 122 = .ok (.iaload, 1) := by decide +kernel
theorem dX10_canStand_123 : decode cX10_canStand 123 = .ok (.if_icmp .eq 7, 3) := by decide +kernel
theorem dX10_canStand_141 : decode cX10_canStand 141 = .ok (.ireturn, 1) := by decide +kernel
def bX10_canStand_99 (K99 : Nat → Int32 → Int32 → Int32 → Hp → Option (Int32 × Hp)) (a0 : Nat) (a1 : Int32) (a4 : Int32) (a5 : Int32) (H : Hp) : Option (Int32 × Hp) :=
  if (a1 ≤ a5 : Prop) then
    gp (a4 = 0 ∨ a4 = 1) (some (a4, H))
  else
    if (a4 = 0 : Prop) then
      K99 a0 a1 0 (a5 + 1) H
    else
      bd (gA H a0 9 0) fun x1 =>
      bd (aI H x1 0 a5) fun x2 =>
      bd (gA H a0 9 0) fun x3 =>
      bd (aI H x3 0 a1) fun x4 =>
      if (x2 = x4 : Prop) then
        K99 a0 a1 0 (a5 + 1) H
      else
        K99 a0 a1 1 (a5 + 1) H
set_option maxHeartbeats 4000000 in
set_option maxRecDepth 100000 in
theorem tbX10_canStand_99 {G : GG} {r : Int32} {H' : Hp} {K99 : Nat → Int32 → Int32 → Int32 → Hp → Option (Int32 × Hp)} (hK99 : ∀ (a0 : Nat) (a1 : Int32) (a4 : Int32) (a5 : Int32) (H : Hp), K99 a0 a1 a4 a5 H = some (r, H') → Sn G (T0 G (some (.int r)) H') mX10_canStand 99 [some (.ref a0), some (.int a1), none, none, some (.int a4), some (.int a5)] [] H) {a0 : Nat} {a1 : Int32} {a4 : Int32} {a5 : Int32} {H : Hp} (h : bX10_canStand_99 K99 a0 a1 a4 a5 H = some (r, H')) : Sn G (T0 G (some (.int r)) H') mX10_canStand 99 [some (.ref a0), some (.int a1), none, none, some (.int a4), some (.int a5)] [] H := by
  unfold bX10_canStand_99 at h
  refine sn_blk _ kX10_canStand_99_0 (pc' := 102) (L' := [some (.ref a0), some (.int a1), none, none, some (.int a4), some (.int a5)]) (st' := [.int a1, .int a5]) rfl rfl ?_
  refine sn_icmp_ge (tgt := 139) dX10_canStand_102 (by decide) (fun c => ?_) (fun c => ?_)
  · rw [if_pos c] at h
    refine sn_blk _ kX10_canStand_99_1 (pc' := 141) (L' := [some (.ref a0), some (.int a1), none, none, some (.int a4), some (.int a5)]) (st' := [.int a4]) rfl rfl ?_
    obtain ⟨hb, h⟩ := gp_inv h
    cases h
    exact sn_iret (ty := .boolean) dX10_canStand_141 rfl (nar_bool hb)
  · rw [if_neg c] at h
    refine sn_blk _ kX10_canStand_99_2 (pc' := 107) (L' := [some (.ref a0), some (.int a1), none, none, some (.int a4), some (.int a5)]) (st' := [.int a4]) rfl rfl ?_
    refine sn_if_eq (tgt := 130) dX10_canStand_107 (by decide) (fun c => ?_) (fun c => ?_)
    · rw [if_pos c] at h
      refine sn_blk _ kX10_canStand_99_3 (pc' := 99) (L' := [some (.ref a0), some (.int a1), none, none, some (.int 0), some (.int (a5 + 1))]) (st' := []) rfl rfl ?_
      exact hK99 _ _ _ _ _ h
    · rw [if_neg c] at h
      refine sn_blk _ kX10_canStand_99_4 (pc' := 111) (L' := [some (.ref a0), some (.int a1), none, none, some (.int a4), some (.int a5)]) (st' := [.ref a0]) rfl rfl ?_
      obtain ⟨x1, hx1, h⟩ := bd_inv h
      refine sn_gA dX10_canStand_111 foX10_7 hx1 ?_
      refine sn_blk _ kX10_canStand_99_5 (pc' := 116) (L' := [some (.ref a0), some (.int a1), none, none, some (.int a4), some (.int a5)]) (st' := [.int a5, .ref x1]) rfl rfl ?_
      obtain ⟨x2, hx2, h⟩ := bd_inv h
      refine sn_iald dX10_canStand_116 hx2 ?_
      refine sn_blk _ kX10_canStand_99_6 (pc' := 118) (L' := [some (.ref a0), some (.int a1), none, none, some (.int a4), some (.int a5)]) (st' := [.ref a0, .int x2]) rfl rfl ?_
      obtain ⟨x3, hx3, h⟩ := bd_inv h
      refine sn_gA dX10_canStand_118 foX10_7 hx3 ?_
      refine sn_blk _ kX10_canStand_99_7 (pc' := 122) (L' := [some (.ref a0), some (.int a1), none, none, some (.int a4), some (.int a5)]) (st' := [.int a1, .ref x3, .int x2]) rfl rfl ?_
      obtain ⟨x4, hx4, h⟩ := bd_inv h
      refine sn_iald dX10_canStand_122 hx4 ?_
      refine sn_icmp_eq (tgt := 130) dX10_canStand_123 (by decide) (fun c => ?_) (fun c => ?_)
      · rw [if_pos c] at h
        refine sn_blk _ kX10_canStand_99_8 (pc' := 99) (L' := [some (.ref a0), some (.int a1), none, none, some (.int 0), some (.int (a5 + 1))]) (st' := []) rfl rfl ?_
        exact hK99 _ _ _ _ _ h
      · rw [if_neg c] at h
        refine sn_blk _ kX10_canStand_99_9 (pc' := 99) (L' := [some (.ref a0), some (.int a1), none, none, some (.int 1), some (.int (a5 + 1))]) (st' := []) rfl rfl ?_
        exact hK99 _ _ _ _ _ h
def fX10_canStand_99  : Nat → Nat → Int32 → Int32 → Int32 → Hp → Option (Int32 × Hp)
  | 0, _, _, _, _, _ => none
  | d + 1, a0, a1, a4, a5, H => bX10_canStand_99 (fX10_canStand_99  d) a0 a1 a4 a5 H
theorem tfX10_canStand_99 {G : GG} {r : Int32} {H' : Hp}   : ∀ (d : Nat) {a0 : Nat} {a1 : Int32} {a4 : Int32} {a5 : Int32} {H : Hp}, fX10_canStand_99  d a0 a1 a4 a5 H = some (r, H') → Sn G (T0 G (some (.int r)) H') mX10_canStand 99 [some (.ref a0), some (.int a1), none, none, some (.int a4), some (.int a5)] [] H := by
  intro d
  induction d with
  | zero => intro a0 a1 a4 a5 H h; cases h
  | succ d ih => intro a0 a1 a4 a5 H h; exact tbX10_canStand_99 (fun a0 a1 a4 a5 H h => ih h) h
def FX10_canStand  (a0 : Nat) (a1 : Int32) (H : Hp) : Option (Int32 × Hp) :=
  bd (gA H a0 9 0) fun x1 =>
  bd (aI H x1 0 a1) fun x2 =>
  if (a1 = 0 : Prop) then
    bd (gA H a0 9 0) fun x9 =>
    bd (aI H x9 0 a1) fun x10 =>
    if (x10 = 83 : Prop) then
      some (1, H)
    else
      some (0, H)
  else
    if (a1 = 1 : Prop) then
      bd2 (FX10_in (Int32.toInt64 (x2 - 48)) 1 5 H) fun x7 H8 =>
      gp (x7 = 0 ∨ x7 = 1) (some (x7, H8))
    else
      bd (gA H a0 9 0) fun x3 =>
      bd (aI H x3 0 1) fun x4 =>
      if ((2 + (2 * (x4 - 48))) ≤ a1 : Prop) then
        some (0, H)
      else
        bd2 (FX10_in (Int32.toInt64 (x2 - 48)) 0 (Int32.toInt64 ((x4 - 48) - 1)) H) fun x5 H6 =>
        if (x5 = 0 : Prop) then
          some (0, H6)
        else
          if ((2 + (x4 - 48)) ≤ a1 : Prop) then
            fX10_canStand_99  4096 a0 a1 1 (2 + (x4 - 48)) H6
          else
            fX10_canStand_99  4096 a0 a1 1 2 H6
set_option maxHeartbeats 4000000 in
set_option maxRecDepth 100000 in
theorem tFX10_canStand {G : GG} {r : Int32} {H' : Hp}   {a0 : Nat} {a1 : Int32} {H : Hp} (h : FX10_canStand  a0 a1 H = some (r, H')) : Sn G (T0 G (some (.int r)) H') mX10_canStand 0 [some (.ref a0), some (.int a1), none, none, none, none] [] H := by
  unfold FX10_canStand at h
  refine sn_blk _ kX10_canStand_0_0 (pc' := 1) (L' := [some (.ref a0), some (.int a1), none, none, none, none]) (st' := [.ref a0]) rfl rfl ?_
  obtain ⟨x1, hx1, h⟩ := bd_inv h
  refine sn_gA dX10_canStand_1 foX10_7 hx1 ?_
  refine sn_blk _ kX10_canStand_0_1 (pc' := 5) (L' := [some (.ref a0), some (.int a1), none, none, none, none]) (st' := [.int a1, .ref x1]) rfl rfl ?_
  obtain ⟨x2, hx2, h⟩ := bd_inv h
  refine sn_iald dX10_canStand_5 hx2 ?_
  refine sn_blk _ kX10_canStand_0_2 (pc' := 11) (L' := [some (.ref a0), some (.int a1), some (.int (x2 - 48)), none, none, none]) (st' := [.int a1]) rfl rfl ?_
  refine sn_if_ne (tgt := 31) dX10_canStand_11 (by decide) (fun c => ?_) (fun c => ?_)
  · rw [if_neg c] at h
    refine sn_blk _ kX10_canStand_0_3 (pc' := 33) (L' := [some (.ref a0), some (.int a1), some (.int (x2 - 48)), none, none, none]) (st' := [.int 1, .int a1]) rfl rfl ?_
    refine sn_icmp_ne (tgt := 46) dX10_canStand_33 (by decide) (fun c => ?_) (fun c => ?_)
    · rw [if_neg c] at h
      refine sn_blk _ kX10_canStand_0_4 (pc' := 47) (L' := [some (.ref a0), some (.int a1), some (.int (x2 - 48)), none, none, none]) (st' := [.ref a0]) rfl rfl ?_
      obtain ⟨x3, hx3, h⟩ := bd_inv h
      refine sn_gA dX10_canStand_47 foX10_7 hx3 ?_
      refine sn_blk _ kX10_canStand_0_5 (pc' := 51) (L' := [some (.ref a0), some (.int a1), some (.int (x2 - 48)), none, none, none]) (st' := [.int 1, .ref x3]) rfl rfl ?_
      obtain ⟨x4, hx4, h⟩ := bd_inv h
      refine sn_iald dX10_canStand_51 hx4 ?_
      refine sn_blk _ kX10_canStand_0_6 (pc' := 62) (L' := [some (.ref a0), some (.int a1), some (.int (x2 - 48)), some (.int (x4 - 48)), none, none]) (st' := [.int (2 + (2 * (x4 - 48))), .int a1]) rfl rfl ?_
      refine sn_icmp_ge (tgt := 78) dX10_canStand_62 (by decide) (fun c => ?_) (fun c => ?_)
      · rw [if_pos c] at h
        refine sn_blk _ kX10_canStand_0_7 (pc' := 79) (L' := [some (.ref a0), some (.int a1), some (.int (x2 - 48)), some (.int (x4 - 48)), none, none]) (st' := [.int 0]) rfl rfl ?_
        cases h
        exact sn_iret (ty := .boolean) dX10_canStand_79 rfl rfl
      · rw [if_neg c] at h
        refine sn_blk _ kX10_canStand_0_8 (pc' := 72) (L' := [some (.ref a0), some (.int a1), some (.int (x2 - 48)), some (.int (x4 - 48)), none, none]) (st' := [.long (Int32.toInt64 ((x4 - 48) - 1)), .long 0, .long (Int32.toInt64 (x2 - 48))]) rfl rfl ?_
        obtain ⟨x5, H6, hx5, h⟩ := bd2_inv h
        refine sn_calls (av := [.long (Int32.toInt64 (x2 - 48)), .long 0, .long (Int32.toInt64 ((x4 - 48) - 1))]) (st := []) (M2 := mX10_in) dX10_canStand_72 msX10_in mlX10_127 rfl rfl rfl rfl rfl (sX10_in hx5) ?_
        refine sn_if_ne (tgt := 80) dX10_canStand_75 (by decide) (fun c => ?_) (fun c => ?_)
        · rw [if_neg c] at h
          refine sn_blk _ kX10_canStand_0_9 (pc' := 87) (L' := [some (.ref a0), some (.int a1), some (.int (x2 - 48)), some (.int (x4 - 48)), some (.int 1), none]) (st' := [.int (2 + (x4 - 48)), .int a1]) rfl rfl ?_
          refine sn_icmp_ge (tgt := 94) dX10_canStand_87 (by decide) (fun c => ?_) (fun c => ?_)
          · rw [if_pos c] at h
            refine sn_blk _ kX10_canStand_0_10 (pc' := 99) (L' := [some (.ref a0), some (.int a1), some (.int (x2 - 48)), some (.int (x4 - 48)), some (.int 1), some (.int (2 + (x4 - 48)))]) (st' := []) rfl rfl ?_
            refine sn_msk [true, true, false, false, true, true] (L2 := [some (.ref a0), some (.int a1), none, none, some (.int 1), some (.int (2 + (x4 - 48)))]) rfl ?_
            exact tfX10_canStand_99  4096 h
          · rw [if_neg c] at h
            refine sn_blk _ kX10_canStand_0_11 (pc' := 99) (L' := [some (.ref a0), some (.int a1), some (.int (x2 - 48)), some (.int (x4 - 48)), some (.int 1), some (.int 2)]) (st' := []) rfl rfl ?_
            refine sn_msk [true, true, false, false, true, true] (L2 := [some (.ref a0), some (.int a1), none, none, some (.int 1), some (.int 2)]) rfl ?_
            exact tfX10_canStand_99  4096 h
        · rw [if_pos c] at h
          refine sn_blk _ kX10_canStand_0_12 (pc' := 79) (L' := [some (.ref a0), some (.int a1), some (.int (x2 - 48)), some (.int (x4 - 48)), none, none]) (st' := [.int 0]) rfl rfl ?_
          cases h
          exact sn_iret (ty := .boolean) dX10_canStand_79 rfl rfl
    · rw [if_pos c] at h
      refine sn_blk _ kX10_canStand_0_13 (pc' := 39) (L' := [some (.ref a0), some (.int a1), some (.int (x2 - 48)), none, none, none]) (st' := [.long 1, .long (Int32.toInt64 (x2 - 48))]) rfl rfl ?_
      refine sn_ldc2 dX10_canStand_39 kcX10_137 ?_
      obtain ⟨x7, H8, hx7, h⟩ := bd2_inv h
      refine sn_calls (av := [.long (Int32.toInt64 (x2 - 48)), .long 1, .long 5]) (st := []) (M2 := mX10_in) dX10_canStand_42 msX10_in mlX10_127 rfl rfl rfl rfl rfl (sX10_in hx7) ?_
      obtain ⟨hb, h⟩ := gp_inv h
      cases h
      exact sn_iret (ty := .boolean) dX10_canStand_45 rfl (nar_bool hb)
  · rw [if_pos c] at h
    refine sn_blk _ kX10_canStand_0_14 (pc' := 15) (L' := [some (.ref a0), some (.int a1), some (.int (x2 - 48)), none, none, none]) (st' := [.ref a0]) rfl rfl ?_
    obtain ⟨x9, hx9, h⟩ := bd_inv h
    refine sn_gA dX10_canStand_15 foX10_7 hx9 ?_
    refine sn_blk _ kX10_canStand_0_15 (pc' := 19) (L' := [some (.ref a0), some (.int a1), some (.int (x2 - 48)), none, none, none]) (st' := [.int a1, .ref x9]) rfl rfl ?_
    obtain ⟨x10, hx10, h⟩ := bd_inv h
    refine sn_iald dX10_canStand_19 hx10 ?_
    refine sn_blk _ kX10_canStand_0_16 (pc' := 22) (L' := [some (.ref a0), some (.int a1), some (.int (x2 - 48)), none, none, none]) (st' := [.int 83, .int x10]) rfl rfl ?_
    refine sn_icmp_ne (tgt := 29) dX10_canStand_22 (by decide) (fun c => ?_) (fun c => ?_)
    · rw [if_neg c] at h
      refine sn_blk _ kX10_canStand_0_17 (pc' := 30) (L' := [some (.ref a0), some (.int a1), some (.int (x2 - 48)), none, none, none]) (st' := [.int 0]) rfl rfl ?_
      cases h
      exact sn_iret (ty := .boolean) dX10_canStand_30 rfl rfl
    · rw [if_pos c] at h
      refine sn_blk _ kX10_canStand_0_18 (pc' := 30) (L' := [some (.ref a0), some (.int a1), some (.int (x2 - 48)), none, none, none]) (st' := [.int 1]) rfl rfl ?_
      cases h
      exact sn_iret (ty := .boolean) dX10_canStand_30 rfl rfl
theorem sX10_canStand {G : GG} {r : Int32} {H' : Hp} {a0 : Nat} {a1 : Int32} {H : Hp} (h : FX10_canStand a0 a1 H = some (r, H')) : SM G mX10_canStand [.ref a0, .int a1] H (some (.int r)) H' := tFX10_canStand h
/-! SquareFoldsModel.fault()I -/
theorem kX10_fault_0_0 : decB cX10_fault 0 [(.iconst 0, .int 0), (.istore_n 1, .null)] = true := by decide +kernel
theorem kX10_fault_2_0 : decB cX10_fault 2 [(.iload_n 1, .null), (.aload_n 0, .null)] = true := by decide +kernel
theorem kX10_fault_2_1 : decB cX10_fault 26 [(.aload_n 0, .null)] = true := by decide +kernel
theorem kX10_fault_2_2 : decB cX10_fault 30 [(.iconst 1, .int 1)] = true := by decide +kernel
theorem kX10_fault_2_3 : decB cX10_fault 34 [(.aload_n 0, .null)] = true := by decide +kernel
theorem kX10_fault_2_4 : decB cX10_fault 38 [(.iconst 2, .int 2), (.iconst 2, .int 2), (.aload_n 0, .null)] = true := by decide +kernel
theorem kX10_fault_2_5 : decB cX10_fault 44 [(.iconst 1, .int 1)] = true := by decide +kernel
theorem kX10_fault_2_6 : decB cX10_fault 46 [(.bipush 48, .int 48), (.isub, .null), (.imul, .null), (.iadd, .null)] = true := by decide +kernel
theorem kX10_fault_2_7 : decB cX10_fault 54 [(.iconst 1, .int 1), (.goto 4, .retAddr 59)] = true := by decide +kernel
theorem kX10_fault_2_8 : decB cX10_fault 10 [(.aload_n 0, .null), (.iload_n 1, .null)] = true := by decide +kernel
theorem kX10_fault_2_9 : decB cX10_fault 20 [(.iinc 1 1, .int 1), (.goto (-21), .retAddr 2)] = true := by decide +kernel
theorem kX10_fault_2_10 : decB cX10_fault 18 [(.iload_n 1, .null)] = true := by decide +kernel
theorem kX10_fault_58_0 : decB cX10_fault 58 [(.iconst 0, .int 0)] = true := by decide +kernel
theorem kX10_fault_59_0 : decB cX10_fault 59 [(.istore_n 1, .null), (.iload_n 1, .null)] = true := by decide +kernel
theorem kX10_fault_59_1 : decB cX10_fault 69 [(.aload_n 0, .null)] = true := by decide +kernel
theorem kX10_fault_59_2 : decB cX10_fault 64 [(.bipush (-9), .int (-9)), (.goto 7, .retAddr 73)] = true := by decide +kernel
theorem dX10_fault_4 : decode cX10_fault 4 = .ok (.getfield 133, 3) := by decide +kernel
theorem dX10_fault_7 : decode cX10_fault 7 = .ok (.if_icmp .ge 19, 3) := by decide +kernel
theorem dX10_fault_12 : decode cX10_fault 12 = .ok (.invokevirtual 139, 3) := by decide +kernel
theorem dX10_fault_15 : decode cX10_fault 15 = .ok (.ifCond .ne 5, 3) := by decide +kernel
theorem dX10_fault_19 : decode cX10_fault 19 = .ok (.ireturn, 1) := by decide +kernel
theorem dX10_fault_27 : decode cX10_fault 27 = .ok (.getfield 133, 3) := by decide +kernel
theorem dX10_fault_31 : decode cX10_fault 31 = .ok (.if_icmp .le 27, 3) := by decide +kernel
theorem dX10_fault_35 : decode cX10_fault 35 = .ok (.getfield 133, 3) := by decide +kernel
theorem dX10_fault_41 : decode cX10_fault 41 = .ok (.getfield 7, 3) := by decide +kernel
theorem dX10_fault_45 : decode cX10_fault 45 = .ok (.iaload, 1) := by decide +kernel
theorem dX10_fault_51 : decode cX10_fault 51 = .ok (.if_icmp .ne 7, 3) := by decide +kernel
theorem dX10_fault_61 : decode cX10_fault 61 = .ok (.ifCond .eq 8, 3) := by decide +kernel
theorem dX10_fault_70 : decode cX10_fault 70 = .ok (.getfield 133, 3) := by decide +kernel
theorem dX10_fault_73 : decode cX10_fault 73 = .ok (.ireturn, 1) := by decide +kernel
def fX10_fault_59  (a0 : Nat) (s0 : Int32) (H : Hp) : Option (Int32 × Hp) :=
  if (s0 = 0 : Prop) then
    bd (gI H a0 9 1) fun x1 =>
    some (x1, H)
  else
    some ((-9), H)
set_option maxHeartbeats 4000000 in
set_option maxRecDepth 100000 in
theorem tfX10_fault_59 {G : GG} {r : Int32} {H' : Hp}   {a0 : Nat} {s0 : Int32} {H : Hp} (h : fX10_fault_59  a0 s0 H = some (r, H')) : Sn G (T0 G (some (.int r)) H') mX10_fault 59 [some (.ref a0), none] [.int s0] H := by
  unfold fX10_fault_59 at h
  refine sn_blk _ kX10_fault_59_0 (pc' := 61) (L' := [some (.ref a0), some (.int s0)]) (st' := [.int s0]) rfl rfl ?_
  refine sn_if_eq (tgt := 69) dX10_fault_61 (by decide) (fun c => ?_) (fun c => ?_)
  · rw [if_pos c] at h
    refine sn_blk _ kX10_fault_59_1 (pc' := 70) (L' := [some (.ref a0), some (.int s0)]) (st' := [.ref a0]) rfl rfl ?_
    obtain ⟨x1, hx1, h⟩ := bd_inv h
    refine sn_gI dX10_fault_70 foX10_133 hx1 ?_
    cases h
    exact sn_iret (ty := .int) dX10_fault_73 rfl rfl
  · rw [if_neg c] at h
    refine sn_blk _ kX10_fault_59_2 (pc' := 73) (L' := [some (.ref a0), some (.int s0)]) (st' := [.int (-9)]) rfl rfl ?_
    cases h
    exact sn_iret (ty := .int) dX10_fault_73 rfl rfl
def fX10_fault_58  (a0 : Nat) (H : Hp) : Option (Int32 × Hp) :=
  fX10_fault_59  a0 0 H
set_option maxHeartbeats 4000000 in
set_option maxRecDepth 100000 in
theorem tfX10_fault_58 {G : GG} {r : Int32} {H' : Hp}   {a0 : Nat} {H : Hp} (h : fX10_fault_58  a0 H = some (r, H')) : Sn G (T0 G (some (.int r)) H') mX10_fault 58 [some (.ref a0), none] [] H := by
  unfold fX10_fault_58 at h
  refine sn_blk _ kX10_fault_58_0 (pc' := 59) (L' := [some (.ref a0), none]) (st' := [.int 0]) rfl rfl ?_
  exact tfX10_fault_59  h
def bX10_fault_2 (K2 : Nat → Int32 → Hp → Option (Int32 × Hp)) (a0 : Nat) (a1 : Int32) (H : Hp) : Option (Int32 × Hp) :=
  bd (gI H a0 9 1) fun x1 =>
  if (x1 ≤ a1 : Prop) then
    bd (gI H a0 9 1) fun x2 =>
    if (x2 ≤ 1 : Prop) then
      fX10_fault_58  a0 H
    else
      bd (gI H a0 9 1) fun x3 =>
      bd (gA H a0 9 0) fun x4 =>
      bd (aI H x4 0 1) fun x5 =>
      if (x3 = (2 + (2 * (x5 - 48))) : Prop) then
        fX10_fault_59  a0 1 H
      else
        fX10_fault_58  a0 H
  else
    gp (isO H a0 9 = true) (
      bd2 (FX10_canStand a0 a1 H) fun x6 H7 =>
      if (x6 = 0 : Prop) then
        some (a1, H7)
      else
        K2 a0 (a1 + 1) H7
      )
set_option maxHeartbeats 4000000 in
set_option maxRecDepth 100000 in
theorem tbX10_fault_2 {G : GG} {r : Int32} {H' : Hp} {K2 : Nat → Int32 → Hp → Option (Int32 × Hp)} (hK2 : ∀ (a0 : Nat) (a1 : Int32) (H : Hp), K2 a0 a1 H = some (r, H') → Sn G (T0 G (some (.int r)) H') mX10_fault 2 [some (.ref a0), some (.int a1)] [] H) {a0 : Nat} {a1 : Int32} {H : Hp} (h : bX10_fault_2 K2 a0 a1 H = some (r, H')) : Sn G (T0 G (some (.int r)) H') mX10_fault 2 [some (.ref a0), some (.int a1)] [] H := by
  unfold bX10_fault_2 at h
  refine sn_blk _ kX10_fault_2_0 (pc' := 4) (L' := [some (.ref a0), some (.int a1)]) (st' := [.ref a0, .int a1]) rfl rfl ?_
  obtain ⟨x1, hx1, h⟩ := bd_inv h
  refine sn_gI dX10_fault_4 foX10_133 hx1 ?_
  refine sn_icmp_ge (tgt := 26) dX10_fault_7 (by decide) (fun c => ?_) (fun c => ?_)
  · rw [if_pos c] at h
    refine sn_blk _ kX10_fault_2_1 (pc' := 27) (L' := [some (.ref a0), some (.int a1)]) (st' := [.ref a0]) rfl rfl ?_
    obtain ⟨x2, hx2, h⟩ := bd_inv h
    refine sn_gI dX10_fault_27 foX10_133 hx2 ?_
    refine sn_blk _ kX10_fault_2_2 (pc' := 31) (L' := [some (.ref a0), some (.int a1)]) (st' := [.int 1, .int x2]) rfl rfl ?_
    refine sn_icmp_le (tgt := 58) dX10_fault_31 (by decide) (fun c => ?_) (fun c => ?_)
    · rw [if_pos c] at h
      refine sn_msk [true, false] (L2 := [some (.ref a0), none]) rfl ?_
      exact tfX10_fault_58  h
    · rw [if_neg c] at h
      refine sn_blk _ kX10_fault_2_3 (pc' := 35) (L' := [some (.ref a0), some (.int a1)]) (st' := [.ref a0]) rfl rfl ?_
      obtain ⟨x3, hx3, h⟩ := bd_inv h
      refine sn_gI dX10_fault_35 foX10_133 hx3 ?_
      refine sn_blk _ kX10_fault_2_4 (pc' := 41) (L' := [some (.ref a0), some (.int a1)]) (st' := [.ref a0, .int 2, .int 2, .int x3]) rfl rfl ?_
      obtain ⟨x4, hx4, h⟩ := bd_inv h
      refine sn_gA dX10_fault_41 foX10_7 hx4 ?_
      refine sn_blk _ kX10_fault_2_5 (pc' := 45) (L' := [some (.ref a0), some (.int a1)]) (st' := [.int 1, .ref x4, .int 2, .int 2, .int x3]) rfl rfl ?_
      obtain ⟨x5, hx5, h⟩ := bd_inv h
      refine sn_iald dX10_fault_45 hx5 ?_
      refine sn_blk _ kX10_fault_2_6 (pc' := 51) (L' := [some (.ref a0), some (.int a1)]) (st' := [.int (2 + (2 * (x5 - 48))), .int x3]) rfl rfl ?_
      refine sn_icmp_ne (tgt := 58) dX10_fault_51 (by decide) (fun c => ?_) (fun c => ?_)
      · rw [if_neg c] at h
        refine sn_msk [true, false] (L2 := [some (.ref a0), none]) rfl ?_
        exact tfX10_fault_58  h
      · rw [if_pos c] at h
        refine sn_blk _ kX10_fault_2_7 (pc' := 59) (L' := [some (.ref a0), some (.int a1)]) (st' := [.int 1]) rfl rfl ?_
        refine sn_msk [true, false] (L2 := [some (.ref a0), none]) rfl ?_
        exact tfX10_fault_59  h
  · rw [if_neg c] at h
    refine sn_blk _ kX10_fault_2_8 (pc' := 12) (L' := [some (.ref a0), some (.int a1)]) (st' := [.int a1, .ref a0]) rfl rfl ?_
    obtain ⟨ho, h⟩ := gp_inv h
    obtain ⟨fs, ho⟩ := isO_inv ho
    obtain ⟨x6, H7, hx6, h⟩ := bd2_inv h
    refine sn_callv (av := [.int a1]) (st := []) (M2 := mX10_canStand) dX10_fault_12 msX10_canStand mlX10_139 rfl rfl rfl rfl rfl ho (sX10_canStand hx6) ?_
    refine sn_if_ne (tgt := 20) dX10_fault_15 (by decide) (fun c => ?_) (fun c => ?_)
    · rw [if_neg c] at h
      refine sn_blk _ kX10_fault_2_9 (pc' := 2) (L' := [some (.ref a0), some (.int (a1 + 1))]) (st' := []) rfl rfl ?_
      exact hK2 _ _ _ h
    · rw [if_pos c] at h
      refine sn_blk _ kX10_fault_2_10 (pc' := 19) (L' := [some (.ref a0), some (.int a1)]) (st' := [.int a1]) rfl rfl ?_
      cases h
      exact sn_iret (ty := .int) dX10_fault_19 rfl rfl
def fX10_fault_2  : Nat → Nat → Int32 → Hp → Option (Int32 × Hp)
  | 0, _, _, _ => none
  | d + 1, a0, a1, H => bX10_fault_2 (fX10_fault_2  d) a0 a1 H
theorem tfX10_fault_2 {G : GG} {r : Int32} {H' : Hp}   : ∀ (d : Nat) {a0 : Nat} {a1 : Int32} {H : Hp}, fX10_fault_2  d a0 a1 H = some (r, H') → Sn G (T0 G (some (.int r)) H') mX10_fault 2 [some (.ref a0), some (.int a1)] [] H := by
  intro d
  induction d with
  | zero => intro a0 a1 H h; cases h
  | succ d ih => intro a0 a1 H h; exact tbX10_fault_2 (fun a0 a1 H h => ih h) h
def FX10_fault  (a0 : Nat) (H : Hp) : Option (Int32 × Hp) :=
  fX10_fault_2  4096 a0 0 H
set_option maxHeartbeats 4000000 in
set_option maxRecDepth 100000 in
theorem tFX10_fault {G : GG} {r : Int32} {H' : Hp}   {a0 : Nat} {H : Hp} (h : FX10_fault  a0 H = some (r, H')) : Sn G (T0 G (some (.int r)) H') mX10_fault 0 [some (.ref a0), none] [] H := by
  unfold FX10_fault at h
  refine sn_blk _ kX10_fault_0_0 (pc' := 2) (L' := [some (.ref a0), some (.int 0)]) (st' := []) rfl rfl ?_
  exact tfX10_fault_2  4096 h
theorem sX10_fault {G : GG} {r : Int32} {H' : Hp} {a0 : Nat} {H : Hp} (h : FX10_fault a0 H = some (r, H')) : SM G mX10_fault [.ref a0] H (some (.int r)) H' := tFX10_fault h
/-! SquareFoldsModel.has(II)Z -/
theorem kX10_has_0_0 : decB cX10_has 0 [(.iload_n 0, .null), (.iload_n 1, .null), (.ishr, .null), (.iconst 1, .int 1), (.iand, .null), (.iconst 1, .int 1)] = true := by decide +kernel
theorem kX10_has_0_1 : decB cX10_has 13 [(.iconst 0, .int 0)] = true := by decide +kernel
theorem kX10_has_0_2 : decB cX10_has 9 [(.iconst 1, .int 1), (.goto 4, .retAddr 14)] = true := by decide +kernel
theorem dX10_has_6 : decode cX10_has 6 = .ok (.if_icmp .ne 7, 3) := by decide +kernel
theorem dX10_has_14 : decode cX10_has 14 = .ok (.ireturn, 1) := by decide +kernel
def FX10_has  (a0 : Int32) (a1 : Int32) (H : Hp) : Option (Int32 × Hp) :=
  if (((a0 >>> (a1 &&& 31)) &&& 1) = 1 : Prop) then
    some (1, H)
  else
    some (0, H)
set_option maxHeartbeats 4000000 in
set_option maxRecDepth 100000 in
theorem tFX10_has {G : GG} {r : Int32} {H' : Hp}   {a0 : Int32} {a1 : Int32} {H : Hp} (h : FX10_has  a0 a1 H = some (r, H')) : Sn G (T0 G (some (.int r)) H') mX10_has 0 [some (.int a0), some (.int a1)] [] H := by
  unfold FX10_has at h
  refine sn_blk _ kX10_has_0_0 (pc' := 6) (L' := [some (.int a0), some (.int a1)]) (st' := [.int 1, .int ((a0 >>> (a1 &&& 31)) &&& 1)]) rfl rfl ?_
  refine sn_icmp_ne (tgt := 13) dX10_has_6 (by decide) (fun c => ?_) (fun c => ?_)
  · rw [if_neg c] at h
    refine sn_blk _ kX10_has_0_1 (pc' := 14) (L' := [some (.int a0), some (.int a1)]) (st' := [.int 0]) rfl rfl ?_
    cases h
    exact sn_iret (ty := .boolean) dX10_has_14 rfl rfl
  · rw [if_pos c] at h
    refine sn_blk _ kX10_has_0_2 (pc' := 14) (L' := [some (.int a0), some (.int a1)]) (st' := [.int 1]) rfl rfl ?_
    cases h
    exact sn_iret (ty := .boolean) dX10_has_14 rfl rfl
theorem sX10_has {G : GG} {r : Int32} {H' : Hp} {a0 : Int32} {a1 : Int32} {H : Hp} (h : FX10_has a0 a1 H = some (r, H')) : SM G mX10_has [.int a0, .int a1] H (some (.int r)) H' := tFX10_has h
/-! SquareFoldsModel.right([II)I -/
theorem kX10_right_0_0 : decB cX10_right 0 [(.aload_n 0, .null), (.iconst 1, .int 1), (.iload_n 1, .null), (.iadd, .null)] = true := by decide +kernel
theorem dX10_right_4 : decode cX10_right 4 = .ok (.iaload, 1) := by decide +kernel
theorem dX10_right_5 : decode cX10_right 5 = .ok (.ireturn, 1) := by decide +kernel
def FX10_right  (a0 : Nat) (a1 : Int32) (H : Hp) : Option (Int32 × Hp) :=
  bd (aI H a0 0 (1 + a1)) fun x1 =>
  some (x1, H)
set_option maxHeartbeats 4000000 in
set_option maxRecDepth 100000 in
theorem tFX10_right {G : GG} {r : Int32} {H' : Hp}   {a0 : Nat} {a1 : Int32} {H : Hp} (h : FX10_right  a0 a1 H = some (r, H')) : Sn G (T0 G (some (.int r)) H') mX10_right 0 [some (.ref a0), some (.int a1)] [] H := by
  unfold FX10_right at h
  refine sn_blk _ kX10_right_0_0 (pc' := 4) (L' := [some (.ref a0), some (.int a1)]) (st' := [.int (1 + a1), .ref a0]) rfl rfl ?_
  obtain ⟨x1, hx1, h⟩ := bd_inv h
  refine sn_iald dX10_right_4 hx1 ?_
  cases h
  exact sn_iret (ty := .int) dX10_right_5 rfl rfl
theorem sX10_right {G : GG} {r : Int32} {H' : Hp} {a0 : Nat} {a1 : Int32} {H : Hp} (h : FX10_right a0 a1 H = some (r, H')) : SM G mX10_right [.ref a0, .int a1] H (some (.int r)) H' := tFX10_right h
/-! SquareFoldsModel.up([II)I -/
theorem kX10_up_0_0 : decB cX10_up 0 [(.aload_n 0, .null), (.bipush 6, .int 6), (.iload_n 1, .null), (.iadd, .null)] = true := by decide +kernel
theorem dX10_up_5 : decode cX10_up 5 = .ok (.iaload, 1) := by decide +kernel
theorem dX10_up_6 : decode cX10_up 6 = .ok (.ireturn, 1) := by decide +kernel
def FX10_up  (a0 : Nat) (a1 : Int32) (H : Hp) : Option (Int32 × Hp) :=
  bd (aI H a0 0 (6 + a1)) fun x1 =>
  some (x1, H)
set_option maxHeartbeats 4000000 in
set_option maxRecDepth 100000 in
theorem tFX10_up {G : GG} {r : Int32} {H' : Hp}   {a0 : Nat} {a1 : Int32} {H : Hp} (h : FX10_up  a0 a1 H = some (r, H')) : Sn G (T0 G (some (.int r)) H') mX10_up 0 [some (.ref a0), some (.int a1)] [] H := by
  unfold FX10_up at h
  refine sn_blk _ kX10_up_0_0 (pc' := 5) (L' := [some (.ref a0), some (.int a1)]) (st' := [.int (6 + a1), .ref a0]) rfl rfl ?_
  obtain ⟨x1, hx1, h⟩ := bd_inv h
  refine sn_iald dX10_up_5 hx1 ?_
  cases h
  exact sn_iret (ty := .int) dX10_up_6 rfl rfl
theorem sX10_up {G : GG} {r : Int32} {H' : Hp} {a0 : Nat} {a1 : Int32} {H : Hp} (h : FX10_up a0 a1 H = some (r, H')) : SM G mX10_up [.ref a0, .int a1] H (some (.int r)) H' := tFX10_up h
/-! SquareFoldsModel.pieceOf([II)I -/
theorem kX10_pieceOf_0_0 : decB cX10_pieceOf 0 [(.iconst 1, .int 1), (.iload_n 1, .null), (.ishl, .null), (.istore_n 2, .null), (.iconst 0, .int 0), (.istore_n 3, .null)] = true := by decide +kernel
theorem kX10_pieceOf_6_0 : decB cX10_pieceOf 6 [(.iload_n 3, .null), (.iconst 5, .int 5)] = true := by decide +kernel
theorem kX10_pieceOf_6_1 : decB cX10_pieceOf 67 [(.iload_n 2, .null)] = true := by decide +kernel
theorem kX10_pieceOf_6_2 : decB cX10_pieceOf 11 [(.iconst 0, .int 0), (.istore 4, .null)] = true := by decide +kernel
theorem kX10_pieceOf_14_0 : decB cX10_pieceOf 14 [(.iload 4, .null), (.aload_n 0, .null), (.iconst 0, .int 0)] = true := by decide +kernel
theorem kX10_pieceOf_14_1 : decB cX10_pieceOf 61 [(.iinc 3 1, .int 1), (.goto (-58), .retAddr 6)] = true := by decide +kernel
theorem kX10_pieceOf_14_2 : decB cX10_pieceOf 22 [(.iload_n 2, .null), (.iload_n 2, .null), (.iload 4, .null)] = true := by decide +kernel
theorem kX10_pieceOf_14_3 : decB cX10_pieceOf 52 [(.iconst 0, .int 0), (.ior, .null), (.istore_n 2, .null), (.iinc 4 1, .int 1), (.goto (-44), .retAddr 14)] = true := by decide +kernel
theorem kX10_pieceOf_14_4 : decB cX10_pieceOf 32 [(.iconst 1, .int 1), (.aload_n 0, .null), (.iload 4, .null)] = true := by decide +kernel
theorem kX10_pieceOf_14_5 : decB cX10_pieceOf 39 [(.ishl, .null), (.iconst 1, .int 1), (.aload_n 0, .null), (.iload 4, .null)] = true := by decide +kernel
theorem kX10_pieceOf_14_6 : decB cX10_pieceOf 47 [(.ishl, .null), (.ior, .null), (.goto 4, .retAddr 53), (.ior, .null), (.istore_n 2, .null), (.iinc 4 1, .int 1), (.goto (-44), .retAddr 14)] = true := by decide +kernel
theorem dX10_pieceOf_8 : decode cX10_pieceOf 8 = .ok (.if_icmp .ge 59, 3) := by decide +kernel
theorem dX10_pieceOf_18 : decode cX10_pieceOf 18 = .ok (.iaload, 1) := by decide +kernel
theorem dX10_pieceOf_19 : decode cX10_pieceOf 19 = .ok (.if_icmp .ge 42, 3) := by decide +kernel
theorem dX10_pieceOf_26 : decode cX10_pieceOf 26 = .ok (.invokestatic 80, 3) := by decide +kernel
theorem dX10_pieceOf_29 : decode cX10_pieceOf 29 = .ok (.ifCond .eq 23, 3) := by decide +kernel
theorem dX10_pieceOf_36 : decode cX10_pieceOf 36 = .ok (.invokestatic 64, 3) := by decide +kernel
theorem dX10_pieceOf_44 : decode cX10_pieceOf 44 = .ok (.invokestatic 71, 3) := by decide +kernel
theorem dX10_pieceOf_68 : decode cX10_pieceOf 68 = .ok (.ireturn, 1) := by decide +kernel
def bX10_pieceOf_14 (K6 : Nat → Int32 → Int32 → Hp → Option (Int32 × Hp)) (K14 : Nat → Int32 → Int32 → Int32 → Hp → Option (Int32 × Hp)) (a0 : Nat) (a2 : Int32) (a3 : Int32) (a4 : Int32) (H : Hp) : Option (Int32 × Hp) :=
  bd (aI H a0 0 0) fun x1 =>
  if (x1 ≤ a4 : Prop) then
    K6 a0 a2 (a3 + 1) H
  else
    bd2 (FX10_has a2 a4 H) fun x2 H3 =>
    if (x2 = 0 : Prop) then
      K14 a0 (a2 ||| 0) a3 (a4 + 1) H3
    else
      bd2 (FX10_right a0 a4 H3) fun x4 H5 =>
      bd2 (FX10_up a0 a4 H5) fun x6 H7 =>
      K14 a0 (a2 ||| ((1 <<< (x4 &&& 31)) ||| (1 <<< (x6 &&& 31)))) a3 (a4 + 1) H7
set_option maxHeartbeats 4000000 in
set_option maxRecDepth 100000 in
theorem tbX10_pieceOf_14 {G : GG} {r : Int32} {H' : Hp} {K6 : Nat → Int32 → Int32 → Hp → Option (Int32 × Hp)} {K14 : Nat → Int32 → Int32 → Int32 → Hp → Option (Int32 × Hp)} (hK6 : ∀ (a0 : Nat) (a2 : Int32) (a3 : Int32) (H : Hp), K6 a0 a2 a3 H = some (r, H') → Sn G (T0 G (some (.int r)) H') mX10_pieceOf 6 [some (.ref a0), none, some (.int a2), some (.int a3), none] [] H) (hK14 : ∀ (a0 : Nat) (a2 : Int32) (a3 : Int32) (a4 : Int32) (H : Hp), K14 a0 a2 a3 a4 H = some (r, H') → Sn G (T0 G (some (.int r)) H') mX10_pieceOf 14 [some (.ref a0), none, some (.int a2), some (.int a3), some (.int a4)] [] H) {a0 : Nat} {a2 : Int32} {a3 : Int32} {a4 : Int32} {H : Hp} (h : bX10_pieceOf_14 K6 K14 a0 a2 a3 a4 H = some (r, H')) : Sn G (T0 G (some (.int r)) H') mX10_pieceOf 14 [some (.ref a0), none, some (.int a2), some (.int a3), some (.int a4)] [] H := by
  unfold bX10_pieceOf_14 at h
  refine sn_blk _ kX10_pieceOf_14_0 (pc' := 18) (L' := [some (.ref a0), none, some (.int a2), some (.int a3), some (.int a4)]) (st' := [.int 0, .ref a0, .int a4]) rfl rfl ?_
  obtain ⟨x1, hx1, h⟩ := bd_inv h
  refine sn_iald dX10_pieceOf_18 hx1 ?_
  refine sn_icmp_ge (tgt := 61) dX10_pieceOf_19 (by decide) (fun c => ?_) (fun c => ?_)
  · rw [if_pos c] at h
    refine sn_blk _ kX10_pieceOf_14_1 (pc' := 6) (L' := [some (.ref a0), none, some (.int a2), some (.int (a3 + 1)), some (.int a4)]) (st' := []) rfl rfl ?_
    refine sn_msk [true, true, true, true, false] (L2 := [some (.ref a0), none, some (.int a2), some (.int (a3 + 1)), none]) rfl ?_
    exact hK6 _ _ _ _ h
  · rw [if_neg c] at h
    refine sn_blk _ kX10_pieceOf_14_2 (pc' := 26) (L' := [some (.ref a0), none, some (.int a2), some (.int a3), some (.int a4)]) (st' := [.int a4, .int a2, .int a2]) rfl rfl ?_
    obtain ⟨x2, H3, hx2, h⟩ := bd2_inv h
    refine sn_calls (av := [.int a2, .int a4]) (st := [.int a2]) (M2 := mX10_has) dX10_pieceOf_26 msX10_has mlX10_80 rfl rfl rfl rfl rfl (sX10_has hx2) ?_
    refine sn_if_eq (tgt := 52) dX10_pieceOf_29 (by decide) (fun c => ?_) (fun c => ?_)
    · rw [if_pos c] at h
      refine sn_blk _ kX10_pieceOf_14_3 (pc' := 14) (L' := [some (.ref a0), none, some (.int (a2 ||| 0)), some (.int a3), some (.int (a4 + 1))]) (st' := []) rfl rfl ?_
      exact hK14 _ _ _ _ _ h
    · rw [if_neg c] at h
      refine sn_blk _ kX10_pieceOf_14_4 (pc' := 36) (L' := [some (.ref a0), none, some (.int a2), some (.int a3), some (.int a4)]) (st' := [.int a4, .ref a0, .int 1, .int a2]) rfl rfl ?_
      obtain ⟨x4, H5, hx4, h⟩ := bd2_inv h
      refine sn_calls (av := [.ref a0, .int a4]) (st := [.int 1, .int a2]) (M2 := mX10_right) dX10_pieceOf_36 msX10_right mlX10_64 rfl rfl rfl rfl rfl (sX10_right hx4) ?_
      refine sn_blk _ kX10_pieceOf_14_5 (pc' := 44) (L' := [some (.ref a0), none, some (.int a2), some (.int a3), some (.int a4)]) (st' := [.int a4, .ref a0, .int 1, .int (1 <<< (x4 &&& 31)), .int a2]) rfl rfl ?_
      obtain ⟨x6, H7, hx6, h⟩ := bd2_inv h
      refine sn_calls (av := [.ref a0, .int a4]) (st := [.int 1, .int (1 <<< (x4 &&& 31)), .int a2]) (M2 := mX10_up) dX10_pieceOf_44 msX10_up mlX10_71 rfl rfl rfl rfl rfl (sX10_up hx6) ?_
      refine sn_blk _ kX10_pieceOf_14_6 (pc' := 14) (L' := [some (.ref a0), none, some (.int (a2 ||| ((1 <<< (x4 &&& 31)) ||| (1 <<< (x6 &&& 31))))), some (.int a3), some (.int (a4 + 1))]) (st' := []) rfl rfl ?_
      exact hK14 _ _ _ _ _ h
def fX10_pieceOf_14 (K6 : Nat → Int32 → Int32 → Hp → Option (Int32 × Hp)) : Nat → Nat → Int32 → Int32 → Int32 → Hp → Option (Int32 × Hp)
  | 0, _, _, _, _, _ => none
  | d + 1, a0, a2, a3, a4, H => bX10_pieceOf_14 K6 (fX10_pieceOf_14 K6 d) a0 a2 a3 a4 H
theorem tfX10_pieceOf_14 {G : GG} {r : Int32} {H' : Hp} {K6 : Nat → Int32 → Int32 → Hp → Option (Int32 × Hp)} (hK6 : ∀ (a0 : Nat) (a2 : Int32) (a3 : Int32) (H : Hp), K6 a0 a2 a3 H = some (r, H') → Sn G (T0 G (some (.int r)) H') mX10_pieceOf 6 [some (.ref a0), none, some (.int a2), some (.int a3), none] [] H) : ∀ (d : Nat) {a0 : Nat} {a2 : Int32} {a3 : Int32} {a4 : Int32} {H : Hp}, fX10_pieceOf_14 K6 d a0 a2 a3 a4 H = some (r, H') → Sn G (T0 G (some (.int r)) H') mX10_pieceOf 14 [some (.ref a0), none, some (.int a2), some (.int a3), some (.int a4)] [] H := by
  intro d
  induction d with
  | zero => intro a0 a2 a3 a4 H h; cases h
  | succ d ih => intro a0 a2 a3 a4 H h; exact tbX10_pieceOf_14 hK6 (fun a0 a2 a3 a4 H h => ih h) h
def bX10_pieceOf_6 (K6 : Nat → Int32 → Int32 → Hp → Option (Int32 × Hp)) (a0 : Nat) (a2 : Int32) (a3 : Int32) (H : Hp) : Option (Int32 × Hp) :=
  if (5 ≤ a3 : Prop) then
    some (a2, H)
  else
    fX10_pieceOf_14 K6 4096 a0 a2 a3 0 H
set_option maxHeartbeats 4000000 in
set_option maxRecDepth 100000 in
theorem tbX10_pieceOf_6 {G : GG} {r : Int32} {H' : Hp} {K6 : Nat → Int32 → Int32 → Hp → Option (Int32 × Hp)} (hK6 : ∀ (a0 : Nat) (a2 : Int32) (a3 : Int32) (H : Hp), K6 a0 a2 a3 H = some (r, H') → Sn G (T0 G (some (.int r)) H') mX10_pieceOf 6 [some (.ref a0), none, some (.int a2), some (.int a3), none] [] H) {a0 : Nat} {a2 : Int32} {a3 : Int32} {H : Hp} (h : bX10_pieceOf_6 K6 a0 a2 a3 H = some (r, H')) : Sn G (T0 G (some (.int r)) H') mX10_pieceOf 6 [some (.ref a0), none, some (.int a2), some (.int a3), none] [] H := by
  unfold bX10_pieceOf_6 at h
  refine sn_blk _ kX10_pieceOf_6_0 (pc' := 8) (L' := [some (.ref a0), none, some (.int a2), some (.int a3), none]) (st' := [.int 5, .int a3]) rfl rfl ?_
  refine sn_icmp_ge (tgt := 67) dX10_pieceOf_8 (by decide) (fun c => ?_) (fun c => ?_)
  · rw [if_pos c] at h
    refine sn_blk _ kX10_pieceOf_6_1 (pc' := 68) (L' := [some (.ref a0), none, some (.int a2), some (.int a3), none]) (st' := [.int a2]) rfl rfl ?_
    cases h
    exact sn_iret (ty := .int) dX10_pieceOf_68 rfl rfl
  · rw [if_neg c] at h
    refine sn_blk _ kX10_pieceOf_6_2 (pc' := 14) (L' := [some (.ref a0), none, some (.int a2), some (.int a3), some (.int 0)]) (st' := []) rfl rfl ?_
    exact tfX10_pieceOf_14 hK6 4096 h
def fX10_pieceOf_6  : Nat → Nat → Int32 → Int32 → Hp → Option (Int32 × Hp)
  | 0, _, _, _, _ => none
  | d + 1, a0, a2, a3, H => bX10_pieceOf_6 (fX10_pieceOf_6  d) a0 a2 a3 H
theorem tfX10_pieceOf_6 {G : GG} {r : Int32} {H' : Hp}   : ∀ (d : Nat) {a0 : Nat} {a2 : Int32} {a3 : Int32} {H : Hp}, fX10_pieceOf_6  d a0 a2 a3 H = some (r, H') → Sn G (T0 G (some (.int r)) H') mX10_pieceOf 6 [some (.ref a0), none, some (.int a2), some (.int a3), none] [] H := by
  intro d
  induction d with
  | zero => intro a0 a2 a3 H h; cases h
  | succ d ih => intro a0 a2 a3 H h; exact tbX10_pieceOf_6 (fun a0 a2 a3 H h => ih h) h
def FX10_pieceOf  (a0 : Nat) (a1 : Int32) (H : Hp) : Option (Int32 × Hp) :=
  fX10_pieceOf_6  4096 a0 (1 <<< (a1 &&& 31)) 0 H
set_option maxHeartbeats 4000000 in
set_option maxRecDepth 100000 in
theorem tFX10_pieceOf {G : GG} {r : Int32} {H' : Hp}   {a0 : Nat} {a1 : Int32} {H : Hp} (h : FX10_pieceOf  a0 a1 H = some (r, H')) : Sn G (T0 G (some (.int r)) H') mX10_pieceOf 0 [some (.ref a0), some (.int a1), none, none, none] [] H := by
  unfold FX10_pieceOf at h
  refine sn_blk _ kX10_pieceOf_0_0 (pc' := 6) (L' := [some (.ref a0), some (.int a1), some (.int (1 <<< (a1 &&& 31))), some (.int 0), none]) (st' := []) rfl rfl ?_
  refine sn_msk [true, false, true, true, true] (L2 := [some (.ref a0), none, some (.int (1 <<< (a1 &&& 31))), some (.int 0), none]) rfl ?_
  exact tfX10_pieceOf_6  4096 h
theorem sX10_pieceOf {G : GG} {r : Int32} {H' : Hp} {a0 : Nat} {a1 : Int32} {H : Hp} (h : FX10_pieceOf a0 a1 H = some (r, H')) : SM G mX10_pieceOf [.ref a0, .int a1] H (some (.int r)) H' := tFX10_pieceOf h
/-! SquareFoldsModel.isLeast(II)Z -/
theorem kX10_isLeast_0_0 : decB cX10_isLeast 0 [(.iload_n 0, .null), (.iconst 1, .int 1), (.iload_n 1, .null), (.ishl, .null), (.iconst 1, .int 1), (.isub, .null), (.iand, .null)] = true := by decide +kernel
theorem kX10_isLeast_0_1 : decB cX10_isLeast 14 [(.iconst 0, .int 0)] = true := by decide +kernel
theorem kX10_isLeast_0_2 : decB cX10_isLeast 10 [(.iconst 1, .int 1), (.goto 4, .retAddr 15)] = true := by decide +kernel
theorem dX10_isLeast_7 : decode cX10_isLeast 7 = .ok (.ifCond .ne 7, 3) := by decide +kernel
theorem dX10_isLeast_15 : decode cX10_isLeast 15 = .ok (.ireturn, 1) := by decide +kernel
def FX10_isLeast  (a0 : Int32) (a1 : Int32) (H : Hp) : Option (Int32 × Hp) :=
  if ((a0 &&& ((1 <<< (a1 &&& 31)) - 1)) = 0 : Prop) then
    some (1, H)
  else
    some (0, H)
set_option maxHeartbeats 4000000 in
set_option maxRecDepth 100000 in
theorem tFX10_isLeast {G : GG} {r : Int32} {H' : Hp}   {a0 : Int32} {a1 : Int32} {H : Hp} (h : FX10_isLeast  a0 a1 H = some (r, H')) : Sn G (T0 G (some (.int r)) H') mX10_isLeast 0 [some (.int a0), some (.int a1)] [] H := by
  unfold FX10_isLeast at h
  refine sn_blk _ kX10_isLeast_0_0 (pc' := 7) (L' := [some (.int a0), some (.int a1)]) (st' := [.int (a0 &&& ((1 <<< (a1 &&& 31)) - 1))]) rfl rfl ?_
  refine sn_if_ne (tgt := 14) dX10_isLeast_7 (by decide) (fun c => ?_) (fun c => ?_)
  · rw [if_neg c] at h
    refine sn_blk _ kX10_isLeast_0_1 (pc' := 15) (L' := [some (.int a0), some (.int a1)]) (st' := [.int 0]) rfl rfl ?_
    cases h
    exact sn_iret (ty := .boolean) dX10_isLeast_15 rfl rfl
  · rw [if_pos c] at h
    refine sn_blk _ kX10_isLeast_0_2 (pc' := 15) (L' := [some (.int a0), some (.int a1)]) (st' := [.int 1]) rfl rfl ?_
    cases h
    exact sn_iret (ty := .boolean) dX10_isLeast_15 rfl rfl
theorem sX10_isLeast {G : GG} {r : Int32} {H' : Hp} {a0 : Int32} {a1 : Int32} {H : Hp} (h : FX10_isLeast a0 a1 H = some (r, H')) : SM G mX10_isLeast [.int a0, .int a1] H (some (.int r)) H' := tFX10_isLeast h
/-! SquareFoldsModel.pieces([I)I -/
theorem kX10_pieces_0_0 : decB cX10_pieces 0 [(.iconst 0, .int 0), (.istore_n 1, .null), (.iconst 0, .int 0), (.istore_n 2, .null)] = true := by decide +kernel
theorem kX10_pieces_4_0 : decB cX10_pieces 4 [(.iload_n 2, .null), (.aload_n 0, .null), (.iconst 0, .int 0)] = true := by decide +kernel
theorem kX10_pieces_4_1 : decB cX10_pieces 37 [(.iload_n 1, .null)] = true := by decide +kernel
theorem kX10_pieces_4_2 : decB cX10_pieces 11 [(.iload_n 1, .null), (.aload_n 0, .null), (.iload_n 2, .null)] = true := by decide +kernel
theorem kX10_pieces_4_3 : decB cX10_pieces 17 [(.iload_n 2, .null)] = true := by decide +kernel
theorem kX10_pieces_4_4 : decB cX10_pieces 28 [(.iconst 0, .int 0), (.iadd, .null), (.istore_n 1, .null), (.iinc 2 1, .int 1), (.goto (-30), .retAddr 4)] = true := by decide +kernel
theorem kX10_pieces_4_5 : decB cX10_pieces 24 [(.iconst 1, .int 1), (.goto 4, .retAddr 29), (.iadd, .null), (.istore_n 1, .null), (.iinc 2 1, .int 1), (.goto (-30), .retAddr 4)] = true := by decide +kernel
theorem dX10_pieces_7 : decode cX10_pieces 7 = .ok (.iaload, 1) := by decide +kernel
theorem dX10_pieces_8 : decode cX10_pieces 8 = .ok (.if_icmp .ge 29, 3) := by decide +kernel
theorem dX10_pieces_14 : decode cX10_pieces 14 = .ok (.invokestatic 91, 3) := by decide +kernel
theorem dX10_pieces_18 : decode cX10_pieces 18 = .ok (.invokestatic 94, 3) := by decide +kernel
theorem dX10_pieces_21 : decode cX10_pieces 21 = .ok (.ifCond .eq 7, 3) := by decide +kernel
theorem dX10_pieces_38 : decode cX10_pieces 38 = .ok (.ireturn, 1) := by decide +kernel
def bX10_pieces_4 (K4 : Nat → Int32 → Int32 → Hp → Option (Int32 × Hp)) (a0 : Nat) (a1 : Int32) (a2 : Int32) (H : Hp) : Option (Int32 × Hp) :=
  bd (aI H a0 0 0) fun x1 =>
  if (x1 ≤ a2 : Prop) then
    some (a1, H)
  else
    bd2 (FX10_pieceOf a0 a2 H) fun x2 H3 =>
    bd2 (FX10_isLeast x2 a2 H3) fun x4 H5 =>
    if (x4 = 0 : Prop) then
      K4 a0 (a1 + 0) (a2 + 1) H5
    else
      K4 a0 (a1 + 1) (a2 + 1) H5
set_option maxHeartbeats 4000000 in
set_option maxRecDepth 100000 in
theorem tbX10_pieces_4 {G : GG} {r : Int32} {H' : Hp} {K4 : Nat → Int32 → Int32 → Hp → Option (Int32 × Hp)} (hK4 : ∀ (a0 : Nat) (a1 : Int32) (a2 : Int32) (H : Hp), K4 a0 a1 a2 H = some (r, H') → Sn G (T0 G (some (.int r)) H') mX10_pieces 4 [some (.ref a0), some (.int a1), some (.int a2)] [] H) {a0 : Nat} {a1 : Int32} {a2 : Int32} {H : Hp} (h : bX10_pieces_4 K4 a0 a1 a2 H = some (r, H')) : Sn G (T0 G (some (.int r)) H') mX10_pieces 4 [some (.ref a0), some (.int a1), some (.int a2)] [] H := by
  unfold bX10_pieces_4 at h
  refine sn_blk _ kX10_pieces_4_0 (pc' := 7) (L' := [some (.ref a0), some (.int a1), some (.int a2)]) (st' := [.int 0, .ref a0, .int a2]) rfl rfl ?_
  obtain ⟨x1, hx1, h⟩ := bd_inv h
  refine sn_iald dX10_pieces_7 hx1 ?_
  refine sn_icmp_ge (tgt := 37) dX10_pieces_8 (by decide) (fun c => ?_) (fun c => ?_)
  · rw [if_pos c] at h
    refine sn_blk _ kX10_pieces_4_1 (pc' := 38) (L' := [some (.ref a0), some (.int a1), some (.int a2)]) (st' := [.int a1]) rfl rfl ?_
    cases h
    exact sn_iret (ty := .int) dX10_pieces_38 rfl rfl
  · rw [if_neg c] at h
    refine sn_blk _ kX10_pieces_4_2 (pc' := 14) (L' := [some (.ref a0), some (.int a1), some (.int a2)]) (st' := [.int a2, .ref a0, .int a1]) rfl rfl ?_
    obtain ⟨x2, H3, hx2, h⟩ := bd2_inv h
    refine sn_calls (av := [.ref a0, .int a2]) (st := [.int a1]) (M2 := mX10_pieceOf) dX10_pieces_14 msX10_pieceOf mlX10_91 rfl rfl rfl rfl rfl (sX10_pieceOf hx2) ?_
    refine sn_blk _ kX10_pieces_4_3 (pc' := 18) (L' := [some (.ref a0), some (.int a1), some (.int a2)]) (st' := [.int a2, .int x2, .int a1]) rfl rfl ?_
    obtain ⟨x4, H5, hx4, h⟩ := bd2_inv h
    refine sn_calls (av := [.int x2, .int a2]) (st := [.int a1]) (M2 := mX10_isLeast) dX10_pieces_18 msX10_isLeast mlX10_94 rfl rfl rfl rfl rfl (sX10_isLeast hx4) ?_
    refine sn_if_eq (tgt := 28) dX10_pieces_21 (by decide) (fun c => ?_) (fun c => ?_)
    · rw [if_pos c] at h
      refine sn_blk _ kX10_pieces_4_4 (pc' := 4) (L' := [some (.ref a0), some (.int (a1 + 0)), some (.int (a2 + 1))]) (st' := []) rfl rfl ?_
      exact hK4 _ _ _ _ h
    · rw [if_neg c] at h
      refine sn_blk _ kX10_pieces_4_5 (pc' := 4) (L' := [some (.ref a0), some (.int (a1 + 1)), some (.int (a2 + 1))]) (st' := []) rfl rfl ?_
      exact hK4 _ _ _ _ h
def fX10_pieces_4  : Nat → Nat → Int32 → Int32 → Hp → Option (Int32 × Hp)
  | 0, _, _, _, _ => none
  | d + 1, a0, a1, a2, H => bX10_pieces_4 (fX10_pieces_4  d) a0 a1 a2 H
theorem tfX10_pieces_4 {G : GG} {r : Int32} {H' : Hp}   : ∀ (d : Nat) {a0 : Nat} {a1 : Int32} {a2 : Int32} {H : Hp}, fX10_pieces_4  d a0 a1 a2 H = some (r, H') → Sn G (T0 G (some (.int r)) H') mX10_pieces 4 [some (.ref a0), some (.int a1), some (.int a2)] [] H := by
  intro d
  induction d with
  | zero => intro a0 a1 a2 H h; cases h
  | succ d ih => intro a0 a1 a2 H h; exact tbX10_pieces_4 (fun a0 a1 a2 H h => ih h) h
def FX10_pieces  (a0 : Nat) (H : Hp) : Option (Int32 × Hp) :=
  fX10_pieces_4  4096 a0 0 0 H
set_option maxHeartbeats 4000000 in
set_option maxRecDepth 100000 in
theorem tFX10_pieces {G : GG} {r : Int32} {H' : Hp}   {a0 : Nat} {H : Hp} (h : FX10_pieces  a0 H = some (r, H')) : Sn G (T0 G (some (.int r)) H') mX10_pieces 0 [some (.ref a0), none, none] [] H := by
  unfold FX10_pieces at h
  refine sn_blk _ kX10_pieces_0_0 (pc' := 4) (L' := [some (.ref a0), some (.int 0), some (.int 0)]) (st' := []) rfl rfl ?_
  exact tfX10_pieces_4  4096 h
theorem sX10_pieces {G : GG} {r : Int32} {H' : Hp} {a0 : Nat} {H : Hp} (h : FX10_pieces a0 H = some (r, H')) : SM G mX10_pieces [.ref a0] H (some (.int r)) H' := tFX10_pieces h
/-! SquareFoldsModel.surface()I -/
theorem kX10_surface_0_0 : decB cX10_surface 0 [(.aload_n 0, .null)] = true := by decide +kernel
theorem kX10_surface_0_1 : decB cX10_surface 4 [(.bipush (-9), .int (-9))] = true := by decide +kernel
theorem kX10_surface_0_2 : decB cX10_surface 12 [(.aload_n 0, .null)] = true := by decide +kernel
theorem kX10_surface_0_3 : decB cX10_surface 16 [(.iconst 1, .int 1)] = true := by decide +kernel
theorem kX10_surface_0_4 : decB cX10_surface 18 [(.bipush 48, .int 48), (.isub, .null), (.istore_n 1, .null), (.iconst 0, .int 0), (.istore_n 2, .null)] = true := by decide +kernel
theorem kX10_surface_0_5 : decB cX10_surface 9 [(.bipush (-3), .int (-3))] = true := by decide +kernel
theorem kX10_surface_24_0 : decB cX10_surface 24 [(.iload_n 2, .null), (.bipush 11, .int 11)] = true := by decide +kernel
theorem kX10_surface_24_1 : decB cX10_surface 43 [(.aload_n 0, .null)] = true := by decide +kernel
theorem kX10_surface_24_2 : decB cX10_surface 47 [(.iconst 0, .int 0), (.iload_n 1, .null)] = true := by decide +kernel
theorem kX10_surface_24_3 : decB cX10_surface 50 [(.iconst 0, .int 0), (.istore_n 2, .null)] = true := by decide +kernel
theorem kX10_surface_24_4 : decB cX10_surface 30 [(.aload_n 0, .null)] = true := by decide +kernel
theorem kX10_surface_24_5 : decB cX10_surface 34 [(.iload_n 2, .null), (.iconst 0, .int 0)] = true := by decide +kernel
theorem kX10_surface_24_6 : decB cX10_surface 37 [(.iinc 2 1, .int 1), (.goto (-16), .retAddr 24)] = true := by decide +kernel
theorem kX10_surface_52_0 : decB cX10_surface 52 [(.iload_n 2, .null), (.iload_n 1, .null)] = true := by decide +kernel
theorem kX10_surface_52_1 : decB cX10_surface 104 [(.aload_n 0, .null), (.iconst 0, .int 0)] = true := by decide +kernel
theorem kX10_surface_52_2 : decB cX10_surface 109 [(.aload_n 0, .null)] = true := by decide +kernel
theorem kX10_surface_52_3 : decB cX10_surface 113 [(.iconst 0, .int 0), (.iconst 0, .int 0)] = true := by decide +kernel
theorem kX10_surface_52_4 : decB cX10_surface 116 [(.aload_n 0, .null)] = true := by decide +kernel
theorem kX10_surface_52_5 : decB cX10_surface 120 [(.iconst 1, .int 1), (.iconst 0, .int 0)] = true := by decide +kernel
theorem kX10_surface_52_6 : decB cX10_surface 123 [(.aload_n 0, .null)] = true := by decide +kernel
theorem kX10_surface_52_7 : decB cX10_surface 57 [(.aload_n 0, .null)] = true := by decide +kernel
theorem kX10_surface_52_8 : decB cX10_surface 61 [(.iconst 1, .int 1), (.iload_n 2, .null), (.iadd, .null), (.aload_n 0, .null)] = true := by decide +kernel
theorem kX10_surface_52_9 : decB cX10_surface 68 [(.iconst 2, .int 2), (.iload_n 2, .null), (.iadd, .null)] = true := by decide +kernel
theorem kX10_surface_52_10 : decB cX10_surface 72 [(.bipush 48, .int 48), (.isub, .null)] = true := by decide +kernel
theorem kX10_surface_52_11 : decB cX10_surface 76 [(.aload_n 0, .null)] = true := by decide +kernel
theorem kX10_surface_52_12 : decB cX10_surface 80 [(.bipush 6, .int 6), (.iload_n 2, .null), (.iadd, .null), (.aload_n 0, .null)] = true := by decide +kernel
theorem kX10_surface_52_13 : decB cX10_surface 88 [(.iconst 2, .int 2), (.iload_n 1, .null), (.iadd, .null), (.iload_n 2, .null), (.iadd, .null)] = true := by decide +kernel
theorem kX10_surface_52_14 : decB cX10_surface 94 [(.bipush 48, .int 48), (.isub, .null)] = true := by decide +kernel
theorem kX10_surface_52_15 : decB cX10_surface 98 [(.iinc 2 1, .int 1), (.goto (-49), .retAddr 52)] = true := by decide +kernel
theorem dX10_surface_1 : decode cX10_surface 1 = .ok (.invokevirtual 143, 3) := by decide +kernel
theorem dX10_surface_6 : decode cX10_surface 6 = .ok (.if_icmp .eq 6, 3) := by decide +kernel
theorem dX10_surface_11 : decode cX10_surface 11 = .ok (.ireturn, 1) := by decide +kernel
theorem dX10_surface_13 : decode cX10_surface 13 = .ok (.getfield 7, 3) := by decide +kernel
theorem dX10_surface_17 : decode cX10_surface 17 = .ok (.iaload, 1) := by decide +kernel
theorem dX10_surface_27 : decode cX10_surface 27 = .ok (.if_icmp .ge 16, 3) := by decide +kernel
theorem dX10_surface_31 : decode cX10_surface 31 = .ok (.getfield 13, 3) := by decide +kernel
theorem dX10_surface_36 : decode cX10_surface 36 = .ok (.iastore, 1) := by decide +kernel
theorem dX10_surface_44 : decode cX10_surface 44 = .ok (.getfield 13, 3) := by decide +kernel
theorem dX10_surface_49 : decode cX10_surface 49 = .ok (.iastore, 1) := by decide +kernel
theorem dX10_surface_54 : decode cX10_surface 54 = .ok (.if_icmp .ge 50, 3) := by decide +kernel
theorem dX10_surface_58 : decode cX10_surface 58 = .ok (.getfield 13, 3) := by decide +kernel
theorem dX10_surface_65 : decode cX10_surface 65 = .ok (.getfield 7, 3) := by decide +kernel
theorem dX10_surface_71 : decode cX10_surface 71 = .ok (.iaload, 1) := by decide +kernel
theorem dX10_surface_75 : decode cX10_surface 75 = .ok (.iastore, 1) := by decide +kernel
theorem dX10_surface_77 : decode cX10_surface 77 = .ok (.getfield 13, 3) := by decide +kernel
theorem dX10_surface_85 : decode cX10_surface 85 = .ok (.getfield 7, 3) := by decide +kernel
theorem dX10_surface_93 : decode cX10_surface 93 = .ok (.iaload, 1) := by decide +kernel
theorem dX10_surface_97 : decode cX10_surface 97 = .ok (.iastore, 1) := by decide +kernel
theorem dX10_surface_106 : decode cX10_surface 106 = .ok (.putfield 147, 3) := by decide +kernel
theorem dX10_surface_110 : decode cX10_surface 110 = .ok (.getfield 31, 3) := by decide +kernel
theorem dX10_surface_115 : decode cX10_surface 115 = .ok (.bastore, 1) := by decide +kernel
theorem dX10_surface_117 : decode cX10_surface 117 = .ok (.getfield 31, 3) := by decide +kernel
theorem dX10_surface_122 : decode cX10_surface 122 = .ok (.bastore, 1) := by decide +kernel
theorem dX10_surface_124 : decode cX10_surface 124 = .ok (.getfield 13, 3) := by decide +kernel
theorem dX10_surface_127 : decode cX10_surface 127 = .ok (.invokestatic 150, 3) := by decide +kernel
theorem dX10_surface_130 : decode cX10_surface 130 = .ok (.ireturn, 1) := by decide +kernel
def bX10_surface_52 (K52 : Nat → Int32 → Int32 → Hp → Option (Int32 × Hp)) (a0 : Nat) (a1 : Int32) (a2 : Int32) (H : Hp) : Option (Int32 × Hp) :=
  if (a1 ≤ a2 : Prop) then
    bd (pV H a0 9 7 (.int 0)) fun H1 =>
    bd (gA H1 a0 9 10) fun x2 =>
    bd (sI H1 x2 2 0 (vp_nar .boolean 0)) fun H3 =>
    bd (gA H3 a0 9 10) fun x4 =>
    bd (sI H3 x4 2 1 (vp_nar .boolean 0)) fun H5 =>
    bd (gA H5 a0 9 2) fun x6 =>
    bd2 (FX10_pieces x6 H5) fun x7 H8 =>
    some (x7, H8)
  else
    bd (gA H a0 9 2) fun x9 =>
    bd (gA H a0 9 0) fun x10 =>
    bd (aI H x10 0 (2 + a2)) fun x11 =>
    bd (sI H x9 0 (1 + a2) (x11 - 48)) fun H12 =>
    bd (gA H12 a0 9 2) fun x13 =>
    bd (gA H12 a0 9 0) fun x14 =>
    bd (aI H12 x14 0 ((2 + a1) + a2)) fun x15 =>
    bd (sI H12 x13 0 (6 + a2) (x15 - 48)) fun H16 =>
    K52 a0 a1 (a2 + 1) H16
set_option maxHeartbeats 4000000 in
set_option maxRecDepth 100000 in
theorem tbX10_surface_52 {G : GG} {r : Int32} {H' : Hp} {K52 : Nat → Int32 → Int32 → Hp → Option (Int32 × Hp)} (hK52 : ∀ (a0 : Nat) (a1 : Int32) (a2 : Int32) (H : Hp), K52 a0 a1 a2 H = some (r, H') → Sn G (T0 G (some (.int r)) H') mX10_surface 52 [some (.ref a0), some (.int a1), some (.int a2)] [] H) {a0 : Nat} {a1 : Int32} {a2 : Int32} {H : Hp} (h : bX10_surface_52 K52 a0 a1 a2 H = some (r, H')) : Sn G (T0 G (some (.int r)) H') mX10_surface 52 [some (.ref a0), some (.int a1), some (.int a2)] [] H := by
  unfold bX10_surface_52 at h
  refine sn_blk _ kX10_surface_52_0 (pc' := 54) (L' := [some (.ref a0), some (.int a1), some (.int a2)]) (st' := [.int a1, .int a2]) rfl rfl ?_
  refine sn_icmp_ge (tgt := 104) dX10_surface_54 (by decide) (fun c => ?_) (fun c => ?_)
  · rw [if_pos c] at h
    refine sn_blk _ kX10_surface_52_1 (pc' := 106) (L' := [some (.ref a0), some (.int a1), some (.int a2)]) (st' := [.int 0, .ref a0]) rfl rfl ?_
    obtain ⟨H1, hH1, h⟩ := bd_inv h
    refine sn_pI dX10_surface_106 foX10_147 fpX10_7 hH1 ?_
    refine sn_blk _ kX10_surface_52_2 (pc' := 110) (L' := [some (.ref a0), some (.int a1), some (.int a2)]) (st' := [.ref a0]) rfl rfl ?_
    obtain ⟨x2, hx2, h⟩ := bd_inv h
    refine sn_gA dX10_surface_110 foX10_31 hx2 ?_
    refine sn_blk _ kX10_surface_52_3 (pc' := 115) (L' := [some (.ref a0), some (.int a1), some (.int a2)]) (st' := [.int 0, .int 0, .ref x2]) rfl rfl ?_
    obtain ⟨H3, hH3, h⟩ := bd_inv h
    refine sn_zast dX10_surface_115 hH3 ?_
    refine sn_blk _ kX10_surface_52_4 (pc' := 117) (L' := [some (.ref a0), some (.int a1), some (.int a2)]) (st' := [.ref a0]) rfl rfl ?_
    obtain ⟨x4, hx4, h⟩ := bd_inv h
    refine sn_gA dX10_surface_117 foX10_31 hx4 ?_
    refine sn_blk _ kX10_surface_52_5 (pc' := 122) (L' := [some (.ref a0), some (.int a1), some (.int a2)]) (st' := [.int 0, .int 1, .ref x4]) rfl rfl ?_
    obtain ⟨H5, hH5, h⟩ := bd_inv h
    refine sn_zast dX10_surface_122 hH5 ?_
    refine sn_blk _ kX10_surface_52_6 (pc' := 124) (L' := [some (.ref a0), some (.int a1), some (.int a2)]) (st' := [.ref a0]) rfl rfl ?_
    obtain ⟨x6, hx6, h⟩ := bd_inv h
    refine sn_gA dX10_surface_124 foX10_13 hx6 ?_
    obtain ⟨x7, H8, hx7, h⟩ := bd2_inv h
    refine sn_calls (av := [.ref x6]) (st := []) (M2 := mX10_pieces) dX10_surface_127 msX10_pieces mlX10_150 rfl rfl rfl rfl rfl (sX10_pieces hx7) ?_
    cases h
    exact sn_iret (ty := .int) dX10_surface_130 rfl rfl
  · rw [if_neg c] at h
    refine sn_blk _ kX10_surface_52_7 (pc' := 58) (L' := [some (.ref a0), some (.int a1), some (.int a2)]) (st' := [.ref a0]) rfl rfl ?_
    obtain ⟨x9, hx9, h⟩ := bd_inv h
    refine sn_gA dX10_surface_58 foX10_13 hx9 ?_
    refine sn_blk _ kX10_surface_52_8 (pc' := 65) (L' := [some (.ref a0), some (.int a1), some (.int a2)]) (st' := [.ref a0, .int (1 + a2), .ref x9]) rfl rfl ?_
    obtain ⟨x10, hx10, h⟩ := bd_inv h
    refine sn_gA dX10_surface_65 foX10_7 hx10 ?_
    refine sn_blk _ kX10_surface_52_9 (pc' := 71) (L' := [some (.ref a0), some (.int a1), some (.int a2)]) (st' := [.int (2 + a2), .ref x10, .int (1 + a2), .ref x9]) rfl rfl ?_
    obtain ⟨x11, hx11, h⟩ := bd_inv h
    refine sn_iald dX10_surface_71 hx11 ?_
    refine sn_blk _ kX10_surface_52_10 (pc' := 75) (L' := [some (.ref a0), some (.int a1), some (.int a2)]) (st' := [.int (x11 - 48), .int (1 + a2), .ref x9]) rfl rfl ?_
    obtain ⟨H12, hH12, h⟩ := bd_inv h
    refine sn_iast dX10_surface_75 hH12 ?_
    refine sn_blk _ kX10_surface_52_11 (pc' := 77) (L' := [some (.ref a0), some (.int a1), some (.int a2)]) (st' := [.ref a0]) rfl rfl ?_
    obtain ⟨x13, hx13, h⟩ := bd_inv h
    refine sn_gA dX10_surface_77 foX10_13 hx13 ?_
    refine sn_blk _ kX10_surface_52_12 (pc' := 85) (L' := [some (.ref a0), some (.int a1), some (.int a2)]) (st' := [.ref a0, .int (6 + a2), .ref x13]) rfl rfl ?_
    obtain ⟨x14, hx14, h⟩ := bd_inv h
    refine sn_gA dX10_surface_85 foX10_7 hx14 ?_
    refine sn_blk _ kX10_surface_52_13 (pc' := 93) (L' := [some (.ref a0), some (.int a1), some (.int a2)]) (st' := [.int ((2 + a1) + a2), .ref x14, .int (6 + a2), .ref x13]) rfl rfl ?_
    obtain ⟨x15, hx15, h⟩ := bd_inv h
    refine sn_iald dX10_surface_93 hx15 ?_
    refine sn_blk _ kX10_surface_52_14 (pc' := 97) (L' := [some (.ref a0), some (.int a1), some (.int a2)]) (st' := [.int (x15 - 48), .int (6 + a2), .ref x13]) rfl rfl ?_
    obtain ⟨H16, hH16, h⟩ := bd_inv h
    refine sn_iast dX10_surface_97 hH16 ?_
    refine sn_blk _ kX10_surface_52_15 (pc' := 52) (L' := [some (.ref a0), some (.int a1), some (.int (a2 + 1))]) (st' := []) rfl rfl ?_
    exact hK52 _ _ _ _ h
def fX10_surface_52  : Nat → Nat → Int32 → Int32 → Hp → Option (Int32 × Hp)
  | 0, _, _, _, _ => none
  | d + 1, a0, a1, a2, H => bX10_surface_52 (fX10_surface_52  d) a0 a1 a2 H
theorem tfX10_surface_52 {G : GG} {r : Int32} {H' : Hp}   : ∀ (d : Nat) {a0 : Nat} {a1 : Int32} {a2 : Int32} {H : Hp}, fX10_surface_52  d a0 a1 a2 H = some (r, H') → Sn G (T0 G (some (.int r)) H') mX10_surface 52 [some (.ref a0), some (.int a1), some (.int a2)] [] H := by
  intro d
  induction d with
  | zero => intro a0 a1 a2 H h; cases h
  | succ d ih => intro a0 a1 a2 H h; exact tbX10_surface_52 (fun a0 a1 a2 H h => ih h) h
def bX10_surface_24 (K24 : Nat → Int32 → Int32 → Hp → Option (Int32 × Hp)) (a0 : Nat) (a1 : Int32) (a2 : Int32) (H : Hp) : Option (Int32 × Hp) :=
  if (11 ≤ a2 : Prop) then
    bd (gA H a0 9 2) fun x1 =>
    bd (sI H x1 0 0 a1) fun H2 =>
    fX10_surface_52  4096 a0 a1 0 H2
  else
    bd (gA H a0 9 2) fun x3 =>
    bd (sI H x3 0 a2 0) fun H4 =>
    K24 a0 a1 (a2 + 1) H4
set_option maxHeartbeats 4000000 in
set_option maxRecDepth 100000 in
theorem tbX10_surface_24 {G : GG} {r : Int32} {H' : Hp} {K24 : Nat → Int32 → Int32 → Hp → Option (Int32 × Hp)} (hK24 : ∀ (a0 : Nat) (a1 : Int32) (a2 : Int32) (H : Hp), K24 a0 a1 a2 H = some (r, H') → Sn G (T0 G (some (.int r)) H') mX10_surface 24 [some (.ref a0), some (.int a1), some (.int a2)] [] H) {a0 : Nat} {a1 : Int32} {a2 : Int32} {H : Hp} (h : bX10_surface_24 K24 a0 a1 a2 H = some (r, H')) : Sn G (T0 G (some (.int r)) H') mX10_surface 24 [some (.ref a0), some (.int a1), some (.int a2)] [] H := by
  unfold bX10_surface_24 at h
  refine sn_blk _ kX10_surface_24_0 (pc' := 27) (L' := [some (.ref a0), some (.int a1), some (.int a2)]) (st' := [.int 11, .int a2]) rfl rfl ?_
  refine sn_icmp_ge (tgt := 43) dX10_surface_27 (by decide) (fun c => ?_) (fun c => ?_)
  · rw [if_pos c] at h
    refine sn_blk _ kX10_surface_24_1 (pc' := 44) (L' := [some (.ref a0), some (.int a1), some (.int a2)]) (st' := [.ref a0]) rfl rfl ?_
    obtain ⟨x1, hx1, h⟩ := bd_inv h
    refine sn_gA dX10_surface_44 foX10_13 hx1 ?_
    refine sn_blk _ kX10_surface_24_2 (pc' := 49) (L' := [some (.ref a0), some (.int a1), some (.int a2)]) (st' := [.int a1, .int 0, .ref x1]) rfl rfl ?_
    obtain ⟨H2, hH2, h⟩ := bd_inv h
    refine sn_iast dX10_surface_49 hH2 ?_
    refine sn_blk _ kX10_surface_24_3 (pc' := 52) (L' := [some (.ref a0), some (.int a1), some (.int 0)]) (st' := []) rfl rfl ?_
    exact tfX10_surface_52  4096 h
  · rw [if_neg c] at h
    refine sn_blk _ kX10_surface_24_4 (pc' := 31) (L' := [some (.ref a0), some (.int a1), some (.int a2)]) (st' := [.ref a0]) rfl rfl ?_
    obtain ⟨x3, hx3, h⟩ := bd_inv h
    refine sn_gA dX10_surface_31 foX10_13 hx3 ?_
    refine sn_blk _ kX10_surface_24_5 (pc' := 36) (L' := [some (.ref a0), some (.int a1), some (.int a2)]) (st' := [.int 0, .int a2, .ref x3]) rfl rfl ?_
    obtain ⟨H4, hH4, h⟩ := bd_inv h
    refine sn_iast dX10_surface_36 hH4 ?_
    refine sn_blk _ kX10_surface_24_6 (pc' := 24) (L' := [some (.ref a0), some (.int a1), some (.int (a2 + 1))]) (st' := []) rfl rfl ?_
    exact hK24 _ _ _ _ h
def fX10_surface_24  : Nat → Nat → Int32 → Int32 → Hp → Option (Int32 × Hp)
  | 0, _, _, _, _ => none
  | d + 1, a0, a1, a2, H => bX10_surface_24 (fX10_surface_24  d) a0 a1 a2 H
theorem tfX10_surface_24 {G : GG} {r : Int32} {H' : Hp}   : ∀ (d : Nat) {a0 : Nat} {a1 : Int32} {a2 : Int32} {H : Hp}, fX10_surface_24  d a0 a1 a2 H = some (r, H') → Sn G (T0 G (some (.int r)) H') mX10_surface 24 [some (.ref a0), some (.int a1), some (.int a2)] [] H := by
  intro d
  induction d with
  | zero => intro a0 a1 a2 H h; cases h
  | succ d ih => intro a0 a1 a2 H h; exact tbX10_surface_24 (fun a0 a1 a2 H h => ih h) h
def FX10_surface  (a0 : Nat) (H : Hp) : Option (Int32 × Hp) :=
  gp (isO H a0 9 = true) (
    bd2 (FX10_fault a0  H) fun x1 H2 =>
    if (x1 = (-9) : Prop) then
      bd (gA H2 a0 9 0) fun x3 =>
      bd (aI H2 x3 0 1) fun x4 =>
      fX10_surface_24  4096 a0 (x4 - 48) 0 H2
    else
      some ((-3), H2)
    )
set_option maxHeartbeats 4000000 in
set_option maxRecDepth 100000 in
theorem tFX10_surface {G : GG} {r : Int32} {H' : Hp}   {a0 : Nat} {H : Hp} (h : FX10_surface  a0 H = some (r, H')) : Sn G (T0 G (some (.int r)) H') mX10_surface 0 [some (.ref a0), none, none] [] H := by
  unfold FX10_surface at h
  refine sn_blk _ kX10_surface_0_0 (pc' := 1) (L' := [some (.ref a0), none, none]) (st' := [.ref a0]) rfl rfl ?_
  obtain ⟨ho, h⟩ := gp_inv h
  obtain ⟨fs, ho⟩ := isO_inv ho
  obtain ⟨x1, H2, hx1, h⟩ := bd2_inv h
  refine sn_callv (av := []) (st := []) (M2 := mX10_fault) dX10_surface_1 msX10_fault mlX10_143 rfl rfl rfl rfl rfl ho (sX10_fault hx1) ?_
  refine sn_blk _ kX10_surface_0_1 (pc' := 6) (L' := [some (.ref a0), none, none]) (st' := [.int (-9), .int x1]) rfl rfl ?_
  refine sn_icmp_eq (tgt := 12) dX10_surface_6 (by decide) (fun c => ?_) (fun c => ?_)
  · rw [if_pos c] at h
    refine sn_blk _ kX10_surface_0_2 (pc' := 13) (L' := [some (.ref a0), none, none]) (st' := [.ref a0]) rfl rfl ?_
    obtain ⟨x3, hx3, h⟩ := bd_inv h
    refine sn_gA dX10_surface_13 foX10_7 hx3 ?_
    refine sn_blk _ kX10_surface_0_3 (pc' := 17) (L' := [some (.ref a0), none, none]) (st' := [.int 1, .ref x3]) rfl rfl ?_
    obtain ⟨x4, hx4, h⟩ := bd_inv h
    refine sn_iald dX10_surface_17 hx4 ?_
    refine sn_blk _ kX10_surface_0_4 (pc' := 24) (L' := [some (.ref a0), some (.int (x4 - 48)), some (.int 0)]) (st' := []) rfl rfl ?_
    exact tfX10_surface_24  4096 h
  · rw [if_neg c] at h
    refine sn_blk _ kX10_surface_0_5 (pc' := 11) (L' := [some (.ref a0), none, none]) (st' := [.int (-3)]) rfl rfl ?_
    cases h
    exact sn_iret (ty := .int) dX10_surface_11 rfl rfl
theorem sX10_surface {G : GG} {r : Int32} {H' : Hp} {a0 : Nat} {H : Hp} (h : FX10_surface a0 H = some (r, H')) : SM G mX10_surface [.ref a0] H (some (.int r)) H' := tFX10_surface h
/-! SquareFoldsModel.left([II)I -/
theorem kX10_left_0_0 : decB cX10_left 0 [(.iconst 0, .int 0), (.istore_n 2, .null), (.iconst 0, .int 0), (.istore_n 3, .null)] = true := by decide +kernel
theorem kX10_left_4_0 : decB cX10_left 4 [(.iload_n 3, .null), (.aload_n 0, .null), (.iconst 0, .int 0)] = true := by decide +kernel
theorem kX10_left_4_1 : decB cX10_left 32 [(.iload_n 2, .null)] = true := by decide +kernel
theorem kX10_left_4_2 : decB cX10_left 11 [(.aload_n 0, .null), (.iconst 1, .int 1), (.iload_n 3, .null), (.iadd, .null)] = true := by decide +kernel
theorem kX10_left_4_3 : decB cX10_left 16 [(.iload_n 1, .null)] = true := by decide +kernel
theorem kX10_left_4_4 : decB cX10_left 24 [(.iload_n 2, .null), (.istore_n 2, .null), (.iinc 3 1, .int 1), (.goto (-25), .retAddr 4)] = true := by decide +kernel
theorem kX10_left_4_5 : decB cX10_left 20 [(.iload_n 3, .null), (.goto 4, .retAddr 25), (.istore_n 2, .null), (.iinc 3 1, .int 1), (.goto (-25), .retAddr 4)] = true := by decide +kernel
theorem dX10_left_7 : decode cX10_left 7 = .ok (.iaload, 1) := by decide +kernel
theorem dX10_left_8 : decode cX10_left 8 = .ok (.if_icmp .ge 24, 3) := by decide +kernel
theorem dX10_left_15 : decode cX10_left 15 = .ok (.iaload, 1) := by decide +kernel
theorem dX10_left_17 : decode cX10_left 17 = .ok (.if_icmp .ne 7, 3) := by decide +kernel
theorem dX10_left_33 : decode cX10_left 33 = .ok (.ireturn, 1) := by decide +kernel
def bX10_left_4 (K4 : Nat → Int32 → Int32 → Int32 → Hp → Option (Int32 × Hp)) (a0 : Nat) (a1 : Int32) (a2 : Int32) (a3 : Int32) (H : Hp) : Option (Int32 × Hp) :=
  bd (aI H a0 0 0) fun x1 =>
  if (x1 ≤ a3 : Prop) then
    some (a2, H)
  else
    bd (aI H a0 0 (1 + a3)) fun x2 =>
    if (x2 = a1 : Prop) then
      K4 a0 a1 a3 (a3 + 1) H
    else
      K4 a0 a1 a2 (a3 + 1) H
set_option maxHeartbeats 4000000 in
set_option maxRecDepth 100000 in
theorem tbX10_left_4 {G : GG} {r : Int32} {H' : Hp} {K4 : Nat → Int32 → Int32 → Int32 → Hp → Option (Int32 × Hp)} (hK4 : ∀ (a0 : Nat) (a1 : Int32) (a2 : Int32) (a3 : Int32) (H : Hp), K4 a0 a1 a2 a3 H = some (r, H') → Sn G (T0 G (some (.int r)) H') mX10_left 4 [some (.ref a0), some (.int a1), some (.int a2), some (.int a3)] [] H) {a0 : Nat} {a1 : Int32} {a2 : Int32} {a3 : Int32} {H : Hp} (h : bX10_left_4 K4 a0 a1 a2 a3 H = some (r, H')) : Sn G (T0 G (some (.int r)) H') mX10_left 4 [some (.ref a0), some (.int a1), some (.int a2), some (.int a3)] [] H := by
  unfold bX10_left_4 at h
  refine sn_blk _ kX10_left_4_0 (pc' := 7) (L' := [some (.ref a0), some (.int a1), some (.int a2), some (.int a3)]) (st' := [.int 0, .ref a0, .int a3]) rfl rfl ?_
  obtain ⟨x1, hx1, h⟩ := bd_inv h
  refine sn_iald dX10_left_7 hx1 ?_
  refine sn_icmp_ge (tgt := 32) dX10_left_8 (by decide) (fun c => ?_) (fun c => ?_)
  · rw [if_pos c] at h
    refine sn_blk _ kX10_left_4_1 (pc' := 33) (L' := [some (.ref a0), some (.int a1), some (.int a2), some (.int a3)]) (st' := [.int a2]) rfl rfl ?_
    cases h
    exact sn_iret (ty := .int) dX10_left_33 rfl rfl
  · rw [if_neg c] at h
    refine sn_blk _ kX10_left_4_2 (pc' := 15) (L' := [some (.ref a0), some (.int a1), some (.int a2), some (.int a3)]) (st' := [.int (1 + a3), .ref a0]) rfl rfl ?_
    obtain ⟨x2, hx2, h⟩ := bd_inv h
    refine sn_iald dX10_left_15 hx2 ?_
    refine sn_blk _ kX10_left_4_3 (pc' := 17) (L' := [some (.ref a0), some (.int a1), some (.int a2), some (.int a3)]) (st' := [.int a1, .int x2]) rfl rfl ?_
    refine sn_icmp_ne (tgt := 24) dX10_left_17 (by decide) (fun c => ?_) (fun c => ?_)
    · rw [if_neg c] at h
      refine sn_blk _ kX10_left_4_4 (pc' := 4) (L' := [some (.ref a0), some (.int a1), some (.int a2), some (.int (a3 + 1))]) (st' := []) rfl rfl ?_
      exact hK4 _ _ _ _ _ h
    · rw [if_pos c] at h
      refine sn_blk _ kX10_left_4_5 (pc' := 4) (L' := [some (.ref a0), some (.int a1), some (.int a3), some (.int (a3 + 1))]) (st' := []) rfl rfl ?_
      exact hK4 _ _ _ _ _ h
def fX10_left_4  : Nat → Nat → Int32 → Int32 → Int32 → Hp → Option (Int32 × Hp)
  | 0, _, _, _, _, _ => none
  | d + 1, a0, a1, a2, a3, H => bX10_left_4 (fX10_left_4  d) a0 a1 a2 a3 H
theorem tfX10_left_4 {G : GG} {r : Int32} {H' : Hp}   : ∀ (d : Nat) {a0 : Nat} {a1 : Int32} {a2 : Int32} {a3 : Int32} {H : Hp}, fX10_left_4  d a0 a1 a2 a3 H = some (r, H') → Sn G (T0 G (some (.int r)) H') mX10_left 4 [some (.ref a0), some (.int a1), some (.int a2), some (.int a3)] [] H := by
  intro d
  induction d with
  | zero => intro a0 a1 a2 a3 H h; cases h
  | succ d ih => intro a0 a1 a2 a3 H h; exact tbX10_left_4 (fun a0 a1 a2 a3 H h => ih h) h
def FX10_left  (a0 : Nat) (a1 : Int32) (H : Hp) : Option (Int32 × Hp) :=
  fX10_left_4  4096 a0 a1 0 0 H
set_option maxHeartbeats 4000000 in
set_option maxRecDepth 100000 in
theorem tFX10_left {G : GG} {r : Int32} {H' : Hp}   {a0 : Nat} {a1 : Int32} {H : Hp} (h : FX10_left  a0 a1 H = some (r, H')) : Sn G (T0 G (some (.int r)) H') mX10_left 0 [some (.ref a0), some (.int a1), none, none] [] H := by
  unfold FX10_left at h
  refine sn_blk _ kX10_left_0_0 (pc' := 4) (L' := [some (.ref a0), some (.int a1), some (.int 0), some (.int 0)]) (st' := []) rfl rfl ?_
  exact tfX10_left_4  4096 h
theorem sX10_left {G : GG} {r : Int32} {H' : Hp} {a0 : Nat} {a1 : Int32} {H : Hp} (h : FX10_left a0 a1 H = some (r, H')) : SM G mX10_left [.ref a0, .int a1] H (some (.int r)) H' := tFX10_left h
/-! SquareFoldsModel.down([II)I -/
theorem kX10_down_0_0 : decB cX10_down 0 [(.iconst 0, .int 0), (.istore_n 2, .null), (.iconst 0, .int 0), (.istore_n 3, .null)] = true := by decide +kernel
theorem kX10_down_4_0 : decB cX10_down 4 [(.iload_n 3, .null), (.aload_n 0, .null), (.iconst 0, .int 0)] = true := by decide +kernel
theorem kX10_down_4_1 : decB cX10_down 33 [(.iload_n 2, .null)] = true := by decide +kernel
theorem kX10_down_4_2 : decB cX10_down 11 [(.aload_n 0, .null), (.bipush 6, .int 6), (.iload_n 3, .null), (.iadd, .null)] = true := by decide +kernel
theorem kX10_down_4_3 : decB cX10_down 17 [(.iload_n 1, .null)] = true := by decide +kernel
theorem kX10_down_4_4 : decB cX10_down 25 [(.iload_n 2, .null), (.istore_n 2, .null), (.iinc 3 1, .int 1), (.goto (-26), .retAddr 4)] = true := by decide +kernel
theorem kX10_down_4_5 : decB cX10_down 21 [(.iload_n 3, .null), (.goto 4, .retAddr 26), (.istore_n 2, .null), (.iinc 3 1, .int 1), (.goto (-26), .retAddr 4)] = true := by decide +kernel
theorem dX10_down_7 : decode cX10_down 7 = .ok (.iaload, 1) := by decide +kernel
theorem dX10_down_8 : decode cX10_down 8 = .ok (.if_icmp .ge 25, 3) := by decide +kernel
theorem dX10_down_16 : decode cX10_down 16 = .ok (.iaload, 1) := by decide +kernel
theorem dX10_down_18 : decode cX10_down 18 = .ok (.if_icmp .ne 7, 3) := by decide +kernel
theorem dX10_down_34 : decode cX10_down 34 = .ok (.ireturn, 1) := by decide +kernel
def bX10_down_4 (K4 : Nat → Int32 → Int32 → Int32 → Hp → Option (Int32 × Hp)) (a0 : Nat) (a1 : Int32) (a2 : Int32) (a3 : Int32) (H : Hp) : Option (Int32 × Hp) :=
  bd (aI H a0 0 0) fun x1 =>
  if (x1 ≤ a3 : Prop) then
    some (a2, H)
  else
    bd (aI H a0 0 (6 + a3)) fun x2 =>
    if (x2 = a1 : Prop) then
      K4 a0 a1 a3 (a3 + 1) H
    else
      K4 a0 a1 a2 (a3 + 1) H
set_option maxHeartbeats 4000000 in
set_option maxRecDepth 100000 in
theorem tbX10_down_4 {G : GG} {r : Int32} {H' : Hp} {K4 : Nat → Int32 → Int32 → Int32 → Hp → Option (Int32 × Hp)} (hK4 : ∀ (a0 : Nat) (a1 : Int32) (a2 : Int32) (a3 : Int32) (H : Hp), K4 a0 a1 a2 a3 H = some (r, H') → Sn G (T0 G (some (.int r)) H') mX10_down 4 [some (.ref a0), some (.int a1), some (.int a2), some (.int a3)] [] H) {a0 : Nat} {a1 : Int32} {a2 : Int32} {a3 : Int32} {H : Hp} (h : bX10_down_4 K4 a0 a1 a2 a3 H = some (r, H')) : Sn G (T0 G (some (.int r)) H') mX10_down 4 [some (.ref a0), some (.int a1), some (.int a2), some (.int a3)] [] H := by
  unfold bX10_down_4 at h
  refine sn_blk _ kX10_down_4_0 (pc' := 7) (L' := [some (.ref a0), some (.int a1), some (.int a2), some (.int a3)]) (st' := [.int 0, .ref a0, .int a3]) rfl rfl ?_
  obtain ⟨x1, hx1, h⟩ := bd_inv h
  refine sn_iald dX10_down_7 hx1 ?_
  refine sn_icmp_ge (tgt := 33) dX10_down_8 (by decide) (fun c => ?_) (fun c => ?_)
  · rw [if_pos c] at h
    refine sn_blk _ kX10_down_4_1 (pc' := 34) (L' := [some (.ref a0), some (.int a1), some (.int a2), some (.int a3)]) (st' := [.int a2]) rfl rfl ?_
    cases h
    exact sn_iret (ty := .int) dX10_down_34 rfl rfl
  · rw [if_neg c] at h
    refine sn_blk _ kX10_down_4_2 (pc' := 16) (L' := [some (.ref a0), some (.int a1), some (.int a2), some (.int a3)]) (st' := [.int (6 + a3), .ref a0]) rfl rfl ?_
    obtain ⟨x2, hx2, h⟩ := bd_inv h
    refine sn_iald dX10_down_16 hx2 ?_
    refine sn_blk _ kX10_down_4_3 (pc' := 18) (L' := [some (.ref a0), some (.int a1), some (.int a2), some (.int a3)]) (st' := [.int a1, .int x2]) rfl rfl ?_
    refine sn_icmp_ne (tgt := 25) dX10_down_18 (by decide) (fun c => ?_) (fun c => ?_)
    · rw [if_neg c] at h
      refine sn_blk _ kX10_down_4_4 (pc' := 4) (L' := [some (.ref a0), some (.int a1), some (.int a2), some (.int (a3 + 1))]) (st' := []) rfl rfl ?_
      exact hK4 _ _ _ _ _ h
    · rw [if_pos c] at h
      refine sn_blk _ kX10_down_4_5 (pc' := 4) (L' := [some (.ref a0), some (.int a1), some (.int a3), some (.int (a3 + 1))]) (st' := []) rfl rfl ?_
      exact hK4 _ _ _ _ _ h
def fX10_down_4  : Nat → Nat → Int32 → Int32 → Int32 → Hp → Option (Int32 × Hp)
  | 0, _, _, _, _, _ => none
  | d + 1, a0, a1, a2, a3, H => bX10_down_4 (fX10_down_4  d) a0 a1 a2 a3 H
theorem tfX10_down_4 {G : GG} {r : Int32} {H' : Hp}   : ∀ (d : Nat) {a0 : Nat} {a1 : Int32} {a2 : Int32} {a3 : Int32} {H : Hp}, fX10_down_4  d a0 a1 a2 a3 H = some (r, H') → Sn G (T0 G (some (.int r)) H') mX10_down 4 [some (.ref a0), some (.int a1), some (.int a2), some (.int a3)] [] H := by
  intro d
  induction d with
  | zero => intro a0 a1 a2 a3 H h; cases h
  | succ d ih => intro a0 a1 a2 a3 H h; exact tbX10_down_4 (fun a0 a1 a2 a3 H h => ih h) h
def FX10_down  (a0 : Nat) (a1 : Int32) (H : Hp) : Option (Int32 × Hp) :=
  fX10_down_4  4096 a0 a1 0 0 H
set_option maxHeartbeats 4000000 in
set_option maxRecDepth 100000 in
theorem tFX10_down {G : GG} {r : Int32} {H' : Hp}   {a0 : Nat} {a1 : Int32} {H : Hp} (h : FX10_down  a0 a1 H = some (r, H')) : Sn G (T0 G (some (.int r)) H') mX10_down 0 [some (.ref a0), some (.int a1), none, none] [] H := by
  unfold FX10_down at h
  refine sn_blk _ kX10_down_0_0 (pc' := 4) (L' := [some (.ref a0), some (.int a1), some (.int 0), some (.int 0)]) (st' := []) rfl rfl ?_
  exact tfX10_down_4  4096 h
theorem sX10_down {G : GG} {r : Int32} {H' : Hp} {a0 : Nat} {a1 : Int32} {H : Hp} (h : FX10_down a0 a1 H = some (r, H')) : SM G mX10_down [.ref a0, .int a1] H (some (.int r)) H' := tFX10_down h
/-! SquareFoldsModel.around([II)I -/
theorem kX10_around_0_0 : decB cX10_around 0 [(.aload_n 0, .null), (.aload_n 0, .null), (.aload_n 0, .null), (.aload_n 0, .null), (.iload_n 1, .null)] = true := by decide +kernel
theorem dX10_around_5 : decode cX10_around 5 = .ok (.invokestatic 64, 3) := by decide +kernel
theorem dX10_around_8 : decode cX10_around 8 = .ok (.invokestatic 71, 3) := by decide +kernel
theorem dX10_around_11 : decode cX10_around 11 = .ok (.invokestatic 68, 3) := by decide +kernel
theorem dX10_around_14 : decode cX10_around 14 = .ok (.invokestatic 74, 3) := by decide +kernel
theorem dX10_around_17 : decode cX10_around 17 = .ok (.ireturn, 1) := by decide +kernel
def FX10_around  (a0 : Nat) (a1 : Int32) (H : Hp) : Option (Int32 × Hp) :=
  bd2 (FX10_right a0 a1 H) fun x1 H2 =>
  bd2 (FX10_up a0 x1 H2) fun x3 H4 =>
  bd2 (FX10_left a0 x3 H4) fun x5 H6 =>
  bd2 (FX10_down a0 x5 H6) fun x7 H8 =>
  some (x7, H8)
set_option maxHeartbeats 4000000 in
set_option maxRecDepth 100000 in
theorem tFX10_around {G : GG} {r : Int32} {H' : Hp}   {a0 : Nat} {a1 : Int32} {H : Hp} (h : FX10_around  a0 a1 H = some (r, H')) : Sn G (T0 G (some (.int r)) H') mX10_around 0 [some (.ref a0), some (.int a1)] [] H := by
  unfold FX10_around at h
  refine sn_blk _ kX10_around_0_0 (pc' := 5) (L' := [some (.ref a0), some (.int a1)]) (st' := [.int a1, .ref a0, .ref a0, .ref a0, .ref a0]) rfl rfl ?_
  obtain ⟨x1, H2, hx1, h⟩ := bd2_inv h
  refine sn_calls (av := [.ref a0, .int a1]) (st := [.ref a0, .ref a0, .ref a0]) (M2 := mX10_right) dX10_around_5 msX10_right mlX10_64 rfl rfl rfl rfl rfl (sX10_right hx1) ?_
  obtain ⟨x3, H4, hx3, h⟩ := bd2_inv h
  refine sn_calls (av := [.ref a0, .int x1]) (st := [.ref a0, .ref a0]) (M2 := mX10_up) dX10_around_8 msX10_up mlX10_71 rfl rfl rfl rfl rfl (sX10_up hx3) ?_
  obtain ⟨x5, H6, hx5, h⟩ := bd2_inv h
  refine sn_calls (av := [.ref a0, .int x3]) (st := [.ref a0]) (M2 := mX10_left) dX10_around_11 msX10_left mlX10_68 rfl rfl rfl rfl rfl (sX10_left hx5) ?_
  obtain ⟨x7, H8, hx7, h⟩ := bd2_inv h
  refine sn_calls (av := [.ref a0, .int x5]) (st := []) (M2 := mX10_down) dX10_around_14 msX10_down mlX10_74 rfl rfl rfl rfl rfl (sX10_down hx7) ?_
  cases h
  exact sn_iret (ty := .int) dX10_around_17 rfl rfl
theorem sX10_around {G : GG} {r : Int32} {H' : Hp} {a0 : Nat} {a1 : Int32} {H : Hp} (h : FX10_around a0 a1 H = some (r, H')) : SM G mX10_around [.ref a0, .int a1] H (some (.int r)) H' := tFX10_around h
/-! SquareFoldsModel.beginsCorner([II)Z -/
theorem kX10_beginsCorner_0_0 : decB cX10_beginsCorner 0 [(.iconst 1, .int 1), (.istore_n 2, .null), (.iload_n 1, .null), (.istore_n 3, .null), (.iconst 0, .int 0), (.istore 4, .null)] = true := by decide +kernel
theorem kX10_beginsCorner_7_0 : decB cX10_beginsCorner 7 [(.iload 4, .null), (.iconst 5, .int 5)] = true := by decide +kernel
theorem kX10_beginsCorner_7_1 : decB cX10_beginsCorner 40 [(.iload_n 2, .null)] = true := by decide +kernel
theorem kX10_beginsCorner_7_2 : decB cX10_beginsCorner 13 [(.aload_n 0, .null), (.iload_n 3, .null)] = true := by decide +kernel
theorem kX10_beginsCorner_7_3 : decB cX10_beginsCorner 18 [(.istore_n 3, .null), (.iload_n 2, .null)] = true := by decide +kernel
theorem kX10_beginsCorner_7_4 : decB cX10_beginsCorner 32 [(.iconst 0, .int 0), (.istore_n 2, .null), (.iinc 4 1, .int 1), (.goto (-30), .retAddr 7)] = true := by decide +kernel
theorem kX10_beginsCorner_7_5 : decB cX10_beginsCorner 23 [(.iload_n 3, .null), (.iload_n 1, .null)] = true := by decide +kernel
theorem kX10_beginsCorner_7_6 : decB cX10_beginsCorner 32 [(.iconst 0, .int 0), (.istore_n 2, .null), (.iinc 4 1, .int 1), (.goto (-30), .retAddr 7)] = true := by decide +kernel
theorem kX10_beginsCorner_7_7 : decB cX10_beginsCorner 28 [(.iconst 1, .int 1), (.goto 4, .retAddr 33), (.istore_n 2, .null), (.iinc 4 1, .int 1), (.goto (-30), .retAddr 7)] = true := by decide +kernel
theorem dX10_beginsCorner_10 : decode cX10_beginsCorner 10 = .ok (.if_icmp .ge 30, 3) := by decide +kernel
theorem dX10_beginsCorner_15 : decode cX10_beginsCorner 15 = .ok (.invokestatic 77, 3) := by decide +kernel
theorem dX10_beginsCorner_20 : decode cX10_beginsCorner 20 = .ok (.ifCond .eq 12, 3) := by decide +kernel
theorem dX10_beginsCorner_25 : decode cX10_beginsCorner 25 = .ok (.if_icmp .lt 7, 3) := by decide +kernel
theorem dX10_beginsCorner_41 : decode cX10_beginsCorner 41 = .ok (.ireturn, 1) := by decide +kernel
def bX10_beginsCorner_7 (K7 : Nat → Int32 → Int32 → Int32 → Int32 → Hp → Option (Int32 × Hp)) (a0 : Nat) (a1 : Int32) (a2 : Int32) (a3 : Int32) (a4 : Int32) (H : Hp) : Option (Int32 × Hp) :=
  if (5 ≤ a4 : Prop) then
    gp (a2 = 0 ∨ a2 = 1) (some (a2, H))
  else
    bd2 (FX10_around a0 a3 H) fun x1 H2 =>
    if (a2 = 0 : Prop) then
      K7 a0 a1 0 x1 (a4 + 1) H2
    else
      if (x1 < a1 : Prop) then
        K7 a0 a1 0 x1 (a4 + 1) H2
      else
        K7 a0 a1 1 x1 (a4 + 1) H2
set_option maxHeartbeats 4000000 in
set_option maxRecDepth 100000 in
theorem tbX10_beginsCorner_7 {G : GG} {r : Int32} {H' : Hp} {K7 : Nat → Int32 → Int32 → Int32 → Int32 → Hp → Option (Int32 × Hp)} (hK7 : ∀ (a0 : Nat) (a1 : Int32) (a2 : Int32) (a3 : Int32) (a4 : Int32) (H : Hp), K7 a0 a1 a2 a3 a4 H = some (r, H') → Sn G (T0 G (some (.int r)) H') mX10_beginsCorner 7 [some (.ref a0), some (.int a1), some (.int a2), some (.int a3), some (.int a4)] [] H) {a0 : Nat} {a1 : Int32} {a2 : Int32} {a3 : Int32} {a4 : Int32} {H : Hp} (h : bX10_beginsCorner_7 K7 a0 a1 a2 a3 a4 H = some (r, H')) : Sn G (T0 G (some (.int r)) H') mX10_beginsCorner 7 [some (.ref a0), some (.int a1), some (.int a2), some (.int a3), some (.int a4)] [] H := by
  unfold bX10_beginsCorner_7 at h
  refine sn_blk _ kX10_beginsCorner_7_0 (pc' := 10) (L' := [some (.ref a0), some (.int a1), some (.int a2), some (.int a3), some (.int a4)]) (st' := [.int 5, .int a4]) rfl rfl ?_
  refine sn_icmp_ge (tgt := 40) dX10_beginsCorner_10 (by decide) (fun c => ?_) (fun c => ?_)
  · rw [if_pos c] at h
    refine sn_blk _ kX10_beginsCorner_7_1 (pc' := 41) (L' := [some (.ref a0), some (.int a1), some (.int a2), some (.int a3), some (.int a4)]) (st' := [.int a2]) rfl rfl ?_
    obtain ⟨hb, h⟩ := gp_inv h
    cases h
    exact sn_iret (ty := .boolean) dX10_beginsCorner_41 rfl (nar_bool hb)
  · rw [if_neg c] at h
    refine sn_blk _ kX10_beginsCorner_7_2 (pc' := 15) (L' := [some (.ref a0), some (.int a1), some (.int a2), some (.int a3), some (.int a4)]) (st' := [.int a3, .ref a0]) rfl rfl ?_
    obtain ⟨x1, H2, hx1, h⟩ := bd2_inv h
    refine sn_calls (av := [.ref a0, .int a3]) (st := []) (M2 := mX10_around) dX10_beginsCorner_15 msX10_around mlX10_77 rfl rfl rfl rfl rfl (sX10_around hx1) ?_
    refine sn_blk _ kX10_beginsCorner_7_3 (pc' := 20) (L' := [some (.ref a0), some (.int a1), some (.int a2), some (.int x1), some (.int a4)]) (st' := [.int a2]) rfl rfl ?_
    refine sn_if_eq (tgt := 32) dX10_beginsCorner_20 (by decide) (fun c => ?_) (fun c => ?_)
    · rw [if_pos c] at h
      refine sn_blk _ kX10_beginsCorner_7_4 (pc' := 7) (L' := [some (.ref a0), some (.int a1), some (.int 0), some (.int x1), some (.int (a4 + 1))]) (st' := []) rfl rfl ?_
      exact hK7 _ _ _ _ _ _ h
    · rw [if_neg c] at h
      refine sn_blk _ kX10_beginsCorner_7_5 (pc' := 25) (L' := [some (.ref a0), some (.int a1), some (.int a2), some (.int x1), some (.int a4)]) (st' := [.int a1, .int x1]) rfl rfl ?_
      refine sn_icmp_lt (tgt := 32) dX10_beginsCorner_25 (by decide) (fun c => ?_) (fun c => ?_)
      · rw [if_pos c] at h
        refine sn_blk _ kX10_beginsCorner_7_6 (pc' := 7) (L' := [some (.ref a0), some (.int a1), some (.int 0), some (.int x1), some (.int (a4 + 1))]) (st' := []) rfl rfl ?_
        exact hK7 _ _ _ _ _ _ h
      · rw [if_neg c] at h
        refine sn_blk _ kX10_beginsCorner_7_7 (pc' := 7) (L' := [some (.ref a0), some (.int a1), some (.int 1), some (.int x1), some (.int (a4 + 1))]) (st' := []) rfl rfl ?_
        exact hK7 _ _ _ _ _ _ h
def fX10_beginsCorner_7  : Nat → Nat → Int32 → Int32 → Int32 → Int32 → Hp → Option (Int32 × Hp)
  | 0, _, _, _, _, _, _ => none
  | d + 1, a0, a1, a2, a3, a4, H => bX10_beginsCorner_7 (fX10_beginsCorner_7  d) a0 a1 a2 a3 a4 H
theorem tfX10_beginsCorner_7 {G : GG} {r : Int32} {H' : Hp}   : ∀ (d : Nat) {a0 : Nat} {a1 : Int32} {a2 : Int32} {a3 : Int32} {a4 : Int32} {H : Hp}, fX10_beginsCorner_7  d a0 a1 a2 a3 a4 H = some (r, H') → Sn G (T0 G (some (.int r)) H') mX10_beginsCorner 7 [some (.ref a0), some (.int a1), some (.int a2), some (.int a3), some (.int a4)] [] H := by
  intro d
  induction d with
  | zero => intro a0 a1 a2 a3 a4 H h; cases h
  | succ d ih => intro a0 a1 a2 a3 a4 H h; exact tbX10_beginsCorner_7 (fun a0 a1 a2 a3 a4 H h => ih h) h
def FX10_beginsCorner  (a0 : Nat) (a1 : Int32) (H : Hp) : Option (Int32 × Hp) :=
  fX10_beginsCorner_7  4096 a0 a1 1 a1 0 H
set_option maxHeartbeats 4000000 in
set_option maxRecDepth 100000 in
theorem tFX10_beginsCorner {G : GG} {r : Int32} {H' : Hp}   {a0 : Nat} {a1 : Int32} {H : Hp} (h : FX10_beginsCorner  a0 a1 H = some (r, H')) : Sn G (T0 G (some (.int r)) H') mX10_beginsCorner 0 [some (.ref a0), some (.int a1), none, none, none] [] H := by
  unfold FX10_beginsCorner at h
  refine sn_blk _ kX10_beginsCorner_0_0 (pc' := 7) (L' := [some (.ref a0), some (.int a1), some (.int 1), some (.int a1), some (.int 0)]) (st' := []) rfl rfl ?_
  exact tfX10_beginsCorner_7  4096 h
theorem sX10_beginsCorner {G : GG} {r : Int32} {H' : Hp} {a0 : Nat} {a1 : Int32} {H : Hp} (h : FX10_beginsCorner a0 a1 H = some (r, H')) : SM G mX10_beginsCorner [.ref a0, .int a1] H (some (.int r)) H' := tFX10_beginsCorner h
/-! SquareFoldsModel.corners([II)I -/
theorem kX10_corners_0_0 : decB cX10_corners 0 [(.iconst 0, .int 0), (.istore_n 2, .null), (.iconst 0, .int 0), (.istore_n 3, .null)] = true := by decide +kernel
theorem kX10_corners_4_0 : decB cX10_corners 4 [(.iload_n 3, .null), (.aload_n 0, .null), (.iconst 0, .int 0)] = true := by decide +kernel
theorem kX10_corners_4_1 : decB cX10_corners 41 [(.iload_n 2, .null)] = true := by decide +kernel
theorem kX10_corners_4_2 : decB cX10_corners 11 [(.iload_n 2, .null), (.iload_n 1, .null), (.iload_n 3, .null)] = true := by decide +kernel
theorem kX10_corners_4_3 : decB cX10_corners 20 [(.aload_n 0, .null), (.iload_n 3, .null)] = true := by decide +kernel
theorem kX10_corners_4_4 : decB cX10_corners 28 [(.iconst 1, .int 1), (.goto 4, .retAddr 33), (.iadd, .null), (.istore_n 2, .null), (.iinc 3 1, .int 1), (.goto (-34), .retAddr 4)] = true := by decide +kernel
theorem kX10_corners_32_0 : decB cX10_corners 32 [(.iconst 0, .int 0), (.iadd, .null), (.istore_n 2, .null), (.iinc 3 1, .int 1), (.goto (-34), .retAddr 4)] = true := by decide +kernel
theorem dX10_corners_7 : decode cX10_corners 7 = .ok (.iaload, 1) := by decide +kernel
theorem dX10_corners_8 : decode cX10_corners 8 = .ok (.if_icmp .ge 33, 3) := by decide +kernel
theorem dX10_corners_14 : decode cX10_corners 14 = .ok (.invokestatic 80, 3) := by decide +kernel
theorem dX10_corners_17 : decode cX10_corners 17 = .ok (.ifCond .eq 15, 3) := by decide +kernel
theorem dX10_corners_22 : decode cX10_corners 22 = .ok (.invokestatic 100, 3) := by decide +kernel
theorem dX10_corners_25 : decode cX10_corners 25 = .ok (.ifCond .eq 7, 3) := by decide +kernel
theorem dX10_corners_42 : decode cX10_corners 42 = .ok (.ireturn, 1) := by decide +kernel
def fX10_corners_32 (K4 : Nat → Int32 → Int32 → Int32 → Hp → Option (Int32 × Hp)) (a0 : Nat) (a1 : Int32) (a3 : Int32) (s0 : Int32) (H : Hp) : Option (Int32 × Hp) :=
  K4 a0 a1 (s0 + 0) (a3 + 1) H
set_option maxHeartbeats 4000000 in
set_option maxRecDepth 100000 in
theorem tfX10_corners_32 {G : GG} {r : Int32} {H' : Hp} {K4 : Nat → Int32 → Int32 → Int32 → Hp → Option (Int32 × Hp)} (hK4 : ∀ (a0 : Nat) (a1 : Int32) (a2 : Int32) (a3 : Int32) (H : Hp), K4 a0 a1 a2 a3 H = some (r, H') → Sn G (T0 G (some (.int r)) H') mX10_corners 4 [some (.ref a0), some (.int a1), some (.int a2), some (.int a3)] [] H) {a0 : Nat} {a1 : Int32} {a3 : Int32} {s0 : Int32} {H : Hp} (h : fX10_corners_32 K4 a0 a1 a3 s0 H = some (r, H')) : Sn G (T0 G (some (.int r)) H') mX10_corners 32 [some (.ref a0), some (.int a1), none, some (.int a3)] [.int s0] H := by
  unfold fX10_corners_32 at h
  refine sn_blk _ kX10_corners_32_0 (pc' := 4) (L' := [some (.ref a0), some (.int a1), some (.int (s0 + 0)), some (.int (a3 + 1))]) (st' := []) rfl rfl ?_
  exact hK4 _ _ _ _ _ h
def bX10_corners_4 (K4 : Nat → Int32 → Int32 → Int32 → Hp → Option (Int32 × Hp)) (a0 : Nat) (a1 : Int32) (a2 : Int32) (a3 : Int32) (H : Hp) : Option (Int32 × Hp) :=
  bd (aI H a0 0 0) fun x1 =>
  if (x1 ≤ a3 : Prop) then
    some (a2, H)
  else
    bd2 (FX10_has a1 a3 H) fun x2 H3 =>
    if (x2 = 0 : Prop) then
      fX10_corners_32 K4 a0 a1 a3 a2 H3
    else
      bd2 (FX10_beginsCorner a0 a3 H3) fun x4 H5 =>
      if (x4 = 0 : Prop) then
        fX10_corners_32 K4 a0 a1 a3 a2 H5
      else
        K4 a0 a1 (a2 + 1) (a3 + 1) H5
set_option maxHeartbeats 4000000 in
set_option maxRecDepth 100000 in
theorem tbX10_corners_4 {G : GG} {r : Int32} {H' : Hp} {K4 : Nat → Int32 → Int32 → Int32 → Hp → Option (Int32 × Hp)} (hK4 : ∀ (a0 : Nat) (a1 : Int32) (a2 : Int32) (a3 : Int32) (H : Hp), K4 a0 a1 a2 a3 H = some (r, H') → Sn G (T0 G (some (.int r)) H') mX10_corners 4 [some (.ref a0), some (.int a1), some (.int a2), some (.int a3)] [] H) {a0 : Nat} {a1 : Int32} {a2 : Int32} {a3 : Int32} {H : Hp} (h : bX10_corners_4 K4 a0 a1 a2 a3 H = some (r, H')) : Sn G (T0 G (some (.int r)) H') mX10_corners 4 [some (.ref a0), some (.int a1), some (.int a2), some (.int a3)] [] H := by
  unfold bX10_corners_4 at h
  refine sn_blk _ kX10_corners_4_0 (pc' := 7) (L' := [some (.ref a0), some (.int a1), some (.int a2), some (.int a3)]) (st' := [.int 0, .ref a0, .int a3]) rfl rfl ?_
  obtain ⟨x1, hx1, h⟩ := bd_inv h
  refine sn_iald dX10_corners_7 hx1 ?_
  refine sn_icmp_ge (tgt := 41) dX10_corners_8 (by decide) (fun c => ?_) (fun c => ?_)
  · rw [if_pos c] at h
    refine sn_blk _ kX10_corners_4_1 (pc' := 42) (L' := [some (.ref a0), some (.int a1), some (.int a2), some (.int a3)]) (st' := [.int a2]) rfl rfl ?_
    cases h
    exact sn_iret (ty := .int) dX10_corners_42 rfl rfl
  · rw [if_neg c] at h
    refine sn_blk _ kX10_corners_4_2 (pc' := 14) (L' := [some (.ref a0), some (.int a1), some (.int a2), some (.int a3)]) (st' := [.int a3, .int a1, .int a2]) rfl rfl ?_
    obtain ⟨x2, H3, hx2, h⟩ := bd2_inv h
    refine sn_calls (av := [.int a1, .int a3]) (st := [.int a2]) (M2 := mX10_has) dX10_corners_14 msX10_has mlX10_80 rfl rfl rfl rfl rfl (sX10_has hx2) ?_
    refine sn_if_eq (tgt := 32) dX10_corners_17 (by decide) (fun c => ?_) (fun c => ?_)
    · rw [if_pos c] at h
      refine sn_msk [true, true, false, true] (L2 := [some (.ref a0), some (.int a1), none, some (.int a3)]) rfl ?_
      exact tfX10_corners_32 hK4 h
    · rw [if_neg c] at h
      refine sn_blk _ kX10_corners_4_3 (pc' := 22) (L' := [some (.ref a0), some (.int a1), some (.int a2), some (.int a3)]) (st' := [.int a3, .ref a0, .int a2]) rfl rfl ?_
      obtain ⟨x4, H5, hx4, h⟩ := bd2_inv h
      refine sn_calls (av := [.ref a0, .int a3]) (st := [.int a2]) (M2 := mX10_beginsCorner) dX10_corners_22 msX10_beginsCorner mlX10_100 rfl rfl rfl rfl rfl (sX10_beginsCorner hx4) ?_
      refine sn_if_eq (tgt := 32) dX10_corners_25 (by decide) (fun c => ?_) (fun c => ?_)
      · rw [if_pos c] at h
        refine sn_msk [true, true, false, true] (L2 := [some (.ref a0), some (.int a1), none, some (.int a3)]) rfl ?_
        exact tfX10_corners_32 hK4 h
      · rw [if_neg c] at h
        refine sn_blk _ kX10_corners_4_4 (pc' := 4) (L' := [some (.ref a0), some (.int a1), some (.int (a2 + 1)), some (.int (a3 + 1))]) (st' := []) rfl rfl ?_
        exact hK4 _ _ _ _ _ h
def fX10_corners_4  : Nat → Nat → Int32 → Int32 → Int32 → Hp → Option (Int32 × Hp)
  | 0, _, _, _, _, _ => none
  | d + 1, a0, a1, a2, a3, H => bX10_corners_4 (fX10_corners_4  d) a0 a1 a2 a3 H
theorem tfX10_corners_4 {G : GG} {r : Int32} {H' : Hp}   : ∀ (d : Nat) {a0 : Nat} {a1 : Int32} {a2 : Int32} {a3 : Int32} {H : Hp}, fX10_corners_4  d a0 a1 a2 a3 H = some (r, H') → Sn G (T0 G (some (.int r)) H') mX10_corners 4 [some (.ref a0), some (.int a1), some (.int a2), some (.int a3)] [] H := by
  intro d
  induction d with
  | zero => intro a0 a1 a2 a3 H h; cases h
  | succ d ih => intro a0 a1 a2 a3 H h; exact tbX10_corners_4 (fun a0 a1 a2 a3 H h => ih h) h
def FX10_corners  (a0 : Nat) (a1 : Int32) (H : Hp) : Option (Int32 × Hp) :=
  fX10_corners_4  4096 a0 a1 0 0 H
set_option maxHeartbeats 4000000 in
set_option maxRecDepth 100000 in
theorem tFX10_corners {G : GG} {r : Int32} {H' : Hp}   {a0 : Nat} {a1 : Int32} {H : Hp} (h : FX10_corners  a0 a1 H = some (r, H')) : Sn G (T0 G (some (.int r)) H') mX10_corners 0 [some (.ref a0), some (.int a1), none, none] [] H := by
  unfold FX10_corners at h
  refine sn_blk _ kX10_corners_0_0 (pc' := 4) (L' := [some (.ref a0), some (.int a1), some (.int 0), some (.int 0)]) (st' := []) rfl rfl ?_
  exact tfX10_corners_4  4096 h
theorem sX10_corners {G : GG} {r : Int32} {H' : Hp} {a0 : Nat} {a1 : Int32} {H : Hp} (h : FX10_corners a0 a1 H = some (r, H')) : SM G mX10_corners [.ref a0, .int a1] H (some (.int r)) H' := tFX10_corners h
/-! SquareFoldsModel.allCorners([I)I -/
theorem kX10_allCorners_0_0 : decB cX10_allCorners 0 [(.aload_n 0, .null), (.iconst 1, .int 1), (.aload_n 0, .null), (.iconst 0, .int 0)] = true := by decide +kernel
theorem kX10_allCorners_0_1 : decB cX10_allCorners 5 [(.ishl, .null), (.iconst 1, .int 1), (.isub, .null)] = true := by decide +kernel
theorem dX10_allCorners_4 : decode cX10_allCorners 4 = .ok (.iaload, 1) := by decide +kernel
theorem dX10_allCorners_8 : decode cX10_allCorners 8 = .ok (.invokestatic 103, 3) := by decide +kernel
theorem dX10_allCorners_11 : decode cX10_allCorners 11 = .ok (.ireturn, 1) := by decide +kernel
def FX10_allCorners  (a0 : Nat) (H : Hp) : Option (Int32 × Hp) :=
  bd (aI H a0 0 0) fun x1 =>
  bd2 (FX10_corners a0 ((1 <<< (x1 &&& 31)) - 1) H) fun x2 H3 =>
  some (x2, H3)
set_option maxHeartbeats 4000000 in
set_option maxRecDepth 100000 in
theorem tFX10_allCorners {G : GG} {r : Int32} {H' : Hp}   {a0 : Nat} {H : Hp} (h : FX10_allCorners  a0 H = some (r, H')) : Sn G (T0 G (some (.int r)) H') mX10_allCorners 0 [some (.ref a0)] [] H := by
  unfold FX10_allCorners at h
  refine sn_blk _ kX10_allCorners_0_0 (pc' := 4) (L' := [some (.ref a0)]) (st' := [.int 0, .ref a0, .int 1, .ref a0]) rfl rfl ?_
  obtain ⟨x1, hx1, h⟩ := bd_inv h
  refine sn_iald dX10_allCorners_4 hx1 ?_
  refine sn_blk _ kX10_allCorners_0_1 (pc' := 8) (L' := [some (.ref a0)]) (st' := [.int ((1 <<< (x1 &&& 31)) - 1), .ref a0]) rfl rfl ?_
  obtain ⟨x2, H3, hx2, h⟩ := bd2_inv h
  refine sn_calls (av := [.ref a0, .int ((1 <<< (x1 &&& 31)) - 1)]) (st := []) (M2 := mX10_corners) dX10_allCorners_8 msX10_corners mlX10_103 rfl rfl rfl rfl rfl (sX10_corners hx2) ?_
  cases h
  exact sn_iret (ty := .int) dX10_allCorners_11 rfl rfl
theorem sX10_allCorners {G : GG} {r : Int32} {H' : Hp} {a0 : Nat} {H : Hp} (h : FX10_allCorners a0 H = some (r, H')) : SM G mX10_allCorners [.ref a0] H (some (.int r)) H' := tFX10_allCorners h
/-! SquareFoldsModel.ordinary([I)I -/
theorem kX10_ordinary_0_0 : decB cX10_ordinary 0 [(.iconst 0, .int 0), (.istore_n 1, .null), (.iconst 0, .int 0), (.istore_n 2, .null)] = true := by decide +kernel
theorem kX10_ordinary_4_0 : decB cX10_ordinary 4 [(.iload_n 2, .null), (.aload_n 0, .null), (.iconst 0, .int 0)] = true := by decide +kernel
theorem kX10_ordinary_4_1 : decB cX10_ordinary 34 [(.iload_n 1, .null)] = true := by decide +kernel
theorem kX10_ordinary_4_2 : decB cX10_ordinary 11 [(.iload_n 1, .null), (.aload_n 0, .null), (.iload_n 2, .null)] = true := by decide +kernel
theorem kX10_ordinary_4_3 : decB cX10_ordinary 17 [(.iload_n 2, .null)] = true := by decide +kernel
theorem kX10_ordinary_4_4 : decB cX10_ordinary 25 [(.iconst 0, .int 0), (.iadd, .null), (.istore_n 1, .null), (.iinc 2 1, .int 1), (.goto (-27), .retAddr 4)] = true := by decide +kernel
theorem kX10_ordinary_4_5 : decB cX10_ordinary 21 [(.iconst 1, .int 1), (.goto 4, .retAddr 26), (.iadd, .null), (.istore_n 1, .null), (.iinc 2 1, .int 1), (.goto (-27), .retAddr 4)] = true := by decide +kernel
theorem dX10_ordinary_7 : decode cX10_ordinary 7 = .ok (.iaload, 1) := by decide +kernel
theorem dX10_ordinary_8 : decode cX10_ordinary 8 = .ok (.if_icmp .ge 26, 3) := by decide +kernel
theorem dX10_ordinary_14 : decode cX10_ordinary 14 = .ok (.invokestatic 77, 3) := by decide +kernel
theorem dX10_ordinary_18 : decode cX10_ordinary 18 = .ok (.if_icmp .ne 7, 3) := by decide +kernel
theorem dX10_ordinary_35 : decode cX10_ordinary 35 = .ok (.ireturn, 1) := by decide +kernel
def bX10_ordinary_4 (K4 : Nat → Int32 → Int32 → Hp → Option (Int32 × Hp)) (a0 : Nat) (a1 : Int32) (a2 : Int32) (H : Hp) : Option (Int32 × Hp) :=
  bd (aI H a0 0 0) fun x1 =>
  if (x1 ≤ a2 : Prop) then
    some (a1, H)
  else
    bd2 (FX10_around a0 a2 H) fun x2 H3 =>
    if (x2 = a2 : Prop) then
      K4 a0 (a1 + 1) (a2 + 1) H3
    else
      K4 a0 (a1 + 0) (a2 + 1) H3
set_option maxHeartbeats 4000000 in
set_option maxRecDepth 100000 in
theorem tbX10_ordinary_4 {G : GG} {r : Int32} {H' : Hp} {K4 : Nat → Int32 → Int32 → Hp → Option (Int32 × Hp)} (hK4 : ∀ (a0 : Nat) (a1 : Int32) (a2 : Int32) (H : Hp), K4 a0 a1 a2 H = some (r, H') → Sn G (T0 G (some (.int r)) H') mX10_ordinary 4 [some (.ref a0), some (.int a1), some (.int a2)] [] H) {a0 : Nat} {a1 : Int32} {a2 : Int32} {H : Hp} (h : bX10_ordinary_4 K4 a0 a1 a2 H = some (r, H')) : Sn G (T0 G (some (.int r)) H') mX10_ordinary 4 [some (.ref a0), some (.int a1), some (.int a2)] [] H := by
  unfold bX10_ordinary_4 at h
  refine sn_blk _ kX10_ordinary_4_0 (pc' := 7) (L' := [some (.ref a0), some (.int a1), some (.int a2)]) (st' := [.int 0, .ref a0, .int a2]) rfl rfl ?_
  obtain ⟨x1, hx1, h⟩ := bd_inv h
  refine sn_iald dX10_ordinary_7 hx1 ?_
  refine sn_icmp_ge (tgt := 34) dX10_ordinary_8 (by decide) (fun c => ?_) (fun c => ?_)
  · rw [if_pos c] at h
    refine sn_blk _ kX10_ordinary_4_1 (pc' := 35) (L' := [some (.ref a0), some (.int a1), some (.int a2)]) (st' := [.int a1]) rfl rfl ?_
    cases h
    exact sn_iret (ty := .int) dX10_ordinary_35 rfl rfl
  · rw [if_neg c] at h
    refine sn_blk _ kX10_ordinary_4_2 (pc' := 14) (L' := [some (.ref a0), some (.int a1), some (.int a2)]) (st' := [.int a2, .ref a0, .int a1]) rfl rfl ?_
    obtain ⟨x2, H3, hx2, h⟩ := bd2_inv h
    refine sn_calls (av := [.ref a0, .int a2]) (st := [.int a1]) (M2 := mX10_around) dX10_ordinary_14 msX10_around mlX10_77 rfl rfl rfl rfl rfl (sX10_around hx2) ?_
    refine sn_blk _ kX10_ordinary_4_3 (pc' := 18) (L' := [some (.ref a0), some (.int a1), some (.int a2)]) (st' := [.int a2, .int x2, .int a1]) rfl rfl ?_
    refine sn_icmp_ne (tgt := 25) dX10_ordinary_18 (by decide) (fun c => ?_) (fun c => ?_)
    · rw [if_neg c] at h
      refine sn_blk _ kX10_ordinary_4_4 (pc' := 4) (L' := [some (.ref a0), some (.int (a1 + 0)), some (.int (a2 + 1))]) (st' := []) rfl rfl ?_
      exact hK4 _ _ _ _ h
    · rw [if_pos c] at h
      refine sn_blk _ kX10_ordinary_4_5 (pc' := 4) (L' := [some (.ref a0), some (.int (a1 + 1)), some (.int (a2 + 1))]) (st' := []) rfl rfl ?_
      exact hK4 _ _ _ _ h
def fX10_ordinary_4  : Nat → Nat → Int32 → Int32 → Hp → Option (Int32 × Hp)
  | 0, _, _, _, _ => none
  | d + 1, a0, a1, a2, H => bX10_ordinary_4 (fX10_ordinary_4  d) a0 a1 a2 H
theorem tfX10_ordinary_4 {G : GG} {r : Int32} {H' : Hp}   : ∀ (d : Nat) {a0 : Nat} {a1 : Int32} {a2 : Int32} {H : Hp}, fX10_ordinary_4  d a0 a1 a2 H = some (r, H') → Sn G (T0 G (some (.int r)) H') mX10_ordinary 4 [some (.ref a0), some (.int a1), some (.int a2)] [] H := by
  intro d
  induction d with
  | zero => intro a0 a1 a2 H h; cases h
  | succ d ih => intro a0 a1 a2 H h; exact tbX10_ordinary_4 (fun a0 a1 a2 H h => ih h) h
def FX10_ordinary  (a0 : Nat) (H : Hp) : Option (Int32 × Hp) :=
  fX10_ordinary_4  4096 a0 0 0 H
set_option maxHeartbeats 4000000 in
set_option maxRecDepth 100000 in
theorem tFX10_ordinary {G : GG} {r : Int32} {H' : Hp}   {a0 : Nat} {H : Hp} (h : FX10_ordinary  a0 H = some (r, H')) : Sn G (T0 G (some (.int r)) H') mX10_ordinary 0 [some (.ref a0), none, none] [] H := by
  unfold FX10_ordinary at h
  refine sn_blk _ kX10_ordinary_0_0 (pc' := 4) (L' := [some (.ref a0), some (.int 0), some (.int 0)]) (st' := []) rfl rfl ?_
  exact tfX10_ordinary_4  4096 h
theorem sX10_ordinary {G : GG} {r : Int32} {H' : Hp} {a0 : Nat} {H : Hp} (h : FX10_ordinary a0 H = some (r, H')) : SM G mX10_ordinary [.ref a0] H (some (.int r)) H' := tFX10_ordinary h
/-! SquareFoldsModel.turns([II)I -/
theorem kX10_turns_0_0 : decB cX10_turns 0 [(.iconst 1, .int 1), (.istore_n 2, .null), (.aload_n 0, .null), (.iload_n 1, .null)] = true := by decide +kernel
theorem kX10_turns_0_1 : decB cX10_turns 7 [(.istore_n 3, .null)] = true := by decide +kernel
theorem kX10_turns_8_0 : decB cX10_turns 8 [(.iload_n 3, .null), (.iload_n 1, .null)] = true := by decide +kernel
theorem kX10_turns_8_1 : decB cX10_turns 30 [(.iload_n 2, .null)] = true := by decide +kernel
theorem kX10_turns_8_2 : decB cX10_turns 13 [(.iload_n 2, .null), (.iconst 5, .int 5)] = true := by decide +kernel
theorem kX10_turns_8_3 : decB cX10_turns 30 [(.iload_n 2, .null)] = true := by decide +kernel
theorem kX10_turns_8_4 : decB cX10_turns 18 [(.iinc 2 1, .int 1), (.aload_n 0, .null), (.iload_n 3, .null)] = true := by decide +kernel
theorem kX10_turns_8_5 : decB cX10_turns 26 [(.istore_n 3, .null), (.goto (-19), .retAddr 8)] = true := by decide +kernel
theorem dX10_turns_4 : decode cX10_turns 4 = .ok (.invokestatic 77, 3) := by decide +kernel
theorem dX10_turns_10 : decode cX10_turns 10 = .ok (.if_icmp .eq 20, 3) := by decide +kernel
theorem dX10_turns_15 : decode cX10_turns 15 = .ok (.if_icmp .ge 15, 3) := by decide +kernel
theorem dX10_turns_23 : decode cX10_turns 23 = .ok (.invokestatic 77, 3) := by decide +kernel
theorem dX10_turns_31 : decode cX10_turns 31 = .ok (.ireturn, 1) := by decide +kernel
def bX10_turns_8 (K8 : Nat → Int32 → Int32 → Int32 → Hp → Option (Int32 × Hp)) (a0 : Nat) (a1 : Int32) (a2 : Int32) (a3 : Int32) (H : Hp) : Option (Int32 × Hp) :=
  if (a3 = a1 : Prop) then
    some (a2, H)
  else
    if (5 ≤ a2 : Prop) then
      some (a2, H)
    else
      bd2 (FX10_around a0 a3 H) fun x1 H2 =>
      K8 a0 a1 (a2 + 1) x1 H2
set_option maxHeartbeats 4000000 in
set_option maxRecDepth 100000 in
theorem tbX10_turns_8 {G : GG} {r : Int32} {H' : Hp} {K8 : Nat → Int32 → Int32 → Int32 → Hp → Option (Int32 × Hp)} (hK8 : ∀ (a0 : Nat) (a1 : Int32) (a2 : Int32) (a3 : Int32) (H : Hp), K8 a0 a1 a2 a3 H = some (r, H') → Sn G (T0 G (some (.int r)) H') mX10_turns 8 [some (.ref a0), some (.int a1), some (.int a2), some (.int a3)] [] H) {a0 : Nat} {a1 : Int32} {a2 : Int32} {a3 : Int32} {H : Hp} (h : bX10_turns_8 K8 a0 a1 a2 a3 H = some (r, H')) : Sn G (T0 G (some (.int r)) H') mX10_turns 8 [some (.ref a0), some (.int a1), some (.int a2), some (.int a3)] [] H := by
  unfold bX10_turns_8 at h
  refine sn_blk _ kX10_turns_8_0 (pc' := 10) (L' := [some (.ref a0), some (.int a1), some (.int a2), some (.int a3)]) (st' := [.int a1, .int a3]) rfl rfl ?_
  refine sn_icmp_eq (tgt := 30) dX10_turns_10 (by decide) (fun c => ?_) (fun c => ?_)
  · rw [if_pos c] at h
    refine sn_blk _ kX10_turns_8_1 (pc' := 31) (L' := [some (.ref a0), some (.int a1), some (.int a2), some (.int a3)]) (st' := [.int a2]) rfl rfl ?_
    cases h
    exact sn_iret (ty := .int) dX10_turns_31 rfl rfl
  · rw [if_neg c] at h
    refine sn_blk _ kX10_turns_8_2 (pc' := 15) (L' := [some (.ref a0), some (.int a1), some (.int a2), some (.int a3)]) (st' := [.int 5, .int a2]) rfl rfl ?_
    refine sn_icmp_ge (tgt := 30) dX10_turns_15 (by decide) (fun c => ?_) (fun c => ?_)
    · rw [if_pos c] at h
      refine sn_blk _ kX10_turns_8_3 (pc' := 31) (L' := [some (.ref a0), some (.int a1), some (.int a2), some (.int a3)]) (st' := [.int a2]) rfl rfl ?_
      cases h
      exact sn_iret (ty := .int) dX10_turns_31 rfl rfl
    · rw [if_neg c] at h
      refine sn_blk _ kX10_turns_8_4 (pc' := 23) (L' := [some (.ref a0), some (.int a1), some (.int (a2 + 1)), some (.int a3)]) (st' := [.int a3, .ref a0]) rfl rfl ?_
      obtain ⟨x1, H2, hx1, h⟩ := bd2_inv h
      refine sn_calls (av := [.ref a0, .int a3]) (st := []) (M2 := mX10_around) dX10_turns_23 msX10_around mlX10_77 rfl rfl rfl rfl rfl (sX10_around hx1) ?_
      refine sn_blk _ kX10_turns_8_5 (pc' := 8) (L' := [some (.ref a0), some (.int a1), some (.int (a2 + 1)), some (.int x1)]) (st' := []) rfl rfl ?_
      exact hK8 _ _ _ _ _ h
def fX10_turns_8  : Nat → Nat → Int32 → Int32 → Int32 → Hp → Option (Int32 × Hp)
  | 0, _, _, _, _, _ => none
  | d + 1, a0, a1, a2, a3, H => bX10_turns_8 (fX10_turns_8  d) a0 a1 a2 a3 H
theorem tfX10_turns_8 {G : GG} {r : Int32} {H' : Hp}   : ∀ (d : Nat) {a0 : Nat} {a1 : Int32} {a2 : Int32} {a3 : Int32} {H : Hp}, fX10_turns_8  d a0 a1 a2 a3 H = some (r, H') → Sn G (T0 G (some (.int r)) H') mX10_turns 8 [some (.ref a0), some (.int a1), some (.int a2), some (.int a3)] [] H := by
  intro d
  induction d with
  | zero => intro a0 a1 a2 a3 H h; cases h
  | succ d ih => intro a0 a1 a2 a3 H h; exact tbX10_turns_8 (fun a0 a1 a2 a3 H h => ih h) h
def FX10_turns  (a0 : Nat) (a1 : Int32) (H : Hp) : Option (Int32 × Hp) :=
  bd2 (FX10_around a0 a1 H) fun x1 H2 =>
  fX10_turns_8  4096 a0 a1 1 x1 H2
set_option maxHeartbeats 4000000 in
set_option maxRecDepth 100000 in
theorem tFX10_turns {G : GG} {r : Int32} {H' : Hp}   {a0 : Nat} {a1 : Int32} {H : Hp} (h : FX10_turns  a0 a1 H = some (r, H')) : Sn G (T0 G (some (.int r)) H') mX10_turns 0 [some (.ref a0), some (.int a1), none, none] [] H := by
  unfold FX10_turns at h
  refine sn_blk _ kX10_turns_0_0 (pc' := 4) (L' := [some (.ref a0), some (.int a1), some (.int 1), none]) (st' := [.int a1, .ref a0]) rfl rfl ?_
  obtain ⟨x1, H2, hx1, h⟩ := bd2_inv h
  refine sn_calls (av := [.ref a0, .int a1]) (st := []) (M2 := mX10_around) dX10_turns_4 msX10_around mlX10_77 rfl rfl rfl rfl rfl (sX10_around hx1) ?_
  refine sn_blk _ kX10_turns_0_1 (pc' := 8) (L' := [some (.ref a0), some (.int a1), some (.int 1), some (.int x1)]) (st' := []) rfl rfl ?_
  exact tfX10_turns_8  4096 h
theorem sX10_turns {G : GG} {r : Int32} {H' : Hp} {a0 : Nat} {a1 : Int32} {H : Hp} (h : FX10_turns a0 a1 H = some (r, H')) : SM G mX10_turns [.ref a0, .int a1] H (some (.int r)) H' := tFX10_turns h
/-! SquareFoldsModel.greatest([I)I -/
theorem kX10_greatest_0_0 : decB cX10_greatest 0 [(.iconst 0, .int 0), (.istore_n 1, .null), (.iconst 0, .int 0), (.istore_n 2, .null)] = true := by decide +kernel
theorem kX10_greatest_4_0 : decB cX10_greatest 4 [(.iload_n 2, .null), (.aload_n 0, .null), (.iconst 0, .int 0)] = true := by decide +kernel
theorem kX10_greatest_4_1 : decB cX10_greatest 36 [(.iload_n 1, .null)] = true := by decide +kernel
theorem kX10_greatest_4_2 : decB cX10_greatest 11 [(.aload_n 0, .null), (.iload_n 2, .null)] = true := by decide +kernel
theorem kX10_greatest_4_3 : decB cX10_greatest 16 [(.iload_n 1, .null)] = true := by decide +kernel
theorem kX10_greatest_4_4 : decB cX10_greatest 28 [(.iload_n 1, .null), (.istore_n 1, .null), (.iinc 2 1, .int 1), (.goto (-29), .retAddr 4)] = true := by decide +kernel
theorem kX10_greatest_4_5 : decB cX10_greatest 20 [(.aload_n 0, .null), (.iload_n 2, .null)] = true := by decide +kernel
theorem kX10_greatest_4_6 : decB cX10_greatest 25 [(.goto 4, .retAddr 29), (.istore_n 1, .null), (.iinc 2 1, .int 1), (.goto (-29), .retAddr 4)] = true := by decide +kernel
theorem dX10_greatest_7 : decode cX10_greatest 7 = .ok (.iaload, 1) := by decide +kernel
theorem dX10_greatest_8 : decode cX10_greatest 8 = .ok (.if_icmp .ge 28, 3) := by decide +kernel
theorem dX10_greatest_13 : decode cX10_greatest 13 = .ok (.invokestatic 161, 3) := by decide +kernel
theorem dX10_greatest_17 : decode cX10_greatest 17 = .ok (.if_icmp .le 11, 3) := by decide +kernel
theorem dX10_greatest_22 : decode cX10_greatest 22 = .ok (.invokestatic 161, 3) := by decide +kernel
theorem dX10_greatest_37 : decode cX10_greatest 37 = .ok (.ireturn, 1) := by decide +kernel
def bX10_greatest_4 (K4 : Nat → Int32 → Int32 → Hp → Option (Int32 × Hp)) (a0 : Nat) (a1 : Int32) (a2 : Int32) (H : Hp) : Option (Int32 × Hp) :=
  bd (aI H a0 0 0) fun x1 =>
  if (x1 ≤ a2 : Prop) then
    some (a1, H)
  else
    bd2 (FX10_turns a0 a2 H) fun x2 H3 =>
    if (x2 ≤ a1 : Prop) then
      K4 a0 a1 (a2 + 1) H3
    else
      bd2 (FX10_turns a0 a2 H3) fun x4 H5 =>
      K4 a0 x4 (a2 + 1) H5
set_option maxHeartbeats 4000000 in
set_option maxRecDepth 100000 in
theorem tbX10_greatest_4 {G : GG} {r : Int32} {H' : Hp} {K4 : Nat → Int32 → Int32 → Hp → Option (Int32 × Hp)} (hK4 : ∀ (a0 : Nat) (a1 : Int32) (a2 : Int32) (H : Hp), K4 a0 a1 a2 H = some (r, H') → Sn G (T0 G (some (.int r)) H') mX10_greatest 4 [some (.ref a0), some (.int a1), some (.int a2)] [] H) {a0 : Nat} {a1 : Int32} {a2 : Int32} {H : Hp} (h : bX10_greatest_4 K4 a0 a1 a2 H = some (r, H')) : Sn G (T0 G (some (.int r)) H') mX10_greatest 4 [some (.ref a0), some (.int a1), some (.int a2)] [] H := by
  unfold bX10_greatest_4 at h
  refine sn_blk _ kX10_greatest_4_0 (pc' := 7) (L' := [some (.ref a0), some (.int a1), some (.int a2)]) (st' := [.int 0, .ref a0, .int a2]) rfl rfl ?_
  obtain ⟨x1, hx1, h⟩ := bd_inv h
  refine sn_iald dX10_greatest_7 hx1 ?_
  refine sn_icmp_ge (tgt := 36) dX10_greatest_8 (by decide) (fun c => ?_) (fun c => ?_)
  · rw [if_pos c] at h
    refine sn_blk _ kX10_greatest_4_1 (pc' := 37) (L' := [some (.ref a0), some (.int a1), some (.int a2)]) (st' := [.int a1]) rfl rfl ?_
    cases h
    exact sn_iret (ty := .int) dX10_greatest_37 rfl rfl
  · rw [if_neg c] at h
    refine sn_blk _ kX10_greatest_4_2 (pc' := 13) (L' := [some (.ref a0), some (.int a1), some (.int a2)]) (st' := [.int a2, .ref a0]) rfl rfl ?_
    obtain ⟨x2, H3, hx2, h⟩ := bd2_inv h
    refine sn_calls (av := [.ref a0, .int a2]) (st := []) (M2 := mX10_turns) dX10_greatest_13 msX10_turns mlX10_161 rfl rfl rfl rfl rfl (sX10_turns hx2) ?_
    refine sn_blk _ kX10_greatest_4_3 (pc' := 17) (L' := [some (.ref a0), some (.int a1), some (.int a2)]) (st' := [.int a1, .int x2]) rfl rfl ?_
    refine sn_icmp_le (tgt := 28) dX10_greatest_17 (by decide) (fun c => ?_) (fun c => ?_)
    · rw [if_pos c] at h
      refine sn_blk _ kX10_greatest_4_4 (pc' := 4) (L' := [some (.ref a0), some (.int a1), some (.int (a2 + 1))]) (st' := []) rfl rfl ?_
      exact hK4 _ _ _ _ h
    · rw [if_neg c] at h
      refine sn_blk _ kX10_greatest_4_5 (pc' := 22) (L' := [some (.ref a0), some (.int a1), some (.int a2)]) (st' := [.int a2, .ref a0]) rfl rfl ?_
      obtain ⟨x4, H5, hx4, h⟩ := bd2_inv h
      refine sn_calls (av := [.ref a0, .int a2]) (st := []) (M2 := mX10_turns) dX10_greatest_22 msX10_turns mlX10_161 rfl rfl rfl rfl rfl (sX10_turns hx4) ?_
      refine sn_blk _ kX10_greatest_4_6 (pc' := 4) (L' := [some (.ref a0), some (.int x4), some (.int (a2 + 1))]) (st' := []) rfl rfl ?_
      exact hK4 _ _ _ _ h
def fX10_greatest_4  : Nat → Nat → Int32 → Int32 → Hp → Option (Int32 × Hp)
  | 0, _, _, _, _ => none
  | d + 1, a0, a1, a2, H => bX10_greatest_4 (fX10_greatest_4  d) a0 a1 a2 H
theorem tfX10_greatest_4 {G : GG} {r : Int32} {H' : Hp}   : ∀ (d : Nat) {a0 : Nat} {a1 : Int32} {a2 : Int32} {H : Hp}, fX10_greatest_4  d a0 a1 a2 H = some (r, H') → Sn G (T0 G (some (.int r)) H') mX10_greatest 4 [some (.ref a0), some (.int a1), some (.int a2)] [] H := by
  intro d
  induction d with
  | zero => intro a0 a1 a2 H h; cases h
  | succ d ih => intro a0 a1 a2 H h; exact tbX10_greatest_4 (fun a0 a1 a2 H h => ih h) h
def FX10_greatest  (a0 : Nat) (H : Hp) : Option (Int32 × Hp) :=
  fX10_greatest_4  4096 a0 0 0 H
set_option maxHeartbeats 4000000 in
set_option maxRecDepth 100000 in
theorem tFX10_greatest {G : GG} {r : Int32} {H' : Hp}   {a0 : Nat} {H : Hp} (h : FX10_greatest  a0 H = some (r, H')) : Sn G (T0 G (some (.int r)) H') mX10_greatest 0 [some (.ref a0), none, none] [] H := by
  unfold FX10_greatest at h
  refine sn_blk _ kX10_greatest_0_0 (pc' := 4) (L' := [some (.ref a0), some (.int 0), some (.int 0)]) (st' := []) rfl rfl ?_
  exact tfX10_greatest_4  4096 h
theorem sX10_greatest {G : GG} {r : Int32} {H' : Hp} {a0 : Nat} {H : Hp} (h : FX10_greatest a0 H = some (r, H')) : SM G mX10_greatest [.ref a0] H (some (.int r)) H' := tFX10_greatest h
/-! SquareFoldsModel.rowOf([II)I -/
theorem kX10_rowOf_0_0 : decB cX10_rowOf 0 [(.iconst 0, .int 0), (.istore_n 2, .null), (.iload_n 1, .null), (.istore_n 3, .null), (.iconst 0, .int 0), (.istore 4, .null)] = true := by decide +kernel
theorem kX10_rowOf_7_0 : decB cX10_rowOf 7 [(.iload 4, .null), (.iconst 5, .int 5)] = true := by decide +kernel
theorem kX10_rowOf_7_1 : decB cX10_rowOf 31 [(.iload_n 2, .null)] = true := by decide +kernel
theorem kX10_rowOf_7_2 : decB cX10_rowOf 13 [(.iload_n 2, .null), (.iconst 1, .int 1), (.iload_n 3, .null), (.ishl, .null), (.ior, .null), (.istore_n 2, .null), (.aload_n 0, .null), (.iload_n 3, .null)] = true := by decide +kernel
theorem kX10_rowOf_7_3 : decB cX10_rowOf 24 [(.istore_n 3, .null), (.iinc 4 1, .int 1), (.goto (-21), .retAddr 7)] = true := by decide +kernel
theorem dX10_rowOf_10 : decode cX10_rowOf 10 = .ok (.if_icmp .ge 21, 3) := by decide +kernel
theorem dX10_rowOf_21 : decode cX10_rowOf 21 = .ok (.invokestatic 64, 3) := by decide +kernel
theorem dX10_rowOf_32 : decode cX10_rowOf 32 = .ok (.ireturn, 1) := by decide +kernel
def bX10_rowOf_7 (K7 : Nat → Int32 → Int32 → Int32 → Hp → Option (Int32 × Hp)) (a0 : Nat) (a2 : Int32) (a3 : Int32) (a4 : Int32) (H : Hp) : Option (Int32 × Hp) :=
  if (5 ≤ a4 : Prop) then
    some (a2, H)
  else
    bd2 (FX10_right a0 a3 H) fun x1 H2 =>
    K7 a0 (a2 ||| (1 <<< (a3 &&& 31))) x1 (a4 + 1) H2
set_option maxHeartbeats 4000000 in
set_option maxRecDepth 100000 in
theorem tbX10_rowOf_7 {G : GG} {r : Int32} {H' : Hp} {K7 : Nat → Int32 → Int32 → Int32 → Hp → Option (Int32 × Hp)} (hK7 : ∀ (a0 : Nat) (a2 : Int32) (a3 : Int32) (a4 : Int32) (H : Hp), K7 a0 a2 a3 a4 H = some (r, H') → Sn G (T0 G (some (.int r)) H') mX10_rowOf 7 [some (.ref a0), none, some (.int a2), some (.int a3), some (.int a4)] [] H) {a0 : Nat} {a2 : Int32} {a3 : Int32} {a4 : Int32} {H : Hp} (h : bX10_rowOf_7 K7 a0 a2 a3 a4 H = some (r, H')) : Sn G (T0 G (some (.int r)) H') mX10_rowOf 7 [some (.ref a0), none, some (.int a2), some (.int a3), some (.int a4)] [] H := by
  unfold bX10_rowOf_7 at h
  refine sn_blk _ kX10_rowOf_7_0 (pc' := 10) (L' := [some (.ref a0), none, some (.int a2), some (.int a3), some (.int a4)]) (st' := [.int 5, .int a4]) rfl rfl ?_
  refine sn_icmp_ge (tgt := 31) dX10_rowOf_10 (by decide) (fun c => ?_) (fun c => ?_)
  · rw [if_pos c] at h
    refine sn_blk _ kX10_rowOf_7_1 (pc' := 32) (L' := [some (.ref a0), none, some (.int a2), some (.int a3), some (.int a4)]) (st' := [.int a2]) rfl rfl ?_
    cases h
    exact sn_iret (ty := .int) dX10_rowOf_32 rfl rfl
  · rw [if_neg c] at h
    refine sn_blk _ kX10_rowOf_7_2 (pc' := 21) (L' := [some (.ref a0), none, some (.int (a2 ||| (1 <<< (a3 &&& 31)))), some (.int a3), some (.int a4)]) (st' := [.int a3, .ref a0]) rfl rfl ?_
    obtain ⟨x1, H2, hx1, h⟩ := bd2_inv h
    refine sn_calls (av := [.ref a0, .int a3]) (st := []) (M2 := mX10_right) dX10_rowOf_21 msX10_right mlX10_64 rfl rfl rfl rfl rfl (sX10_right hx1) ?_
    refine sn_blk _ kX10_rowOf_7_3 (pc' := 7) (L' := [some (.ref a0), none, some (.int (a2 ||| (1 <<< (a3 &&& 31)))), some (.int x1), some (.int (a4 + 1))]) (st' := []) rfl rfl ?_
    exact hK7 _ _ _ _ _ h
def fX10_rowOf_7  : Nat → Nat → Int32 → Int32 → Int32 → Hp → Option (Int32 × Hp)
  | 0, _, _, _, _, _ => none
  | d + 1, a0, a2, a3, a4, H => bX10_rowOf_7 (fX10_rowOf_7  d) a0 a2 a3 a4 H
theorem tfX10_rowOf_7 {G : GG} {r : Int32} {H' : Hp}   : ∀ (d : Nat) {a0 : Nat} {a2 : Int32} {a3 : Int32} {a4 : Int32} {H : Hp}, fX10_rowOf_7  d a0 a2 a3 a4 H = some (r, H') → Sn G (T0 G (some (.int r)) H') mX10_rowOf 7 [some (.ref a0), none, some (.int a2), some (.int a3), some (.int a4)] [] H := by
  intro d
  induction d with
  | zero => intro a0 a2 a3 a4 H h; cases h
  | succ d ih => intro a0 a2 a3 a4 H h; exact tbX10_rowOf_7 (fun a0 a2 a3 a4 H h => ih h) h
def FX10_rowOf  (a0 : Nat) (a1 : Int32) (H : Hp) : Option (Int32 × Hp) :=
  fX10_rowOf_7  4096 a0 0 a1 0 H
set_option maxHeartbeats 4000000 in
set_option maxRecDepth 100000 in
theorem tFX10_rowOf {G : GG} {r : Int32} {H' : Hp}   {a0 : Nat} {a1 : Int32} {H : Hp} (h : FX10_rowOf  a0 a1 H = some (r, H')) : Sn G (T0 G (some (.int r)) H') mX10_rowOf 0 [some (.ref a0), some (.int a1), none, none, none] [] H := by
  unfold FX10_rowOf at h
  refine sn_blk _ kX10_rowOf_0_0 (pc' := 7) (L' := [some (.ref a0), some (.int a1), some (.int 0), some (.int a1), some (.int 0)]) (st' := []) rfl rfl ?_
  refine sn_msk [true, false, true, true, true] (L2 := [some (.ref a0), none, some (.int 0), some (.int a1), some (.int 0)]) rfl ?_
  exact tfX10_rowOf_7  4096 h
theorem sX10_rowOf {G : GG} {r : Int32} {H' : Hp} {a0 : Nat} {a1 : Int32} {H : Hp} (h : FX10_rowOf a0 a1 H = some (r, H')) : SM G mX10_rowOf [.ref a0, .int a1] H (some (.int r)) H' := tFX10_rowOf h
/-! SquareFoldsModel.rows([I)I -/
theorem kX10_rows_0_0 : decB cX10_rows 0 [(.iconst 0, .int 0), (.istore_n 1, .null), (.iconst 0, .int 0), (.istore_n 2, .null)] = true := by decide +kernel
theorem kX10_rows_4_0 : decB cX10_rows 4 [(.iload_n 2, .null), (.aload_n 0, .null), (.iconst 0, .int 0)] = true := by decide +kernel
theorem kX10_rows_4_1 : decB cX10_rows 37 [(.iload_n 1, .null)] = true := by decide +kernel
theorem kX10_rows_4_2 : decB cX10_rows 11 [(.iload_n 1, .null), (.aload_n 0, .null), (.iload_n 2, .null)] = true := by decide +kernel
theorem kX10_rows_4_3 : decB cX10_rows 17 [(.iload_n 2, .null)] = true := by decide +kernel
theorem kX10_rows_4_4 : decB cX10_rows 28 [(.iconst 0, .int 0), (.iadd, .null), (.istore_n 1, .null), (.iinc 2 1, .int 1), (.goto (-30), .retAddr 4)] = true := by decide +kernel
theorem kX10_rows_4_5 : decB cX10_rows 24 [(.iconst 1, .int 1), (.goto 4, .retAddr 29), (.iadd, .null), (.istore_n 1, .null), (.iinc 2 1, .int 1), (.goto (-30), .retAddr 4)] = true := by decide +kernel
theorem dX10_rows_7 : decode cX10_rows 7 = .ok (.iaload, 1) := by decide +kernel
theorem dX10_rows_8 : decode cX10_rows 8 = .ok (.if_icmp .ge 29, 3) := by decide +kernel
theorem dX10_rows_14 : decode cX10_rows 14 = .ok (.invokestatic 84, 3) := by decide +kernel
theorem dX10_rows_18 : decode cX10_rows 18 = .ok (.invokestatic 94, 3) := by decide +kernel
theorem dX10_rows_21 : decode cX10_rows 21 = .ok (.ifCond .eq 7, 3) := by decide +kernel
theorem dX10_rows_38 : decode cX10_rows 38 = .ok (.ireturn, 1) := by decide +kernel
def bX10_rows_4 (K4 : Nat → Int32 → Int32 → Hp → Option (Int32 × Hp)) (a0 : Nat) (a1 : Int32) (a2 : Int32) (H : Hp) : Option (Int32 × Hp) :=
  bd (aI H a0 0 0) fun x1 =>
  if (x1 ≤ a2 : Prop) then
    some (a1, H)
  else
    bd2 (FX10_rowOf a0 a2 H) fun x2 H3 =>
    bd2 (FX10_isLeast x2 a2 H3) fun x4 H5 =>
    if (x4 = 0 : Prop) then
      K4 a0 (a1 + 0) (a2 + 1) H5
    else
      K4 a0 (a1 + 1) (a2 + 1) H5
set_option maxHeartbeats 4000000 in
set_option maxRecDepth 100000 in
theorem tbX10_rows_4 {G : GG} {r : Int32} {H' : Hp} {K4 : Nat → Int32 → Int32 → Hp → Option (Int32 × Hp)} (hK4 : ∀ (a0 : Nat) (a1 : Int32) (a2 : Int32) (H : Hp), K4 a0 a1 a2 H = some (r, H') → Sn G (T0 G (some (.int r)) H') mX10_rows 4 [some (.ref a0), some (.int a1), some (.int a2)] [] H) {a0 : Nat} {a1 : Int32} {a2 : Int32} {H : Hp} (h : bX10_rows_4 K4 a0 a1 a2 H = some (r, H')) : Sn G (T0 G (some (.int r)) H') mX10_rows 4 [some (.ref a0), some (.int a1), some (.int a2)] [] H := by
  unfold bX10_rows_4 at h
  refine sn_blk _ kX10_rows_4_0 (pc' := 7) (L' := [some (.ref a0), some (.int a1), some (.int a2)]) (st' := [.int 0, .ref a0, .int a2]) rfl rfl ?_
  obtain ⟨x1, hx1, h⟩ := bd_inv h
  refine sn_iald dX10_rows_7 hx1 ?_
  refine sn_icmp_ge (tgt := 37) dX10_rows_8 (by decide) (fun c => ?_) (fun c => ?_)
  · rw [if_pos c] at h
    refine sn_blk _ kX10_rows_4_1 (pc' := 38) (L' := [some (.ref a0), some (.int a1), some (.int a2)]) (st' := [.int a1]) rfl rfl ?_
    cases h
    exact sn_iret (ty := .int) dX10_rows_38 rfl rfl
  · rw [if_neg c] at h
    refine sn_blk _ kX10_rows_4_2 (pc' := 14) (L' := [some (.ref a0), some (.int a1), some (.int a2)]) (st' := [.int a2, .ref a0, .int a1]) rfl rfl ?_
    obtain ⟨x2, H3, hx2, h⟩ := bd2_inv h
    refine sn_calls (av := [.ref a0, .int a2]) (st := [.int a1]) (M2 := mX10_rowOf) dX10_rows_14 msX10_rowOf mlX10_84 rfl rfl rfl rfl rfl (sX10_rowOf hx2) ?_
    refine sn_blk _ kX10_rows_4_3 (pc' := 18) (L' := [some (.ref a0), some (.int a1), some (.int a2)]) (st' := [.int a2, .int x2, .int a1]) rfl rfl ?_
    obtain ⟨x4, H5, hx4, h⟩ := bd2_inv h
    refine sn_calls (av := [.int x2, .int a2]) (st := [.int a1]) (M2 := mX10_isLeast) dX10_rows_18 msX10_isLeast mlX10_94 rfl rfl rfl rfl rfl (sX10_isLeast hx4) ?_
    refine sn_if_eq (tgt := 28) dX10_rows_21 (by decide) (fun c => ?_) (fun c => ?_)
    · rw [if_pos c] at h
      refine sn_blk _ kX10_rows_4_4 (pc' := 4) (L' := [some (.ref a0), some (.int (a1 + 0)), some (.int (a2 + 1))]) (st' := []) rfl rfl ?_
      exact hK4 _ _ _ _ h
    · rw [if_neg c] at h
      refine sn_blk _ kX10_rows_4_5 (pc' := 4) (L' := [some (.ref a0), some (.int (a1 + 1)), some (.int (a2 + 1))]) (st' := []) rfl rfl ?_
      exact hK4 _ _ _ _ h
def fX10_rows_4  : Nat → Nat → Int32 → Int32 → Hp → Option (Int32 × Hp)
  | 0, _, _, _, _ => none
  | d + 1, a0, a1, a2, H => bX10_rows_4 (fX10_rows_4  d) a0 a1 a2 H
theorem tfX10_rows_4 {G : GG} {r : Int32} {H' : Hp}   : ∀ (d : Nat) {a0 : Nat} {a1 : Int32} {a2 : Int32} {H : Hp}, fX10_rows_4  d a0 a1 a2 H = some (r, H') → Sn G (T0 G (some (.int r)) H') mX10_rows 4 [some (.ref a0), some (.int a1), some (.int a2)] [] H := by
  intro d
  induction d with
  | zero => intro a0 a1 a2 H h; cases h
  | succ d ih => intro a0 a1 a2 H h; exact tbX10_rows_4 (fun a0 a1 a2 H h => ih h) h
def FX10_rows  (a0 : Nat) (H : Hp) : Option (Int32 × Hp) :=
  fX10_rows_4  4096 a0 0 0 H
set_option maxHeartbeats 4000000 in
set_option maxRecDepth 100000 in
theorem tFX10_rows {G : GG} {r : Int32} {H' : Hp}   {a0 : Nat} {H : Hp} (h : FX10_rows  a0 H = some (r, H')) : Sn G (T0 G (some (.int r)) H') mX10_rows 0 [some (.ref a0), none, none] [] H := by
  unfold FX10_rows at h
  refine sn_blk _ kX10_rows_0_0 (pc' := 4) (L' := [some (.ref a0), some (.int 0), some (.int 0)]) (st' := []) rfl rfl ?_
  exact tfX10_rows_4  4096 h
theorem sX10_rows {G : GG} {r : Int32} {H' : Hp} {a0 : Nat} {H : Hp} (h : FX10_rows a0 H = some (r, H')) : SM G mX10_rows [.ref a0] H (some (.int r)) H' := tFX10_rows h
/-! SquareFoldsModel.isContinued([II)Z -/
theorem kX10_isContinued_0_0 : decB cX10_isContinued 0 [(.aload_n 0, .null), (.iload_n 1, .null)] = true := by decide +kernel
theorem kX10_isContinued_0_1 : decB cX10_isContinued 5 [(.istore_n 2, .null), (.iconst 1, .int 1), (.istore_n 3, .null), (.iconst 0, .int 0), (.istore 4, .null)] = true := by decide +kernel
theorem kX10_isContinued_11_0 : decB cX10_isContinued 11 [(.iload 4, .null), (.aload_n 0, .null), (.iconst 0, .int 0)] = true := by decide +kernel
theorem kX10_isContinued_11_1 : decB cX10_isContinued 55 [(.iload_n 3, .null)] = true := by decide +kernel
theorem kX10_isContinued_11_2 : decB cX10_isContinued 19 [(.iload_n 3, .null)] = true := by decide +kernel
theorem kX10_isContinued_11_3 : decB cX10_isContinued 47 [(.iconst 0, .int 0), (.istore_n 3, .null), (.iinc 4 1, .int 1), (.goto (-41), .retAddr 11)] = true := by decide +kernel
theorem kX10_isContinued_11_4 : decB cX10_isContinued 23 [(.iload_n 2, .null), (.iload 4, .null)] = true := by decide +kernel
theorem kX10_isContinued_11_5 : decB cX10_isContinued 32 [(.aload_n 0, .null), (.iload 4, .null)] = true := by decide +kernel
theorem kX10_isContinued_11_6 : decB cX10_isContinued 38 [(.iload 4, .null)] = true := by decide +kernel
theorem kX10_isContinued_11_7 : decB cX10_isContinued 47 [(.iconst 0, .int 0), (.istore_n 3, .null), (.iinc 4 1, .int 1), (.goto (-41), .retAddr 11)] = true := by decide +kernel
theorem kX10_isContinued_43_0 : decB cX10_isContinued 43 [(.iconst 1, .int 1), (.goto 4, .retAddr 48), (.istore_n 3, .null), (.iinc 4 1, .int 1), (.goto (-41), .retAddr 11)] = true := by decide +kernel
theorem dX10_isContinued_2 : decode cX10_isContinued 2 = .ok (.invokestatic 84, 3) := by decide +kernel
theorem dX10_isContinued_15 : decode cX10_isContinued 15 = .ok (.iaload, 1) := by decide +kernel
theorem dX10_isContinued_16 : decode cX10_isContinued 16 = .ok (.if_icmp .ge 39, 3) := by decide +kernel
theorem dX10_isContinued_20 : decode cX10_isContinued 20 = .ok (.ifCond .eq 27, 3) := by decide +kernel
theorem dX10_isContinued_26 : decode cX10_isContinued 26 = .ok (.invokestatic 80, 3) := by decide +kernel
theorem dX10_isContinued_29 : decode cX10_isContinued 29 = .ok (.ifCond .eq 14, 3) := by decide +kernel
theorem dX10_isContinued_35 : decode cX10_isContinued 35 = .ok (.invokestatic 77, 3) := by decide +kernel
theorem dX10_isContinued_40 : decode cX10_isContinued 40 = .ok (.if_icmp .ne 7, 3) := by decide +kernel
theorem dX10_isContinued_56 : decode cX10_isContinued 56 = .ok (.ireturn, 1) := by decide +kernel
def fX10_isContinued_43 (K11 : Nat → Int32 → Int32 → Int32 → Hp → Option (Int32 × Hp)) (a0 : Nat) (a2 : Int32) (a4 : Int32) (H : Hp) : Option (Int32 × Hp) :=
  K11 a0 a2 1 (a4 + 1) H
set_option maxHeartbeats 4000000 in
set_option maxRecDepth 100000 in
theorem tfX10_isContinued_43 {G : GG} {r : Int32} {H' : Hp} {K11 : Nat → Int32 → Int32 → Int32 → Hp → Option (Int32 × Hp)} (hK11 : ∀ (a0 : Nat) (a2 : Int32) (a3 : Int32) (a4 : Int32) (H : Hp), K11 a0 a2 a3 a4 H = some (r, H') → Sn G (T0 G (some (.int r)) H') mX10_isContinued 11 [some (.ref a0), none, some (.int a2), some (.int a3), some (.int a4)] [] H) {a0 : Nat} {a2 : Int32} {a4 : Int32} {H : Hp} (h : fX10_isContinued_43 K11 a0 a2 a4 H = some (r, H')) : Sn G (T0 G (some (.int r)) H') mX10_isContinued 43 [some (.ref a0), none, some (.int a2), none, some (.int a4)] [] H := by
  unfold fX10_isContinued_43 at h
  refine sn_blk _ kX10_isContinued_43_0 (pc' := 11) (L' := [some (.ref a0), none, some (.int a2), some (.int 1), some (.int (a4 + 1))]) (st' := []) rfl rfl ?_
  exact hK11 _ _ _ _ _ h
def bX10_isContinued_11 (K11 : Nat → Int32 → Int32 → Int32 → Hp → Option (Int32 × Hp)) (a0 : Nat) (a2 : Int32) (a3 : Int32) (a4 : Int32) (H : Hp) : Option (Int32 × Hp) :=
  bd (aI H a0 0 0) fun x1 =>
  if (x1 ≤ a4 : Prop) then
    gp (a3 = 0 ∨ a3 = 1) (some (a3, H))
  else
    if (a3 = 0 : Prop) then
      K11 a0 a2 0 (a4 + 1) H
    else
      bd2 (FX10_has a2 a4 H) fun x2 H3 =>
      if (x2 = 0 : Prop) then
        fX10_isContinued_43 K11 a0 a2 a4 H3
      else
        bd2 (FX10_around a0 a4 H3) fun x4 H5 =>
        if (x4 = a4 : Prop) then
          fX10_isContinued_43 K11 a0 a2 a4 H5
        else
          K11 a0 a2 0 (a4 + 1) H5
set_option maxHeartbeats 4000000 in
set_option maxRecDepth 100000 in
theorem tbX10_isContinued_11 {G : GG} {r : Int32} {H' : Hp} {K11 : Nat → Int32 → Int32 → Int32 → Hp → Option (Int32 × Hp)} (hK11 : ∀ (a0 : Nat) (a2 : Int32) (a3 : Int32) (a4 : Int32) (H : Hp), K11 a0 a2 a3 a4 H = some (r, H') → Sn G (T0 G (some (.int r)) H') mX10_isContinued 11 [some (.ref a0), none, some (.int a2), some (.int a3), some (.int a4)] [] H) {a0 : Nat} {a2 : Int32} {a3 : Int32} {a4 : Int32} {H : Hp} (h : bX10_isContinued_11 K11 a0 a2 a3 a4 H = some (r, H')) : Sn G (T0 G (some (.int r)) H') mX10_isContinued 11 [some (.ref a0), none, some (.int a2), some (.int a3), some (.int a4)] [] H := by
  unfold bX10_isContinued_11 at h
  refine sn_blk _ kX10_isContinued_11_0 (pc' := 15) (L' := [some (.ref a0), none, some (.int a2), some (.int a3), some (.int a4)]) (st' := [.int 0, .ref a0, .int a4]) rfl rfl ?_
  obtain ⟨x1, hx1, h⟩ := bd_inv h
  refine sn_iald dX10_isContinued_15 hx1 ?_
  refine sn_icmp_ge (tgt := 55) dX10_isContinued_16 (by decide) (fun c => ?_) (fun c => ?_)
  · rw [if_pos c] at h
    refine sn_blk _ kX10_isContinued_11_1 (pc' := 56) (L' := [some (.ref a0), none, some (.int a2), some (.int a3), some (.int a4)]) (st' := [.int a3]) rfl rfl ?_
    obtain ⟨hb, h⟩ := gp_inv h
    cases h
    exact sn_iret (ty := .boolean) dX10_isContinued_56 rfl (nar_bool hb)
  · rw [if_neg c] at h
    refine sn_blk _ kX10_isContinued_11_2 (pc' := 20) (L' := [some (.ref a0), none, some (.int a2), some (.int a3), some (.int a4)]) (st' := [.int a3]) rfl rfl ?_
    refine sn_if_eq (tgt := 47) dX10_isContinued_20 (by decide) (fun c => ?_) (fun c => ?_)
    · rw [if_pos c] at h
      refine sn_blk _ kX10_isContinued_11_3 (pc' := 11) (L' := [some (.ref a0), none, some (.int a2), some (.int 0), some (.int (a4 + 1))]) (st' := []) rfl rfl ?_
      exact hK11 _ _ _ _ _ h
    · rw [if_neg c] at h
      refine sn_blk _ kX10_isContinued_11_4 (pc' := 26) (L' := [some (.ref a0), none, some (.int a2), some (.int a3), some (.int a4)]) (st' := [.int a4, .int a2]) rfl rfl ?_
      obtain ⟨x2, H3, hx2, h⟩ := bd2_inv h
      refine sn_calls (av := [.int a2, .int a4]) (st := []) (M2 := mX10_has) dX10_isContinued_26 msX10_has mlX10_80 rfl rfl rfl rfl rfl (sX10_has hx2) ?_
      refine sn_if_eq (tgt := 43) dX10_isContinued_29 (by decide) (fun c => ?_) (fun c => ?_)
      · rw [if_pos c] at h
        refine sn_msk [true, true, true, false, true] (L2 := [some (.ref a0), none, some (.int a2), none, some (.int a4)]) rfl ?_
        exact tfX10_isContinued_43 hK11 h
      · rw [if_neg c] at h
        refine sn_blk _ kX10_isContinued_11_5 (pc' := 35) (L' := [some (.ref a0), none, some (.int a2), some (.int a3), some (.int a4)]) (st' := [.int a4, .ref a0]) rfl rfl ?_
        obtain ⟨x4, H5, hx4, h⟩ := bd2_inv h
        refine sn_calls (av := [.ref a0, .int a4]) (st := []) (M2 := mX10_around) dX10_isContinued_35 msX10_around mlX10_77 rfl rfl rfl rfl rfl (sX10_around hx4) ?_
        refine sn_blk _ kX10_isContinued_11_6 (pc' := 40) (L' := [some (.ref a0), none, some (.int a2), some (.int a3), some (.int a4)]) (st' := [.int a4, .int x4]) rfl rfl ?_
        refine sn_icmp_ne (tgt := 47) dX10_isContinued_40 (by decide) (fun c => ?_) (fun c => ?_)
        · rw [if_neg c] at h
          refine sn_blk _ kX10_isContinued_11_7 (pc' := 11) (L' := [some (.ref a0), none, some (.int a2), some (.int 0), some (.int (a4 + 1))]) (st' := []) rfl rfl ?_
          exact hK11 _ _ _ _ _ h
        · rw [if_pos c] at h
          refine sn_msk [true, true, true, false, true] (L2 := [some (.ref a0), none, some (.int a2), none, some (.int a4)]) rfl ?_
          exact tfX10_isContinued_43 hK11 h
def fX10_isContinued_11  : Nat → Nat → Int32 → Int32 → Int32 → Hp → Option (Int32 × Hp)
  | 0, _, _, _, _, _ => none
  | d + 1, a0, a2, a3, a4, H => bX10_isContinued_11 (fX10_isContinued_11  d) a0 a2 a3 a4 H
theorem tfX10_isContinued_11 {G : GG} {r : Int32} {H' : Hp}   : ∀ (d : Nat) {a0 : Nat} {a2 : Int32} {a3 : Int32} {a4 : Int32} {H : Hp}, fX10_isContinued_11  d a0 a2 a3 a4 H = some (r, H') → Sn G (T0 G (some (.int r)) H') mX10_isContinued 11 [some (.ref a0), none, some (.int a2), some (.int a3), some (.int a4)] [] H := by
  intro d
  induction d with
  | zero => intro a0 a2 a3 a4 H h; cases h
  | succ d ih => intro a0 a2 a3 a4 H h; exact tbX10_isContinued_11 (fun a0 a2 a3 a4 H h => ih h) h
def FX10_isContinued  (a0 : Nat) (a1 : Int32) (H : Hp) : Option (Int32 × Hp) :=
  bd2 (FX10_rowOf a0 a1 H) fun x1 H2 =>
  fX10_isContinued_11  4096 a0 x1 1 0 H2
set_option maxHeartbeats 4000000 in
set_option maxRecDepth 100000 in
theorem tFX10_isContinued {G : GG} {r : Int32} {H' : Hp}   {a0 : Nat} {a1 : Int32} {H : Hp} (h : FX10_isContinued  a0 a1 H = some (r, H')) : Sn G (T0 G (some (.int r)) H') mX10_isContinued 0 [some (.ref a0), some (.int a1), none, none, none] [] H := by
  unfold FX10_isContinued at h
  refine sn_blk _ kX10_isContinued_0_0 (pc' := 2) (L' := [some (.ref a0), some (.int a1), none, none, none]) (st' := [.int a1, .ref a0]) rfl rfl ?_
  obtain ⟨x1, H2, hx1, h⟩ := bd2_inv h
  refine sn_calls (av := [.ref a0, .int a1]) (st := []) (M2 := mX10_rowOf) dX10_isContinued_2 msX10_rowOf mlX10_84 rfl rfl rfl rfl rfl (sX10_rowOf hx1) ?_
  refine sn_blk _ kX10_isContinued_0_1 (pc' := 11) (L' := [some (.ref a0), some (.int a1), some (.int x1), some (.int 1), some (.int 0)]) (st' := []) rfl rfl ?_
  refine sn_msk [true, false, true, true, true] (L2 := [some (.ref a0), none, some (.int x1), some (.int 1), some (.int 0)]) rfl ?_
  exact tfX10_isContinued_11  4096 h
theorem sX10_isContinued {G : GG} {r : Int32} {H' : Hp} {a0 : Nat} {a1 : Int32} {H : Hp} (h : FX10_isContinued a0 a1 H = some (r, H')) : SM G mX10_isContinued [.ref a0, .int a1] H (some (.int r)) H' := tFX10_isContinued h
/-! SquareFoldsModel.bandOf([II)I -/
theorem kX10_bandOf_0_0 : decB cX10_bandOf 0 [(.aload_n 0, .null), (.iload_n 1, .null)] = true := by decide +kernel
theorem kX10_bandOf_0_1 : decB cX10_bandOf 5 [(.istore_n 2, .null), (.iconst 0, .int 0), (.istore_n 3, .null)] = true := by decide +kernel
theorem kX10_bandOf_8_0 : decB cX10_bandOf 8 [(.iload_n 3, .null), (.iconst 5, .int 5)] = true := by decide +kernel
theorem kX10_bandOf_8_1 : decB cX10_bandOf 104 [(.iload_n 2, .null)] = true := by decide +kernel
theorem kX10_bandOf_8_2 : decB cX10_bandOf 13 [(.iconst 0, .int 0), (.istore 4, .null)] = true := by decide +kernel
theorem kX10_bandOf_16_0 : decB cX10_bandOf 16 [(.iload 4, .null), (.aload_n 0, .null), (.iconst 0, .int 0)] = true := by decide +kernel
theorem kX10_bandOf_16_1 : decB cX10_bandOf 98 [(.iinc 3 1, .int 1), (.goto (-93), .retAddr 8)] = true := by decide +kernel
theorem kX10_bandOf_16_2 : decB cX10_bandOf 24 [(.aload_n 0, .null), (.iload 4, .null)] = true := by decide +kernel
theorem kX10_bandOf_16_3 : decB cX10_bandOf 30 [(.istore 5, .null), (.aload_n 0, .null), (.aload_n 0, .null), (.iload 4, .null)] = true := by decide +kernel
theorem kX10_bandOf_16_4 : decB cX10_bandOf 42 [(.istore 6, .null), (.iload_n 2, .null), (.iload 5, .null)] = true := by decide +kernel
theorem kX10_bandOf_16_5 : decB cX10_bandOf 50 [(.iload_n 2, .null), (.iload 4, .null)] = true := by decide +kernel
theorem kX10_bandOf_16_6 : decB cX10_bandOf 59 [(.iload 6, .null), (.goto 4, .retAddr 65)] = true := by decide +kernel
theorem kX10_bandOf_64_0 : decB cX10_bandOf 64 [(.iconst 0, .int 0)] = true := by decide +kernel
theorem kX10_bandOf_65_0 : decB cX10_bandOf 65 [(.ior, .null), (.istore_n 2, .null), (.iload_n 2, .null), (.iload 5, .null)] = true := by decide +kernel
theorem kX10_bandOf_65_1 : decB cX10_bandOf 73 [(.iload_n 2, .null), (.iload 6, .null), (.iand, .null)] = true := by decide +kernel
theorem kX10_bandOf_65_2 : decB cX10_bandOf 80 [(.aload_n 0, .null), (.iload 4, .null)] = true := by decide +kernel
theorem kX10_bandOf_65_3 : decB cX10_bandOf 86 [(.goto 4, .retAddr 90), (.ior, .null), (.istore_n 2, .null), (.iinc 4 1, .int 1), (.goto (-79), .retAddr 16)] = true := by decide +kernel
theorem kX10_bandOf_89_0 : decB cX10_bandOf 89 [(.iconst 0, .int 0), (.ior, .null), (.istore_n 2, .null), (.iinc 4 1, .int 1), (.goto (-79), .retAddr 16)] = true := by decide +kernel
theorem dX10_bandOf_2 : decode cX10_bandOf 2 = .ok (.invokestatic 84, 3) := by decide +kernel
theorem dX10_bandOf_10 : decode cX10_bandOf 10 = .ok (.if_icmp .ge 94, 3) := by decide +kernel
theorem dX10_bandOf_20 : decode cX10_bandOf 20 = .ok (.iaload, 1) := by decide +kernel
theorem dX10_bandOf_21 : decode cX10_bandOf 21 = .ok (.if_icmp .ge 77, 3) := by decide +kernel
theorem dX10_bandOf_27 : decode cX10_bandOf 27 = .ok (.invokestatic 87, 3) := by decide +kernel
theorem dX10_bandOf_36 : decode cX10_bandOf 36 = .ok (.invokestatic 71, 3) := by decide +kernel
theorem dX10_bandOf_39 : decode cX10_bandOf 39 = .ok (.invokestatic 84, 3) := by decide +kernel
theorem dX10_bandOf_47 : decode cX10_bandOf 47 = .ok (.ifCond .eq 17, 3) := by decide +kernel
theorem dX10_bandOf_53 : decode cX10_bandOf 53 = .ok (.invokestatic 80, 3) := by decide +kernel
theorem dX10_bandOf_56 : decode cX10_bandOf 56 = .ok (.ifCond .eq 8, 3) := by decide +kernel
theorem dX10_bandOf_70 : decode cX10_bandOf 70 = .ok (.ifCond .eq 19, 3) := by decide +kernel
theorem dX10_bandOf_77 : decode cX10_bandOf 77 = .ok (.ifCond .eq 12, 3) := by decide +kernel
theorem dX10_bandOf_83 : decode cX10_bandOf 83 = .ok (.invokestatic 84, 3) := by decide +kernel
theorem dX10_bandOf_105 : decode cX10_bandOf 105 = .ok (.ireturn, 1) := by decide +kernel
def fX10_bandOf_89 (K8 : Nat → Int32 → Int32 → Hp → Option (Int32 × Hp)) (K16 : Nat → Int32 → Int32 → Int32 → Hp → Option (Int32 × Hp)) (a0 : Nat) (a3 : Int32) (a4 : Int32) (s0 : Int32) (H : Hp) : Option (Int32 × Hp) :=
  K16 a0 (s0 ||| 0) a3 (a4 + 1) H
set_option maxHeartbeats 4000000 in
set_option maxRecDepth 100000 in
theorem tfX10_bandOf_89 {G : GG} {r : Int32} {H' : Hp} {K8 : Nat → Int32 → Int32 → Hp → Option (Int32 × Hp)} {K16 : Nat → Int32 → Int32 → Int32 → Hp → Option (Int32 × Hp)} (hK8 : ∀ (a0 : Nat) (a2 : Int32) (a3 : Int32) (H : Hp), K8 a0 a2 a3 H = some (r, H') → Sn G (T0 G (some (.int r)) H') mX10_bandOf 8 [some (.ref a0), none, some (.int a2), some (.int a3), none, none, none] [] H) (hK16 : ∀ (a0 : Nat) (a2 : Int32) (a3 : Int32) (a4 : Int32) (H : Hp), K16 a0 a2 a3 a4 H = some (r, H') → Sn G (T0 G (some (.int r)) H') mX10_bandOf 16 [some (.ref a0), none, some (.int a2), some (.int a3), some (.int a4), none, none] [] H) {a0 : Nat} {a3 : Int32} {a4 : Int32} {s0 : Int32} {H : Hp} (h : fX10_bandOf_89 K8 K16 a0 a3 a4 s0 H = some (r, H')) : Sn G (T0 G (some (.int r)) H') mX10_bandOf 89 [some (.ref a0), none, none, some (.int a3), some (.int a4), none, none] [.int s0] H := by
  unfold fX10_bandOf_89 at h
  refine sn_blk _ kX10_bandOf_89_0 (pc' := 16) (L' := [some (.ref a0), none, some (.int (s0 ||| 0)), some (.int a3), some (.int (a4 + 1)), none, none]) (st' := []) rfl rfl ?_
  exact hK16 _ _ _ _ _ h
def fX10_bandOf_65 (K8 : Nat → Int32 → Int32 → Hp → Option (Int32 × Hp)) (K16 : Nat → Int32 → Int32 → Int32 → Hp → Option (Int32 × Hp)) (a0 : Nat) (a3 : Int32) (a4 : Int32) (a5 : Int32) (a6 : Int32) (s0 : Int32) (s1 : Int32) (H : Hp) : Option (Int32 × Hp) :=
  if (a5 = 0 : Prop) then
    fX10_bandOf_89 K8 K16 a0 a3 a4 (s0 ||| s1) H
  else
    if (((s0 ||| s1) &&& a6) = 0 : Prop) then
      fX10_bandOf_89 K8 K16 a0 a3 a4 (s0 ||| s1) H
    else
      bd2 (FX10_rowOf a0 a4 H) fun x1 H2 =>
      K16 a0 ((s0 ||| s1) ||| x1) a3 (a4 + 1) H2
set_option maxHeartbeats 4000000 in
set_option maxRecDepth 100000 in
theorem tfX10_bandOf_65 {G : GG} {r : Int32} {H' : Hp} {K8 : Nat → Int32 → Int32 → Hp → Option (Int32 × Hp)} {K16 : Nat → Int32 → Int32 → Int32 → Hp → Option (Int32 × Hp)} (hK8 : ∀ (a0 : Nat) (a2 : Int32) (a3 : Int32) (H : Hp), K8 a0 a2 a3 H = some (r, H') → Sn G (T0 G (some (.int r)) H') mX10_bandOf 8 [some (.ref a0), none, some (.int a2), some (.int a3), none, none, none] [] H) (hK16 : ∀ (a0 : Nat) (a2 : Int32) (a3 : Int32) (a4 : Int32) (H : Hp), K16 a0 a2 a3 a4 H = some (r, H') → Sn G (T0 G (some (.int r)) H') mX10_bandOf 16 [some (.ref a0), none, some (.int a2), some (.int a3), some (.int a4), none, none] [] H) {a0 : Nat} {a3 : Int32} {a4 : Int32} {a5 : Int32} {a6 : Int32} {s0 : Int32} {s1 : Int32} {H : Hp} (h : fX10_bandOf_65 K8 K16 a0 a3 a4 a5 a6 s0 s1 H = some (r, H')) : Sn G (T0 G (some (.int r)) H') mX10_bandOf 65 [some (.ref a0), none, none, some (.int a3), some (.int a4), some (.int a5), some (.int a6)] [.int s1, .int s0] H := by
  unfold fX10_bandOf_65 at h
  refine sn_blk _ kX10_bandOf_65_0 (pc' := 70) (L' := [some (.ref a0), none, some (.int (s0 ||| s1)), some (.int a3), some (.int a4), some (.int a5), some (.int a6)]) (st' := [.int a5, .int (s0 ||| s1)]) rfl rfl ?_
  refine sn_if_eq (tgt := 89) dX10_bandOf_70 (by decide) (fun c => ?_) (fun c => ?_)
  · rw [if_pos c] at h
    refine sn_msk [true, true, false, true, true, false, false] (L2 := [some (.ref a0), none, none, some (.int a3), some (.int a4), none, none]) rfl ?_
    exact tfX10_bandOf_89 hK8 hK16 h
  · rw [if_neg c] at h
    refine sn_blk _ kX10_bandOf_65_1 (pc' := 77) (L' := [some (.ref a0), none, some (.int (s0 ||| s1)), some (.int a3), some (.int a4), some (.int a5), some (.int a6)]) (st' := [.int ((s0 ||| s1) &&& a6), .int (s0 ||| s1)]) rfl rfl ?_
    refine sn_if_eq (tgt := 89) dX10_bandOf_77 (by decide) (fun c => ?_) (fun c => ?_)
    · rw [if_pos c] at h
      refine sn_msk [true, true, false, true, true, false, false] (L2 := [some (.ref a0), none, none, some (.int a3), some (.int a4), none, none]) rfl ?_
      exact tfX10_bandOf_89 hK8 hK16 h
    · rw [if_neg c] at h
      refine sn_blk _ kX10_bandOf_65_2 (pc' := 83) (L' := [some (.ref a0), none, some (.int (s0 ||| s1)), some (.int a3), some (.int a4), some (.int a5), some (.int a6)]) (st' := [.int a4, .ref a0, .int (s0 ||| s1)]) rfl rfl ?_
      obtain ⟨x1, H2, hx1, h⟩ := bd2_inv h
      refine sn_calls (av := [.ref a0, .int a4]) (st := [.int (s0 ||| s1)]) (M2 := mX10_rowOf) dX10_bandOf_83 msX10_rowOf mlX10_84 rfl rfl rfl rfl rfl (sX10_rowOf hx1) ?_
      refine sn_blk _ kX10_bandOf_65_3 (pc' := 16) (L' := [some (.ref a0), none, some (.int ((s0 ||| s1) ||| x1)), some (.int a3), some (.int (a4 + 1)), some (.int a5), some (.int a6)]) (st' := []) rfl rfl ?_
      refine sn_msk [true, true, true, true, true, false, false] (L2 := [some (.ref a0), none, some (.int ((s0 ||| s1) ||| x1)), some (.int a3), some (.int (a4 + 1)), none, none]) rfl ?_
      exact hK16 _ _ _ _ _ h
def fX10_bandOf_64 (K8 : Nat → Int32 → Int32 → Hp → Option (Int32 × Hp)) (K16 : Nat → Int32 → Int32 → Int32 → Hp → Option (Int32 × Hp)) (a0 : Nat) (a3 : Int32) (a4 : Int32) (a5 : Int32) (a6 : Int32) (s0 : Int32) (H : Hp) : Option (Int32 × Hp) :=
  fX10_bandOf_65 K8 K16 a0 a3 a4 a5 a6 s0 0 H
set_option maxHeartbeats 4000000 in
set_option maxRecDepth 100000 in
theorem tfX10_bandOf_64 {G : GG} {r : Int32} {H' : Hp} {K8 : Nat → Int32 → Int32 → Hp → Option (Int32 × Hp)} {K16 : Nat → Int32 → Int32 → Int32 → Hp → Option (Int32 × Hp)} (hK8 : ∀ (a0 : Nat) (a2 : Int32) (a3 : Int32) (H : Hp), K8 a0 a2 a3 H = some (r, H') → Sn G (T0 G (some (.int r)) H') mX10_bandOf 8 [some (.ref a0), none, some (.int a2), some (.int a3), none, none, none] [] H) (hK16 : ∀ (a0 : Nat) (a2 : Int32) (a3 : Int32) (a4 : Int32) (H : Hp), K16 a0 a2 a3 a4 H = some (r, H') → Sn G (T0 G (some (.int r)) H') mX10_bandOf 16 [some (.ref a0), none, some (.int a2), some (.int a3), some (.int a4), none, none] [] H) {a0 : Nat} {a3 : Int32} {a4 : Int32} {a5 : Int32} {a6 : Int32} {s0 : Int32} {H : Hp} (h : fX10_bandOf_64 K8 K16 a0 a3 a4 a5 a6 s0 H = some (r, H')) : Sn G (T0 G (some (.int r)) H') mX10_bandOf 64 [some (.ref a0), none, none, some (.int a3), some (.int a4), some (.int a5), some (.int a6)] [.int s0] H := by
  unfold fX10_bandOf_64 at h
  refine sn_blk _ kX10_bandOf_64_0 (pc' := 65) (L' := [some (.ref a0), none, none, some (.int a3), some (.int a4), some (.int a5), some (.int a6)]) (st' := [.int 0, .int s0]) rfl rfl ?_
  exact tfX10_bandOf_65 hK8 hK16 h
def bX10_bandOf_16 (K8 : Nat → Int32 → Int32 → Hp → Option (Int32 × Hp)) (K16 : Nat → Int32 → Int32 → Int32 → Hp → Option (Int32 × Hp)) (a0 : Nat) (a2 : Int32) (a3 : Int32) (a4 : Int32) (H : Hp) : Option (Int32 × Hp) :=
  bd (aI H a0 0 0) fun x1 =>
  if (x1 ≤ a4 : Prop) then
    K8 a0 a2 (a3 + 1) H
  else
    bd2 (FX10_isContinued a0 a4 H) fun x2 H3 =>
    bd2 (FX10_up a0 a4 H3) fun x4 H5 =>
    bd2 (FX10_rowOf a0 x4 H5) fun x6 H7 =>
    if (x2 = 0 : Prop) then
      fX10_bandOf_64 K8 K16 a0 a3 a4 x2 x6 a2 H7
    else
      bd2 (FX10_has a2 a4 H7) fun x8 H9 =>
      if (x8 = 0 : Prop) then
        fX10_bandOf_64 K8 K16 a0 a3 a4 x2 x6 a2 H9
      else
        fX10_bandOf_65 K8 K16 a0 a3 a4 x2 x6 a2 x6 H9
set_option maxHeartbeats 4000000 in
set_option maxRecDepth 100000 in
theorem tbX10_bandOf_16 {G : GG} {r : Int32} {H' : Hp} {K8 : Nat → Int32 → Int32 → Hp → Option (Int32 × Hp)} {K16 : Nat → Int32 → Int32 → Int32 → Hp → Option (Int32 × Hp)} (hK8 : ∀ (a0 : Nat) (a2 : Int32) (a3 : Int32) (H : Hp), K8 a0 a2 a3 H = some (r, H') → Sn G (T0 G (some (.int r)) H') mX10_bandOf 8 [some (.ref a0), none, some (.int a2), some (.int a3), none, none, none] [] H) (hK16 : ∀ (a0 : Nat) (a2 : Int32) (a3 : Int32) (a4 : Int32) (H : Hp), K16 a0 a2 a3 a4 H = some (r, H') → Sn G (T0 G (some (.int r)) H') mX10_bandOf 16 [some (.ref a0), none, some (.int a2), some (.int a3), some (.int a4), none, none] [] H) {a0 : Nat} {a2 : Int32} {a3 : Int32} {a4 : Int32} {H : Hp} (h : bX10_bandOf_16 K8 K16 a0 a2 a3 a4 H = some (r, H')) : Sn G (T0 G (some (.int r)) H') mX10_bandOf 16 [some (.ref a0), none, some (.int a2), some (.int a3), some (.int a4), none, none] [] H := by
  unfold bX10_bandOf_16 at h
  refine sn_blk _ kX10_bandOf_16_0 (pc' := 20) (L' := [some (.ref a0), none, some (.int a2), some (.int a3), some (.int a4), none, none]) (st' := [.int 0, .ref a0, .int a4]) rfl rfl ?_
  obtain ⟨x1, hx1, h⟩ := bd_inv h
  refine sn_iald dX10_bandOf_20 hx1 ?_
  refine sn_icmp_ge (tgt := 98) dX10_bandOf_21 (by decide) (fun c => ?_) (fun c => ?_)
  · rw [if_pos c] at h
    refine sn_blk _ kX10_bandOf_16_1 (pc' := 8) (L' := [some (.ref a0), none, some (.int a2), some (.int (a3 + 1)), some (.int a4), none, none]) (st' := []) rfl rfl ?_
    refine sn_msk [true, true, true, true, false, true, true] (L2 := [some (.ref a0), none, some (.int a2), some (.int (a3 + 1)), none, none, none]) rfl ?_
    exact hK8 _ _ _ _ h
  · rw [if_neg c] at h
    refine sn_blk _ kX10_bandOf_16_2 (pc' := 27) (L' := [some (.ref a0), none, some (.int a2), some (.int a3), some (.int a4), none, none]) (st' := [.int a4, .ref a0]) rfl rfl ?_
    obtain ⟨x2, H3, hx2, h⟩ := bd2_inv h
    refine sn_calls (av := [.ref a0, .int a4]) (st := []) (M2 := mX10_isContinued) dX10_bandOf_27 msX10_isContinued mlX10_87 rfl rfl rfl rfl rfl (sX10_isContinued hx2) ?_
    refine sn_blk _ kX10_bandOf_16_3 (pc' := 36) (L' := [some (.ref a0), none, some (.int a2), some (.int a3), some (.int a4), some (.int x2), none]) (st' := [.int a4, .ref a0, .ref a0]) rfl rfl ?_
    obtain ⟨x4, H5, hx4, h⟩ := bd2_inv h
    refine sn_calls (av := [.ref a0, .int a4]) (st := [.ref a0]) (M2 := mX10_up) dX10_bandOf_36 msX10_up mlX10_71 rfl rfl rfl rfl rfl (sX10_up hx4) ?_
    obtain ⟨x6, H7, hx6, h⟩ := bd2_inv h
    refine sn_calls (av := [.ref a0, .int x4]) (st := []) (M2 := mX10_rowOf) dX10_bandOf_39 msX10_rowOf mlX10_84 rfl rfl rfl rfl rfl (sX10_rowOf hx6) ?_
    refine sn_blk _ kX10_bandOf_16_4 (pc' := 47) (L' := [some (.ref a0), none, some (.int a2), some (.int a3), some (.int a4), some (.int x2), some (.int x6)]) (st' := [.int x2, .int a2]) rfl rfl ?_
    refine sn_if_eq (tgt := 64) dX10_bandOf_47 (by decide) (fun c => ?_) (fun c => ?_)
    · rw [if_pos c] at h
      refine sn_msk [true, true, false, true, true, true, true] (L2 := [some (.ref a0), none, none, some (.int a3), some (.int a4), some (.int x2), some (.int x6)]) rfl ?_
      exact tfX10_bandOf_64 hK8 hK16 h
    · rw [if_neg c] at h
      refine sn_blk _ kX10_bandOf_16_5 (pc' := 53) (L' := [some (.ref a0), none, some (.int a2), some (.int a3), some (.int a4), some (.int x2), some (.int x6)]) (st' := [.int a4, .int a2, .int a2]) rfl rfl ?_
      obtain ⟨x8, H9, hx8, h⟩ := bd2_inv h
      refine sn_calls (av := [.int a2, .int a4]) (st := [.int a2]) (M2 := mX10_has) dX10_bandOf_53 msX10_has mlX10_80 rfl rfl rfl rfl rfl (sX10_has hx8) ?_
      refine sn_if_eq (tgt := 64) dX10_bandOf_56 (by decide) (fun c => ?_) (fun c => ?_)
      · rw [if_pos c] at h
        refine sn_msk [true, true, false, true, true, true, true] (L2 := [some (.ref a0), none, none, some (.int a3), some (.int a4), some (.int x2), some (.int x6)]) rfl ?_
        exact tfX10_bandOf_64 hK8 hK16 h
      · rw [if_neg c] at h
        refine sn_blk _ kX10_bandOf_16_6 (pc' := 65) (L' := [some (.ref a0), none, some (.int a2), some (.int a3), some (.int a4), some (.int x2), some (.int x6)]) (st' := [.int x6, .int a2]) rfl rfl ?_
        refine sn_msk [true, true, false, true, true, true, true] (L2 := [some (.ref a0), none, none, some (.int a3), some (.int a4), some (.int x2), some (.int x6)]) rfl ?_
        exact tfX10_bandOf_65 hK8 hK16 h
def fX10_bandOf_16 (K8 : Nat → Int32 → Int32 → Hp → Option (Int32 × Hp)) : Nat → Nat → Int32 → Int32 → Int32 → Hp → Option (Int32 × Hp)
  | 0, _, _, _, _, _ => none
  | d + 1, a0, a2, a3, a4, H => bX10_bandOf_16 K8 (fX10_bandOf_16 K8 d) a0 a2 a3 a4 H
theorem tfX10_bandOf_16 {G : GG} {r : Int32} {H' : Hp} {K8 : Nat → Int32 → Int32 → Hp → Option (Int32 × Hp)} (hK8 : ∀ (a0 : Nat) (a2 : Int32) (a3 : Int32) (H : Hp), K8 a0 a2 a3 H = some (r, H') → Sn G (T0 G (some (.int r)) H') mX10_bandOf 8 [some (.ref a0), none, some (.int a2), some (.int a3), none, none, none] [] H) : ∀ (d : Nat) {a0 : Nat} {a2 : Int32} {a3 : Int32} {a4 : Int32} {H : Hp}, fX10_bandOf_16 K8 d a0 a2 a3 a4 H = some (r, H') → Sn G (T0 G (some (.int r)) H') mX10_bandOf 16 [some (.ref a0), none, some (.int a2), some (.int a3), some (.int a4), none, none] [] H := by
  intro d
  induction d with
  | zero => intro a0 a2 a3 a4 H h; cases h
  | succ d ih => intro a0 a2 a3 a4 H h; exact tbX10_bandOf_16 hK8 (fun a0 a2 a3 a4 H h => ih h) h
def bX10_bandOf_8 (K8 : Nat → Int32 → Int32 → Hp → Option (Int32 × Hp)) (a0 : Nat) (a2 : Int32) (a3 : Int32) (H : Hp) : Option (Int32 × Hp) :=
  if (5 ≤ a3 : Prop) then
    some (a2, H)
  else
    fX10_bandOf_16 K8 4096 a0 a2 a3 0 H
set_option maxHeartbeats 4000000 in
set_option maxRecDepth 100000 in
theorem tbX10_bandOf_8 {G : GG} {r : Int32} {H' : Hp} {K8 : Nat → Int32 → Int32 → Hp → Option (Int32 × Hp)} (hK8 : ∀ (a0 : Nat) (a2 : Int32) (a3 : Int32) (H : Hp), K8 a0 a2 a3 H = some (r, H') → Sn G (T0 G (some (.int r)) H') mX10_bandOf 8 [some (.ref a0), none, some (.int a2), some (.int a3), none, none, none] [] H) {a0 : Nat} {a2 : Int32} {a3 : Int32} {H : Hp} (h : bX10_bandOf_8 K8 a0 a2 a3 H = some (r, H')) : Sn G (T0 G (some (.int r)) H') mX10_bandOf 8 [some (.ref a0), none, some (.int a2), some (.int a3), none, none, none] [] H := by
  unfold bX10_bandOf_8 at h
  refine sn_blk _ kX10_bandOf_8_0 (pc' := 10) (L' := [some (.ref a0), none, some (.int a2), some (.int a3), none, none, none]) (st' := [.int 5, .int a3]) rfl rfl ?_
  refine sn_icmp_ge (tgt := 104) dX10_bandOf_10 (by decide) (fun c => ?_) (fun c => ?_)
  · rw [if_pos c] at h
    refine sn_blk _ kX10_bandOf_8_1 (pc' := 105) (L' := [some (.ref a0), none, some (.int a2), some (.int a3), none, none, none]) (st' := [.int a2]) rfl rfl ?_
    cases h
    exact sn_iret (ty := .int) dX10_bandOf_105 rfl rfl
  · rw [if_neg c] at h
    refine sn_blk _ kX10_bandOf_8_2 (pc' := 16) (L' := [some (.ref a0), none, some (.int a2), some (.int a3), some (.int 0), none, none]) (st' := []) rfl rfl ?_
    exact tfX10_bandOf_16 hK8 4096 h
def fX10_bandOf_8  : Nat → Nat → Int32 → Int32 → Hp → Option (Int32 × Hp)
  | 0, _, _, _, _ => none
  | d + 1, a0, a2, a3, H => bX10_bandOf_8 (fX10_bandOf_8  d) a0 a2 a3 H
theorem tfX10_bandOf_8 {G : GG} {r : Int32} {H' : Hp}   : ∀ (d : Nat) {a0 : Nat} {a2 : Int32} {a3 : Int32} {H : Hp}, fX10_bandOf_8  d a0 a2 a3 H = some (r, H') → Sn G (T0 G (some (.int r)) H') mX10_bandOf 8 [some (.ref a0), none, some (.int a2), some (.int a3), none, none, none] [] H := by
  intro d
  induction d with
  | zero => intro a0 a2 a3 H h; cases h
  | succ d ih => intro a0 a2 a3 H h; exact tbX10_bandOf_8 (fun a0 a2 a3 H h => ih h) h
def FX10_bandOf  (a0 : Nat) (a1 : Int32) (H : Hp) : Option (Int32 × Hp) :=
  bd2 (FX10_rowOf a0 a1 H) fun x1 H2 =>
  fX10_bandOf_8  4096 a0 x1 0 H2
set_option maxHeartbeats 4000000 in
set_option maxRecDepth 100000 in
theorem tFX10_bandOf {G : GG} {r : Int32} {H' : Hp}   {a0 : Nat} {a1 : Int32} {H : Hp} (h : FX10_bandOf  a0 a1 H = some (r, H')) : Sn G (T0 G (some (.int r)) H') mX10_bandOf 0 [some (.ref a0), some (.int a1), none, none, none, none, none] [] H := by
  unfold FX10_bandOf at h
  refine sn_blk _ kX10_bandOf_0_0 (pc' := 2) (L' := [some (.ref a0), some (.int a1), none, none, none, none, none]) (st' := [.int a1, .ref a0]) rfl rfl ?_
  obtain ⟨x1, H2, hx1, h⟩ := bd2_inv h
  refine sn_calls (av := [.ref a0, .int a1]) (st := []) (M2 := mX10_rowOf) dX10_bandOf_2 msX10_rowOf mlX10_84 rfl rfl rfl rfl rfl (sX10_rowOf hx1) ?_
  refine sn_blk _ kX10_bandOf_0_1 (pc' := 8) (L' := [some (.ref a0), some (.int a1), some (.int x1), some (.int 0), none, none, none]) (st' := []) rfl rfl ?_
  refine sn_msk [true, false, true, true, true, true, true] (L2 := [some (.ref a0), none, some (.int x1), some (.int 0), none, none, none]) rfl ?_
  exact tfX10_bandOf_8  4096 h
theorem sX10_bandOf {G : GG} {r : Int32} {H' : Hp} {a0 : Nat} {a1 : Int32} {H : Hp} (h : FX10_bandOf a0 a1 H = some (r, H')) : SM G mX10_bandOf [.ref a0, .int a1] H (some (.int r)) H' := tFX10_bandOf h
/-! SquareFoldsModel.bands([I)I -/
theorem kX10_bands_0_0 : decB cX10_bands 0 [(.iconst 0, .int 0), (.istore_n 1, .null), (.iconst 0, .int 0), (.istore_n 2, .null)] = true := by decide +kernel
theorem kX10_bands_4_0 : decB cX10_bands 4 [(.iload_n 2, .null), (.aload_n 0, .null), (.iconst 0, .int 0)] = true := by decide +kernel
theorem kX10_bands_4_1 : decB cX10_bands 37 [(.iload_n 1, .null)] = true := by decide +kernel
theorem kX10_bands_4_2 : decB cX10_bands 11 [(.iload_n 1, .null), (.aload_n 0, .null), (.iload_n 2, .null)] = true := by decide +kernel
theorem kX10_bands_4_3 : decB cX10_bands 17 [(.iload_n 2, .null)] = true := by decide +kernel
theorem kX10_bands_4_4 : decB cX10_bands 28 [(.iconst 0, .int 0), (.iadd, .null), (.istore_n 1, .null), (.iinc 2 1, .int 1), (.goto (-30), .retAddr 4)] = true := by decide +kernel
theorem kX10_bands_4_5 : decB cX10_bands 24 [(.iconst 1, .int 1), (.goto 4, .retAddr 29), (.iadd, .null), (.istore_n 1, .null), (.iinc 2 1, .int 1), (.goto (-30), .retAddr 4)] = true := by decide +kernel
theorem dX10_bands_7 : decode cX10_bands 7 = .ok (.iaload, 1) := by decide +kernel
theorem dX10_bands_8 : decode cX10_bands 8 = .ok (.if_icmp .ge 29, 3) := by decide +kernel
theorem dX10_bands_14 : decode cX10_bands 14 = .ok (.invokestatic 97, 3) := by decide +kernel
theorem dX10_bands_18 : decode cX10_bands 18 = .ok (.invokestatic 94, 3) := by decide +kernel
theorem dX10_bands_21 : decode cX10_bands 21 = .ok (.ifCond .eq 7, 3) := by decide +kernel
theorem dX10_bands_38 : decode cX10_bands 38 = .ok (.ireturn, 1) := by decide +kernel
def bX10_bands_4 (K4 : Nat → Int32 → Int32 → Hp → Option (Int32 × Hp)) (a0 : Nat) (a1 : Int32) (a2 : Int32) (H : Hp) : Option (Int32 × Hp) :=
  bd (aI H a0 0 0) fun x1 =>
  if (x1 ≤ a2 : Prop) then
    some (a1, H)
  else
    bd2 (FX10_bandOf a0 a2 H) fun x2 H3 =>
    bd2 (FX10_isLeast x2 a2 H3) fun x4 H5 =>
    if (x4 = 0 : Prop) then
      K4 a0 (a1 + 0) (a2 + 1) H5
    else
      K4 a0 (a1 + 1) (a2 + 1) H5
set_option maxHeartbeats 4000000 in
set_option maxRecDepth 100000 in
theorem tbX10_bands_4 {G : GG} {r : Int32} {H' : Hp} {K4 : Nat → Int32 → Int32 → Hp → Option (Int32 × Hp)} (hK4 : ∀ (a0 : Nat) (a1 : Int32) (a2 : Int32) (H : Hp), K4 a0 a1 a2 H = some (r, H') → Sn G (T0 G (some (.int r)) H') mX10_bands 4 [some (.ref a0), some (.int a1), some (.int a2)] [] H) {a0 : Nat} {a1 : Int32} {a2 : Int32} {H : Hp} (h : bX10_bands_4 K4 a0 a1 a2 H = some (r, H')) : Sn G (T0 G (some (.int r)) H') mX10_bands 4 [some (.ref a0), some (.int a1), some (.int a2)] [] H := by
  unfold bX10_bands_4 at h
  refine sn_blk _ kX10_bands_4_0 (pc' := 7) (L' := [some (.ref a0), some (.int a1), some (.int a2)]) (st' := [.int 0, .ref a0, .int a2]) rfl rfl ?_
  obtain ⟨x1, hx1, h⟩ := bd_inv h
  refine sn_iald dX10_bands_7 hx1 ?_
  refine sn_icmp_ge (tgt := 37) dX10_bands_8 (by decide) (fun c => ?_) (fun c => ?_)
  · rw [if_pos c] at h
    refine sn_blk _ kX10_bands_4_1 (pc' := 38) (L' := [some (.ref a0), some (.int a1), some (.int a2)]) (st' := [.int a1]) rfl rfl ?_
    cases h
    exact sn_iret (ty := .int) dX10_bands_38 rfl rfl
  · rw [if_neg c] at h
    refine sn_blk _ kX10_bands_4_2 (pc' := 14) (L' := [some (.ref a0), some (.int a1), some (.int a2)]) (st' := [.int a2, .ref a0, .int a1]) rfl rfl ?_
    obtain ⟨x2, H3, hx2, h⟩ := bd2_inv h
    refine sn_calls (av := [.ref a0, .int a2]) (st := [.int a1]) (M2 := mX10_bandOf) dX10_bands_14 msX10_bandOf mlX10_97 rfl rfl rfl rfl rfl (sX10_bandOf hx2) ?_
    refine sn_blk _ kX10_bands_4_3 (pc' := 18) (L' := [some (.ref a0), some (.int a1), some (.int a2)]) (st' := [.int a2, .int x2, .int a1]) rfl rfl ?_
    obtain ⟨x4, H5, hx4, h⟩ := bd2_inv h
    refine sn_calls (av := [.int x2, .int a2]) (st := [.int a1]) (M2 := mX10_isLeast) dX10_bands_18 msX10_isLeast mlX10_94 rfl rfl rfl rfl rfl (sX10_isLeast hx4) ?_
    refine sn_if_eq (tgt := 28) dX10_bands_21 (by decide) (fun c => ?_) (fun c => ?_)
    · rw [if_pos c] at h
      refine sn_blk _ kX10_bands_4_4 (pc' := 4) (L' := [some (.ref a0), some (.int (a1 + 0)), some (.int (a2 + 1))]) (st' := []) rfl rfl ?_
      exact hK4 _ _ _ _ h
    · rw [if_neg c] at h
      refine sn_blk _ kX10_bands_4_5 (pc' := 4) (L' := [some (.ref a0), some (.int (a1 + 1)), some (.int (a2 + 1))]) (st' := []) rfl rfl ?_
      exact hK4 _ _ _ _ h
def fX10_bands_4  : Nat → Nat → Int32 → Int32 → Hp → Option (Int32 × Hp)
  | 0, _, _, _, _ => none
  | d + 1, a0, a1, a2, H => bX10_bands_4 (fX10_bands_4  d) a0 a1 a2 H
theorem tfX10_bands_4 {G : GG} {r : Int32} {H' : Hp}   : ∀ (d : Nat) {a0 : Nat} {a1 : Int32} {a2 : Int32} {H : Hp}, fX10_bands_4  d a0 a1 a2 H = some (r, H') → Sn G (T0 G (some (.int r)) H') mX10_bands 4 [some (.ref a0), some (.int a1), some (.int a2)] [] H := by
  intro d
  induction d with
  | zero => intro a0 a1 a2 H h; cases h
  | succ d ih => intro a0 a1 a2 H h; exact tbX10_bands_4 (fun a0 a1 a2 H h => ih h) h
def FX10_bands  (a0 : Nat) (H : Hp) : Option (Int32 × Hp) :=
  fX10_bands_4  4096 a0 0 0 H
set_option maxHeartbeats 4000000 in
set_option maxRecDepth 100000 in
theorem tFX10_bands {G : GG} {r : Int32} {H' : Hp}   {a0 : Nat} {H : Hp} (h : FX10_bands  a0 H = some (r, H')) : Sn G (T0 G (some (.int r)) H') mX10_bands 0 [some (.ref a0), none, none] [] H := by
  unfold FX10_bands at h
  refine sn_blk _ kX10_bands_0_0 (pc' := 4) (L' := [some (.ref a0), some (.int 0), some (.int 0)]) (st' := []) rfl rfl ?_
  exact tfX10_bands_4  4096 h
theorem sX10_bands {G : GG} {r : Int32} {H' : Hp} {a0 : Nat} {H : Hp} (h : FX10_bands a0 H = some (r, H')) : SM G mX10_bands [.ref a0] H (some (.int r)) H' := tFX10_bands h
/-! SquareFoldsModel.power(II)I -/
theorem kX10_power_0_0 : decB cX10_power 0 [(.iconst 1, .int 1), (.istore_n 2, .null), (.iconst 0, .int 0), (.istore_n 3, .null)] = true := by decide +kernel
theorem kX10_power_4_0 : decB cX10_power 4 [(.iload_n 3, .null), (.iload_n 1, .null)] = true := by decide +kernel
theorem kX10_power_4_1 : decB cX10_power 19 [(.iload_n 2, .null)] = true := by decide +kernel
theorem kX10_power_4_2 : decB cX10_power 9 [(.iload_n 2, .null), (.iload_n 0, .null), (.imul, .null), (.istore_n 2, .null), (.iinc 3 1, .int 1), (.goto (-12), .retAddr 4)] = true := by decide +kernel
theorem dX10_power_6 : decode cX10_power 6 = .ok (.if_icmp .ge 13, 3) := by decide +kernel
theorem dX10_power_20 : decode cX10_power 20 = .ok (.ireturn, 1) := by decide +kernel
def bX10_power_4 (K4 : Int32 → Int32 → Int32 → Int32 → Hp → Option (Int32 × Hp)) (a0 : Int32) (a1 : Int32) (a2 : Int32) (a3 : Int32) (H : Hp) : Option (Int32 × Hp) :=
  if (a1 ≤ a3 : Prop) then
    some (a2, H)
  else
    K4 a0 a1 (a2 * a0) (a3 + 1) H
set_option maxHeartbeats 4000000 in
set_option maxRecDepth 100000 in
theorem tbX10_power_4 {G : GG} {r : Int32} {H' : Hp} {K4 : Int32 → Int32 → Int32 → Int32 → Hp → Option (Int32 × Hp)} (hK4 : ∀ (a0 : Int32) (a1 : Int32) (a2 : Int32) (a3 : Int32) (H : Hp), K4 a0 a1 a2 a3 H = some (r, H') → Sn G (T0 G (some (.int r)) H') mX10_power 4 [some (.int a0), some (.int a1), some (.int a2), some (.int a3)] [] H) {a0 : Int32} {a1 : Int32} {a2 : Int32} {a3 : Int32} {H : Hp} (h : bX10_power_4 K4 a0 a1 a2 a3 H = some (r, H')) : Sn G (T0 G (some (.int r)) H') mX10_power 4 [some (.int a0), some (.int a1), some (.int a2), some (.int a3)] [] H := by
  unfold bX10_power_4 at h
  refine sn_blk _ kX10_power_4_0 (pc' := 6) (L' := [some (.int a0), some (.int a1), some (.int a2), some (.int a3)]) (st' := [.int a1, .int a3]) rfl rfl ?_
  refine sn_icmp_ge (tgt := 19) dX10_power_6 (by decide) (fun c => ?_) (fun c => ?_)
  · rw [if_pos c] at h
    refine sn_blk _ kX10_power_4_1 (pc' := 20) (L' := [some (.int a0), some (.int a1), some (.int a2), some (.int a3)]) (st' := [.int a2]) rfl rfl ?_
    cases h
    exact sn_iret (ty := .int) dX10_power_20 rfl rfl
  · rw [if_neg c] at h
    refine sn_blk _ kX10_power_4_2 (pc' := 4) (L' := [some (.int a0), some (.int a1), some (.int (a2 * a0)), some (.int (a3 + 1))]) (st' := []) rfl rfl ?_
    exact hK4 _ _ _ _ _ h
def fX10_power_4  : Nat → Int32 → Int32 → Int32 → Int32 → Hp → Option (Int32 × Hp)
  | 0, _, _, _, _, _ => none
  | d + 1, a0, a1, a2, a3, H => bX10_power_4 (fX10_power_4  d) a0 a1 a2 a3 H
theorem tfX10_power_4 {G : GG} {r : Int32} {H' : Hp}   : ∀ (d : Nat) {a0 : Int32} {a1 : Int32} {a2 : Int32} {a3 : Int32} {H : Hp}, fX10_power_4  d a0 a1 a2 a3 H = some (r, H') → Sn G (T0 G (some (.int r)) H') mX10_power 4 [some (.int a0), some (.int a1), some (.int a2), some (.int a3)] [] H := by
  intro d
  induction d with
  | zero => intro a0 a1 a2 a3 H h; cases h
  | succ d ih => intro a0 a1 a2 a3 H h; exact tbX10_power_4 (fun a0 a1 a2 a3 H h => ih h) h
def FX10_power  (a0 : Int32) (a1 : Int32) (H : Hp) : Option (Int32 × Hp) :=
  fX10_power_4  4096 a0 a1 1 0 H
set_option maxHeartbeats 4000000 in
set_option maxRecDepth 100000 in
theorem tFX10_power {G : GG} {r : Int32} {H' : Hp}   {a0 : Int32} {a1 : Int32} {H : Hp} (h : FX10_power  a0 a1 H = some (r, H')) : Sn G (T0 G (some (.int r)) H') mX10_power 0 [some (.int a0), some (.int a1), none, none] [] H := by
  unfold FX10_power at h
  refine sn_blk _ kX10_power_0_0 (pc' := 4) (L' := [some (.int a0), some (.int a1), some (.int 1), some (.int 0)]) (st' := []) rfl rfl ?_
  exact tfX10_power_4  4096 h
theorem sX10_power {G : GG} {r : Int32} {H' : Hp} {a0 : Int32} {a1 : Int32} {H : Hp} (h : FX10_power a0 a1 H = some (r, H')) : SM G mX10_power [.int a0, .int a1] H (some (.int r)) H' := tFX10_power h
/-! SquareFoldsModel.moved([III)I -/
theorem kX10_moved_0_0 : decB cX10_moved 0 [(.iload_n 2, .null)] = true := by decide +kernel
theorem kX10_moved_0_1 : decB cX10_moved 28 [(.aload_n 0, .null), (.iload_n 1, .null)] = true := by decide +kernel
theorem kX10_moved_0_2 : decB cX10_moved 34 [(.aload_n 0, .null), (.iload_n 1, .null)] = true := by decide +kernel
theorem kX10_moved_0_3 : decB cX10_moved 40 [(.aload_n 0, .null), (.iload_n 1, .null)] = true := by decide +kernel
theorem kX10_moved_0_4 : decB cX10_moved 46 [(.aload_n 0, .null), (.iload_n 1, .null)] = true := by decide +kernel
theorem dX10_moved_1 : decode cX10_moved 1 = .ok (.tableswitch 45 1 3 #[27, 33, 39], 27) := by decide +kernel
theorem dX10_moved_30 : decode cX10_moved 30 = .ok (.invokestatic 64, 3) := by decide +kernel
theorem dX10_moved_33 : decode cX10_moved 33 = .ok (.ireturn, 1) := by decide +kernel
theorem dX10_moved_36 : decode cX10_moved 36 = .ok (.invokestatic 68, 3) := by decide +kernel
theorem dX10_moved_39 : decode cX10_moved 39 = .ok (.ireturn, 1) := by decide +kernel
theorem dX10_moved_42 : decode cX10_moved 42 = .ok (.invokestatic 71, 3) := by decide +kernel
theorem dX10_moved_45 : decode cX10_moved 45 = .ok (.ireturn, 1) := by decide +kernel
theorem dX10_moved_48 : decode cX10_moved 48 = .ok (.invokestatic 74, 3) := by decide +kernel
theorem dX10_moved_51 : decode cX10_moved 51 = .ok (.ireturn, 1) := by decide +kernel
def FX10_moved  (a0 : Nat) (a1 : Int32) (a2 : Int32) (H : Hp) : Option (Int32 × Hp) :=
  if a2 = (1 : Int32) then
    bd2 (FX10_right a0 a1 H) fun x1 H2 =>
    some (x1, H2)
  else
    if a2 = (2 : Int32) then
      bd2 (FX10_left a0 a1 H) fun x3 H4 =>
      some (x3, H4)
    else
      if a2 = (3 : Int32) then
        bd2 (FX10_up a0 a1 H) fun x5 H6 =>
        some (x5, H6)
      else
        bd2 (FX10_down a0 a1 H) fun x7 H8 =>
        some (x7, H8)
set_option maxHeartbeats 4000000 in
set_option maxRecDepth 100000 in
theorem tFX10_moved {G : GG} {r : Int32} {H' : Hp}   {a0 : Nat} {a1 : Int32} {a2 : Int32} {H : Hp} (h : FX10_moved  a0 a1 a2 H = some (r, H')) : Sn G (T0 G (some (.int r)) H') mX10_moved 0 [some (.ref a0), some (.int a1), some (.int a2)] [] H := by
  unfold FX10_moved at h
  refine sn_blk _ kX10_moved_0_0 (pc' := 1) (L' := [some (.ref a0), some (.int a1), some (.int a2)]) (st' := [.int a2]) rfl rfl ?_
  by_cases c1_1 : a2 = (1 : Int32)
  · rw [if_pos c1_1] at h
    refine sn_tblIn (off := 27) (tgt := 28) dX10_moved_1 (by rw [c1_1]; decide) (by rw [c1_1]; decide) (by rw [c1_1]; decide +kernel) (by decide) ?_
    refine sn_blk _ kX10_moved_0_1 (pc' := 30) (L' := [some (.ref a0), some (.int a1), some (.int a2)]) (st' := [.int a1, .ref a0]) rfl rfl ?_
    obtain ⟨x1, H2, hx1, h⟩ := bd2_inv h
    refine sn_calls (av := [.ref a0, .int a1]) (st := []) (M2 := mX10_right) dX10_moved_30 msX10_right mlX10_64 rfl rfl rfl rfl rfl (sX10_right hx1) ?_
    cases h
    exact sn_iret (ty := .int) dX10_moved_33 rfl rfl
  · rw [if_neg c1_1] at h
    by_cases c1_2 : a2 = (2 : Int32)
    · rw [if_pos c1_2] at h
      refine sn_tblIn (off := 33) (tgt := 34) dX10_moved_1 (by rw [c1_2]; decide) (by rw [c1_2]; decide) (by rw [c1_2]; decide +kernel) (by decide) ?_
      refine sn_blk _ kX10_moved_0_2 (pc' := 36) (L' := [some (.ref a0), some (.int a1), some (.int a2)]) (st' := [.int a1, .ref a0]) rfl rfl ?_
      obtain ⟨x3, H4, hx3, h⟩ := bd2_inv h
      refine sn_calls (av := [.ref a0, .int a1]) (st := []) (M2 := mX10_left) dX10_moved_36 msX10_left mlX10_68 rfl rfl rfl rfl rfl (sX10_left hx3) ?_
      cases h
      exact sn_iret (ty := .int) dX10_moved_39 rfl rfl
    · rw [if_neg c1_2] at h
      by_cases c1_3 : a2 = (3 : Int32)
      · rw [if_pos c1_3] at h
        refine sn_tblIn (off := 39) (tgt := 40) dX10_moved_1 (by rw [c1_3]; decide) (by rw [c1_3]; decide) (by rw [c1_3]; decide +kernel) (by decide) ?_
        refine sn_blk _ kX10_moved_0_3 (pc' := 42) (L' := [some (.ref a0), some (.int a1), some (.int a2)]) (st' := [.int a1, .ref a0]) rfl rfl ?_
        obtain ⟨x5, H6, hx5, h⟩ := bd2_inv h
        refine sn_calls (av := [.ref a0, .int a1]) (st := []) (M2 := mX10_up) dX10_moved_42 msX10_up mlX10_71 rfl rfl rfl rfl rfl (sX10_up hx5) ?_
        cases h
        exact sn_iret (ty := .int) dX10_moved_45 rfl rfl
      · rw [if_neg c1_3] at h
        refine sn_tblOut (tgt := 46) dX10_moved_1 (sw_out (fun k h1 h2 e => ?_)) (by decide) ?_
        · rcases (show k = 1 ∨ k = 2 ∨ k = 3 by omega) with rfl | rfl | rfl
          · exact c1_1 (Int32.toInt_inj.mp e)
          · exact c1_2 (Int32.toInt_inj.mp e)
          · exact c1_3 (Int32.toInt_inj.mp e)
        · refine sn_blk _ kX10_moved_0_4 (pc' := 48) (L' := [some (.ref a0), some (.int a1), some (.int a2)]) (st' := [.int a1, .ref a0]) rfl rfl ?_
          obtain ⟨x7, H8, hx7, h⟩ := bd2_inv h
          refine sn_calls (av := [.ref a0, .int a1]) (st := []) (M2 := mX10_down) dX10_moved_48 msX10_down mlX10_74 rfl rfl rfl rfl rfl (sX10_down hx7) ?_
          cases h
          exact sn_iret (ty := .int) dX10_moved_51 rfl rfl
theorem sX10_moved {G : GG} {r : Int32} {H' : Hp} {a0 : Nat} {a1 : Int32} {a2 : Int32} {H : Hp} (h : FX10_moved a0 a1 a2 H = some (r, H')) : SM G mX10_moved [.ref a0, .int a1, .int a2] H (some (.int r)) H' := tFX10_moved h
/-! SquareFoldsModel.groupSize()I -/
theorem kX10_groupSize_0_0 : decB cX10_groupSize 0 [(.aload_n 0, .null)] = true := by decide +kernel
theorem kX10_groupSize_0_1 : decB cX10_groupSize 4 [(.iconst 0, .int 0)] = true := by decide +kernel
theorem kX10_groupSize_0_2 : decB cX10_groupSize 6 [(.istore_n 1, .null), (.iconst 0, .int 0), (.istore_n 2, .null), (.iload_n 1, .null), (.iconst 1, .int 1), (.isub, .null), (.istore_n 3, .null)] = true := by decide +kernel
theorem kX10_groupSize_13_0 : decB cX10_groupSize 13 [(.iload_n 3, .null)] = true := by decide +kernel
theorem kX10_groupSize_13_1 : decB cX10_groupSize 29 [(.aload_n 0, .null)] = true := by decide +kernel
theorem kX10_groupSize_13_2 : decB cX10_groupSize 33 [(.iconst 0, .int 0), (.iload_n 2, .null)] = true := by decide +kernel
theorem kX10_groupSize_13_3 : decB cX10_groupSize 36 [(.iconst 1, .int 1), (.istore_n 3, .null), (.iconst 0, .int 0), (.istore 4, .null)] = true := by decide +kernel
theorem kX10_groupSize_13_4 : decB cX10_groupSize 17 [(.iconst 5, .int 5), (.iload_n 2, .null), (.imul, .null), (.iload_n 3, .null), (.iadd, .null), (.istore_n 2, .null), (.iinc 3 (-1), .int (-1)), (.goto (-13), .retAddr 13)] = true := by decide +kernel
theorem kX10_groupSize_41_0 : decB cX10_groupSize 41 [(.iload 4, .null), (.iload_n 3, .null)] = true := by decide +kernel
theorem kX10_groupSize_41_1 : decB cX10_groupSize 177 [(.iload_n 3, .null)] = true := by decide +kernel
theorem kX10_groupSize_41_2 : decB cX10_groupSize 47 [(.iconst 1, .int 1), (.istore 5, .null)] = true := by decide +kernel
theorem kX10_groupSize_50_0 : decB cX10_groupSize 50 [(.iload 5, .null), (.iconst 4, .int 4)] = true := by decide +kernel
theorem kX10_groupSize_50_1 : decB cX10_groupSize 171 [(.iinc 4 1, .int 1), (.goto (-133), .retAddr 41)] = true := by decide +kernel
theorem kX10_groupSize_50_2 : decB cX10_groupSize 56 [(.iconst 0, .int 0), (.istore 6, .null), (.iload_n 1, .null), (.iconst 1, .int 1), (.isub, .null), (.istore 7, .null)] = true := by decide +kernel
theorem kX10_groupSize_64_0 : decB cX10_groupSize 64 [(.iload 7, .null)] = true := by decide +kernel
theorem kX10_groupSize_64_1 : decB cX10_groupSize 107 [(.iconst 0, .int 0), (.istore 7, .null), (.iconst 0, .int 0), (.istore 8, .null)] = true := by decide +kernel
theorem kX10_groupSize_64_2 : decB cX10_groupSize 69 [(.iconst 5, .int 5), (.iload 6, .null), (.imul, .null), (.aload_n 0, .null)] = true := by decide +kernel
theorem kX10_groupSize_64_3 : decB cX10_groupSize 77 [(.aload_n 0, .null)] = true := by decide +kernel
theorem kX10_groupSize_64_4 : decB cX10_groupSize 81 [(.iload 4, .null)] = true := by decide +kernel
theorem kX10_groupSize_64_5 : decB cX10_groupSize 84 [(.iconst 5, .int 5), (.iload 7, .null)] = true := by decide +kernel
theorem kX10_groupSize_64_6 : decB cX10_groupSize 91 [(.iconst 5, .int 5)] = true := by decide +kernel
theorem kX10_groupSize_64_7 : decB cX10_groupSize 93 [(.iload 5, .null)] = true := by decide +kernel
theorem kX10_groupSize_64_8 : decB cX10_groupSize 98 [(.iadd, .null), (.istore 6, .null), (.iinc 7 (-1), .int (-1)), (.goto (-40), .retAddr 64)] = true := by decide +kernel
theorem kX10_groupSize_113_0 : decB cX10_groupSize 113 [(.iload 8, .null), (.iload_n 3, .null)] = true := by decide +kernel
theorem kX10_groupSize_113_1 : decB cX10_groupSize 149 [(.iload 7, .null)] = true := by decide +kernel
theorem kX10_groupSize_113_2 : decB cX10_groupSize 165 [(.iinc 5 2, .int 2), (.goto (-118), .retAddr 50)] = true := by decide +kernel
theorem kX10_groupSize_113_3 : decB cX10_groupSize 154 [(.aload_n 0, .null)] = true := by decide +kernel
theorem kX10_groupSize_113_4 : decB cX10_groupSize 158 [(.iload_n 3, .null), (.iload 6, .null)] = true := by decide +kernel
theorem kX10_groupSize_113_5 : decB cX10_groupSize 162 [(.iinc 3 1, .int 1), (.iinc 5 2, .int 2), (.goto (-118), .retAddr 50)] = true := by decide +kernel
theorem kX10_groupSize_113_6 : decB cX10_groupSize 119 [(.iload 7, .null)] = true := by decide +kernel
theorem kX10_groupSize_113_7 : decB cX10_groupSize 124 [(.aload_n 0, .null)] = true := by decide +kernel
theorem kX10_groupSize_113_8 : decB cX10_groupSize 128 [(.iload 8, .null)] = true := by decide +kernel
theorem kX10_groupSize_113_9 : decB cX10_groupSize 131 [(.iload 6, .null)] = true := by decide +kernel
theorem kX10_groupSize_113_10 : decB cX10_groupSize 140 [(.iconst 0, .int 0), (.istore 7, .null), (.iinc 8 1, .int 1), (.goto (-33), .retAddr 113)] = true := by decide +kernel
theorem kX10_groupSize_136_0 : decB cX10_groupSize 136 [(.iconst 1, .int 1), (.goto 4, .retAddr 141), (.istore 7, .null), (.iinc 8 1, .int 1), (.goto (-33), .retAddr 113)] = true := by decide +kernel
theorem dX10_groupSize_1 : decode cX10_groupSize 1 = .ok (.getfield 13, 3) := by decide +kernel
theorem dX10_groupSize_5 : decode cX10_groupSize 5 = .ok (.iaload, 1) := by decide +kernel
theorem dX10_groupSize_14 : decode cX10_groupSize 14 = .ok (.ifCond .lt 15, 3) := by decide +kernel
theorem dX10_groupSize_30 : decode cX10_groupSize 30 = .ok (.getfield 54, 3) := by decide +kernel
theorem dX10_groupSize_35 : decode cX10_groupSize 35 = .ok (.iastore, 1) := by decide +kernel
theorem dX10_groupSize_44 : decode cX10_groupSize 44 = .ok (.if_icmp .ge 133, 3) := by decide +kernel
theorem dX10_groupSize_53 : decode cX10_groupSize 53 = .ok (.if_icmp .ge 118, 3) := by decide +kernel
theorem dX10_groupSize_66 : decode cX10_groupSize 66 = .ok (.ifCond .lt 41, 3) := by decide +kernel
theorem dX10_groupSize_74 : decode cX10_groupSize 74 = .ok (.getfield 13, 3) := by decide +kernel
theorem dX10_groupSize_78 : decode cX10_groupSize 78 = .ok (.getfield 54, 3) := by decide +kernel
theorem dX10_groupSize_83 : decode cX10_groupSize 83 = .ok (.iaload, 1) := by decide +kernel
theorem dX10_groupSize_87 : decode cX10_groupSize 87 = .ok (.invokestatic 154, 3) := by decide +kernel
theorem dX10_groupSize_90 : decode cX10_groupSize 90 = .ok (.idiv, 1) := by decide +kernel
theorem dX10_groupSize_92 : decode cX10_groupSize 92 = .ok (.irem, 1) := by decide +kernel
theorem dX10_groupSize_95 : decode cX10_groupSize 95 = .ok (.invokestatic 157, 3) := by decide +kernel
theorem dX10_groupSize_116 : decode cX10_groupSize 116 = .ok (.if_icmp .ge 33, 3) := by decide +kernel
theorem dX10_groupSize_121 : decode cX10_groupSize 121 = .ok (.ifCond .ne 15, 3) := by decide +kernel
theorem dX10_groupSize_125 : decode cX10_groupSize 125 = .ok (.getfield 54, 3) := by decide +kernel
theorem dX10_groupSize_130 : decode cX10_groupSize 130 = .ok (.iaload, 1) := by decide +kernel
theorem dX10_groupSize_133 : decode cX10_groupSize 133 = .ok (.if_icmp .ne 7, 3) := by decide +kernel
theorem dX10_groupSize_151 : decode cX10_groupSize 151 = .ok (.ifCond .ne 14, 3) := by decide +kernel
theorem dX10_groupSize_155 : decode cX10_groupSize 155 = .ok (.getfield 54, 3) := by decide +kernel
theorem dX10_groupSize_161 : decode cX10_groupSize 161 = .ok (.iastore, 1) := by decide +kernel
theorem dX10_groupSize_178 : decode cX10_groupSize 178 = .ok (.ireturn, 1) := by decide +kernel
def fX10_groupSize_136 (K41 : Nat → Int32 → Int32 → Int32 → Hp → Option (Int32 × Hp)) (K50 : Nat → Int32 → Int32 → Int32 → Int32 → Hp → Option (Int32 × Hp)) (K113 : Nat → Int32 → Int32 → Int32 → Int32 → Int32 → Int32 → Int32 → Hp → Option (Int32 × Hp)) (a0 : Nat) (a1 : Int32) (a3 : Int32) (a4 : Int32) (a5 : Int32) (a6 : Int32) (a8 : Int32) (H : Hp) : Option (Int32 × Hp) :=
  K113 a0 a1 a3 a4 a5 a6 1 (a8 + 1) H
set_option maxHeartbeats 4000000 in
set_option maxRecDepth 100000 in
theorem tfX10_groupSize_136 {G : GG} {r : Int32} {H' : Hp} {K41 : Nat → Int32 → Int32 → Int32 → Hp → Option (Int32 × Hp)} {K50 : Nat → Int32 → Int32 → Int32 → Int32 → Hp → Option (Int32 × Hp)} {K113 : Nat → Int32 → Int32 → Int32 → Int32 → Int32 → Int32 → Int32 → Hp → Option (Int32 × Hp)} (hK41 : ∀ (a0 : Nat) (a1 : Int32) (a3 : Int32) (a4 : Int32) (H : Hp), K41 a0 a1 a3 a4 H = some (r, H') → Sn G (T0 G (some (.int r)) H') mX10_groupSize 41 [some (.ref a0), some (.int a1), none, some (.int a3), some (.int a4), none, none, none, none] [] H) (hK50 : ∀ (a0 : Nat) (a1 : Int32) (a3 : Int32) (a4 : Int32) (a5 : Int32) (H : Hp), K50 a0 a1 a3 a4 a5 H = some (r, H') → Sn G (T0 G (some (.int r)) H') mX10_groupSize 50 [some (.ref a0), some (.int a1), none, some (.int a3), some (.int a4), some (.int a5), none, none, none] [] H) (hK113 : ∀ (a0 : Nat) (a1 : Int32) (a3 : Int32) (a4 : Int32) (a5 : Int32) (a6 : Int32) (a7 : Int32) (a8 : Int32) (H : Hp), K113 a0 a1 a3 a4 a5 a6 a7 a8 H = some (r, H') → Sn G (T0 G (some (.int r)) H') mX10_groupSize 113 [some (.ref a0), some (.int a1), none, some (.int a3), some (.int a4), some (.int a5), some (.int a6), some (.int a7), some (.int a8)] [] H) {a0 : Nat} {a1 : Int32} {a3 : Int32} {a4 : Int32} {a5 : Int32} {a6 : Int32} {a8 : Int32} {H : Hp} (h : fX10_groupSize_136 K41 K50 K113 a0 a1 a3 a4 a5 a6 a8 H = some (r, H')) : Sn G (T0 G (some (.int r)) H') mX10_groupSize 136 [some (.ref a0), some (.int a1), none, some (.int a3), some (.int a4), some (.int a5), some (.int a6), none, some (.int a8)] [] H := by
  unfold fX10_groupSize_136 at h
  refine sn_blk _ kX10_groupSize_136_0 (pc' := 113) (L' := [some (.ref a0), some (.int a1), none, some (.int a3), some (.int a4), some (.int a5), some (.int a6), some (.int 1), some (.int (a8 + 1))]) (st' := []) rfl rfl ?_
  exact hK113 _ _ _ _ _ _ _ _ _ h
def bX10_groupSize_113 (K41 : Nat → Int32 → Int32 → Int32 → Hp → Option (Int32 × Hp)) (K50 : Nat → Int32 → Int32 → Int32 → Int32 → Hp → Option (Int32 × Hp)) (K113 : Nat → Int32 → Int32 → Int32 → Int32 → Int32 → Int32 → Int32 → Hp → Option (Int32 × Hp)) (a0 : Nat) (a1 : Int32) (a3 : Int32) (a4 : Int32) (a5 : Int32) (a6 : Int32) (a7 : Int32) (a8 : Int32) (H : Hp) : Option (Int32 × Hp) :=
  if (a3 ≤ a8 : Prop) then
    if (a7 = 0 : Prop) then
      bd (gA H a0 9 20) fun x1 =>
      bd (sI H x1 0 a3 a6) fun H2 =>
      K50 a0 a1 (a3 + 1) a4 (a5 + 2) H2
    else
      K50 a0 a1 a3 a4 (a5 + 2) H
  else
    if (a7 = 0 : Prop) then
      bd (gA H a0 9 20) fun x3 =>
      bd (aI H x3 0 a8) fun x4 =>
      if (x4 = a6 : Prop) then
        fX10_groupSize_136 K41 K50 K113 a0 a1 a3 a4 a5 a6 a8 H
      else
        K113 a0 a1 a3 a4 a5 a6 0 (a8 + 1) H
    else
      fX10_groupSize_136 K41 K50 K113 a0 a1 a3 a4 a5 a6 a8 H
set_option maxHeartbeats 4000000 in
set_option maxRecDepth 100000 in
theorem tbX10_groupSize_113 {G : GG} {r : Int32} {H' : Hp} {K41 : Nat → Int32 → Int32 → Int32 → Hp → Option (Int32 × Hp)} {K50 : Nat → Int32 → Int32 → Int32 → Int32 → Hp → Option (Int32 × Hp)} {K113 : Nat → Int32 → Int32 → Int32 → Int32 → Int32 → Int32 → Int32 → Hp → Option (Int32 × Hp)} (hK41 : ∀ (a0 : Nat) (a1 : Int32) (a3 : Int32) (a4 : Int32) (H : Hp), K41 a0 a1 a3 a4 H = some (r, H') → Sn G (T0 G (some (.int r)) H') mX10_groupSize 41 [some (.ref a0), some (.int a1), none, some (.int a3), some (.int a4), none, none, none, none] [] H) (hK50 : ∀ (a0 : Nat) (a1 : Int32) (a3 : Int32) (a4 : Int32) (a5 : Int32) (H : Hp), K50 a0 a1 a3 a4 a5 H = some (r, H') → Sn G (T0 G (some (.int r)) H') mX10_groupSize 50 [some (.ref a0), some (.int a1), none, some (.int a3), some (.int a4), some (.int a5), none, none, none] [] H) (hK113 : ∀ (a0 : Nat) (a1 : Int32) (a3 : Int32) (a4 : Int32) (a5 : Int32) (a6 : Int32) (a7 : Int32) (a8 : Int32) (H : Hp), K113 a0 a1 a3 a4 a5 a6 a7 a8 H = some (r, H') → Sn G (T0 G (some (.int r)) H') mX10_groupSize 113 [some (.ref a0), some (.int a1), none, some (.int a3), some (.int a4), some (.int a5), some (.int a6), some (.int a7), some (.int a8)] [] H) {a0 : Nat} {a1 : Int32} {a3 : Int32} {a4 : Int32} {a5 : Int32} {a6 : Int32} {a7 : Int32} {a8 : Int32} {H : Hp} (h : bX10_groupSize_113 K41 K50 K113 a0 a1 a3 a4 a5 a6 a7 a8 H = some (r, H')) : Sn G (T0 G (some (.int r)) H') mX10_groupSize 113 [some (.ref a0), some (.int a1), none, some (.int a3), some (.int a4), some (.int a5), some (.int a6), some (.int a7), some (.int a8)] [] H := by
  unfold bX10_groupSize_113 at h
  refine sn_blk _ kX10_groupSize_113_0 (pc' := 116) (L' := [some (.ref a0), some (.int a1), none, some (.int a3), some (.int a4), some (.int a5), some (.int a6), some (.int a7), some (.int a8)]) (st' := [.int a3, .int a8]) rfl rfl ?_
  refine sn_icmp_ge (tgt := 149) dX10_groupSize_116 (by decide) (fun c => ?_) (fun c => ?_)
  · rw [if_pos c] at h
    refine sn_blk _ kX10_groupSize_113_1 (pc' := 151) (L' := [some (.ref a0), some (.int a1), none, some (.int a3), some (.int a4), some (.int a5), some (.int a6), some (.int a7), some (.int a8)]) (st' := [.int a7]) rfl rfl ?_
    refine sn_if_ne (tgt := 165) dX10_groupSize_151 (by decide) (fun c => ?_) (fun c => ?_)
    · rw [if_neg c] at h
      refine sn_blk _ kX10_groupSize_113_2 (pc' := 50) (L' := [some (.ref a0), some (.int a1), none, some (.int a3), some (.int a4), some (.int (a5 + 2)), some (.int a6), some (.int a7), some (.int a8)]) (st' := []) rfl rfl ?_
      refine sn_msk [true, true, true, true, true, true, false, false, false] (L2 := [some (.ref a0), some (.int a1), none, some (.int a3), some (.int a4), some (.int (a5 + 2)), none, none, none]) rfl ?_
      exact hK50 _ _ _ _ _ _ h
    · rw [if_pos c] at h
      refine sn_blk _ kX10_groupSize_113_3 (pc' := 155) (L' := [some (.ref a0), some (.int a1), none, some (.int a3), some (.int a4), some (.int a5), some (.int a6), some (.int a7), some (.int a8)]) (st' := [.ref a0]) rfl rfl ?_
      obtain ⟨x1, hx1, h⟩ := bd_inv h
      refine sn_gA dX10_groupSize_155 foX10_54 hx1 ?_
      refine sn_blk _ kX10_groupSize_113_4 (pc' := 161) (L' := [some (.ref a0), some (.int a1), none, some (.int a3), some (.int a4), some (.int a5), some (.int a6), some (.int a7), some (.int a8)]) (st' := [.int a6, .int a3, .ref x1]) rfl rfl ?_
      obtain ⟨H2, hH2, h⟩ := bd_inv h
      refine sn_iast dX10_groupSize_161 hH2 ?_
      refine sn_blk _ kX10_groupSize_113_5 (pc' := 50) (L' := [some (.ref a0), some (.int a1), none, some (.int (a3 + 1)), some (.int a4), some (.int (a5 + 2)), some (.int a6), some (.int a7), some (.int a8)]) (st' := []) rfl rfl ?_
      refine sn_msk [true, true, true, true, true, true, false, false, false] (L2 := [some (.ref a0), some (.int a1), none, some (.int (a3 + 1)), some (.int a4), some (.int (a5 + 2)), none, none, none]) rfl ?_
      exact hK50 _ _ _ _ _ _ h
  · rw [if_neg c] at h
    refine sn_blk _ kX10_groupSize_113_6 (pc' := 121) (L' := [some (.ref a0), some (.int a1), none, some (.int a3), some (.int a4), some (.int a5), some (.int a6), some (.int a7), some (.int a8)]) (st' := [.int a7]) rfl rfl ?_
    refine sn_if_ne (tgt := 136) dX10_groupSize_121 (by decide) (fun c => ?_) (fun c => ?_)
    · rw [if_neg c] at h
      refine sn_msk [true, true, true, true, true, true, true, false, true] (L2 := [some (.ref a0), some (.int a1), none, some (.int a3), some (.int a4), some (.int a5), some (.int a6), none, some (.int a8)]) rfl ?_
      exact tfX10_groupSize_136 hK41 hK50 hK113 h
    · rw [if_pos c] at h
      refine sn_blk _ kX10_groupSize_113_7 (pc' := 125) (L' := [some (.ref a0), some (.int a1), none, some (.int a3), some (.int a4), some (.int a5), some (.int a6), some (.int a7), some (.int a8)]) (st' := [.ref a0]) rfl rfl ?_
      obtain ⟨x3, hx3, h⟩ := bd_inv h
      refine sn_gA dX10_groupSize_125 foX10_54 hx3 ?_
      refine sn_blk _ kX10_groupSize_113_8 (pc' := 130) (L' := [some (.ref a0), some (.int a1), none, some (.int a3), some (.int a4), some (.int a5), some (.int a6), some (.int a7), some (.int a8)]) (st' := [.int a8, .ref x3]) rfl rfl ?_
      obtain ⟨x4, hx4, h⟩ := bd_inv h
      refine sn_iald dX10_groupSize_130 hx4 ?_
      refine sn_blk _ kX10_groupSize_113_9 (pc' := 133) (L' := [some (.ref a0), some (.int a1), none, some (.int a3), some (.int a4), some (.int a5), some (.int a6), some (.int a7), some (.int a8)]) (st' := [.int a6, .int x4]) rfl rfl ?_
      refine sn_icmp_ne (tgt := 140) dX10_groupSize_133 (by decide) (fun c => ?_) (fun c => ?_)
      · rw [if_neg c] at h
        refine sn_blk _ kX10_groupSize_113_10 (pc' := 113) (L' := [some (.ref a0), some (.int a1), none, some (.int a3), some (.int a4), some (.int a5), some (.int a6), some (.int 0), some (.int (a8 + 1))]) (st' := []) rfl rfl ?_
        exact hK113 _ _ _ _ _ _ _ _ _ h
      · rw [if_pos c] at h
        refine sn_msk [true, true, true, true, true, true, true, false, true] (L2 := [some (.ref a0), some (.int a1), none, some (.int a3), some (.int a4), some (.int a5), some (.int a6), none, some (.int a8)]) rfl ?_
        exact tfX10_groupSize_136 hK41 hK50 hK113 h
def fX10_groupSize_113 (K41 : Nat → Int32 → Int32 → Int32 → Hp → Option (Int32 × Hp)) (K50 : Nat → Int32 → Int32 → Int32 → Int32 → Hp → Option (Int32 × Hp)) : Nat → Nat → Int32 → Int32 → Int32 → Int32 → Int32 → Int32 → Int32 → Hp → Option (Int32 × Hp)
  | 0, _, _, _, _, _, _, _, _, _ => none
  | d + 1, a0, a1, a3, a4, a5, a6, a7, a8, H => bX10_groupSize_113 K41 K50 (fX10_groupSize_113 K41 K50 d) a0 a1 a3 a4 a5 a6 a7 a8 H
theorem tfX10_groupSize_113 {G : GG} {r : Int32} {H' : Hp} {K41 : Nat → Int32 → Int32 → Int32 → Hp → Option (Int32 × Hp)} {K50 : Nat → Int32 → Int32 → Int32 → Int32 → Hp → Option (Int32 × Hp)} (hK41 : ∀ (a0 : Nat) (a1 : Int32) (a3 : Int32) (a4 : Int32) (H : Hp), K41 a0 a1 a3 a4 H = some (r, H') → Sn G (T0 G (some (.int r)) H') mX10_groupSize 41 [some (.ref a0), some (.int a1), none, some (.int a3), some (.int a4), none, none, none, none] [] H) (hK50 : ∀ (a0 : Nat) (a1 : Int32) (a3 : Int32) (a4 : Int32) (a5 : Int32) (H : Hp), K50 a0 a1 a3 a4 a5 H = some (r, H') → Sn G (T0 G (some (.int r)) H') mX10_groupSize 50 [some (.ref a0), some (.int a1), none, some (.int a3), some (.int a4), some (.int a5), none, none, none] [] H) : ∀ (d : Nat) {a0 : Nat} {a1 : Int32} {a3 : Int32} {a4 : Int32} {a5 : Int32} {a6 : Int32} {a7 : Int32} {a8 : Int32} {H : Hp}, fX10_groupSize_113 K41 K50 d a0 a1 a3 a4 a5 a6 a7 a8 H = some (r, H') → Sn G (T0 G (some (.int r)) H') mX10_groupSize 113 [some (.ref a0), some (.int a1), none, some (.int a3), some (.int a4), some (.int a5), some (.int a6), some (.int a7), some (.int a8)] [] H := by
  intro d
  induction d with
  | zero => intro a0 a1 a3 a4 a5 a6 a7 a8 H h; cases h
  | succ d ih => intro a0 a1 a3 a4 a5 a6 a7 a8 H h; exact tbX10_groupSize_113 hK41 hK50 (fun a0 a1 a3 a4 a5 a6 a7 a8 H h => ih h) h
def bX10_groupSize_64 (K41 : Nat → Int32 → Int32 → Int32 → Hp → Option (Int32 × Hp)) (K50 : Nat → Int32 → Int32 → Int32 → Int32 → Hp → Option (Int32 × Hp)) (K64 : Nat → Int32 → Int32 → Int32 → Int32 → Int32 → Int32 → Hp → Option (Int32 × Hp)) (a0 : Nat) (a1 : Int32) (a3 : Int32) (a4 : Int32) (a5 : Int32) (a6 : Int32) (a7 : Int32) (H : Hp) : Option (Int32 × Hp) :=
  if (a7 < 0 : Prop) then
    fX10_groupSize_113 K41 K50 4096 a0 a1 a3 a4 a5 a6 0 0 H
  else
    bd (gA H a0 9 2) fun x1 =>
    bd (gA H a0 9 20) fun x2 =>
    bd (aI H x2 0 a4) fun x3 =>
    bd2 (FX10_power 5 a7 H) fun x4 H5 =>
    gp (¬ x4 = 0) (
      bd2 (FX10_moved x1 (rI (x3 / x4) 5) a5 H5) fun x6 H7 =>
      K64 a0 a1 a3 a4 a5 ((5 * a6) + x6) (a7 + (-1)) H7
      )
set_option maxHeartbeats 4000000 in
set_option maxRecDepth 100000 in
theorem tbX10_groupSize_64 {G : GG} {r : Int32} {H' : Hp} {K41 : Nat → Int32 → Int32 → Int32 → Hp → Option (Int32 × Hp)} {K50 : Nat → Int32 → Int32 → Int32 → Int32 → Hp → Option (Int32 × Hp)} {K64 : Nat → Int32 → Int32 → Int32 → Int32 → Int32 → Int32 → Hp → Option (Int32 × Hp)} (hK41 : ∀ (a0 : Nat) (a1 : Int32) (a3 : Int32) (a4 : Int32) (H : Hp), K41 a0 a1 a3 a4 H = some (r, H') → Sn G (T0 G (some (.int r)) H') mX10_groupSize 41 [some (.ref a0), some (.int a1), none, some (.int a3), some (.int a4), none, none, none, none] [] H) (hK50 : ∀ (a0 : Nat) (a1 : Int32) (a3 : Int32) (a4 : Int32) (a5 : Int32) (H : Hp), K50 a0 a1 a3 a4 a5 H = some (r, H') → Sn G (T0 G (some (.int r)) H') mX10_groupSize 50 [some (.ref a0), some (.int a1), none, some (.int a3), some (.int a4), some (.int a5), none, none, none] [] H) (hK64 : ∀ (a0 : Nat) (a1 : Int32) (a3 : Int32) (a4 : Int32) (a5 : Int32) (a6 : Int32) (a7 : Int32) (H : Hp), K64 a0 a1 a3 a4 a5 a6 a7 H = some (r, H') → Sn G (T0 G (some (.int r)) H') mX10_groupSize 64 [some (.ref a0), some (.int a1), none, some (.int a3), some (.int a4), some (.int a5), some (.int a6), some (.int a7), none] [] H) {a0 : Nat} {a1 : Int32} {a3 : Int32} {a4 : Int32} {a5 : Int32} {a6 : Int32} {a7 : Int32} {H : Hp} (h : bX10_groupSize_64 K41 K50 K64 a0 a1 a3 a4 a5 a6 a7 H = some (r, H')) : Sn G (T0 G (some (.int r)) H') mX10_groupSize 64 [some (.ref a0), some (.int a1), none, some (.int a3), some (.int a4), some (.int a5), some (.int a6), some (.int a7), none] [] H := by
  unfold bX10_groupSize_64 at h
  refine sn_blk _ kX10_groupSize_64_0 (pc' := 66) (L' := [some (.ref a0), some (.int a1), none, some (.int a3), some (.int a4), some (.int a5), some (.int a6), some (.int a7), none]) (st' := [.int a7]) rfl rfl ?_
  refine sn_if_lt (tgt := 107) dX10_groupSize_66 (by decide) (fun c => ?_) (fun c => ?_)
  · rw [if_pos c] at h
    refine sn_blk _ kX10_groupSize_64_1 (pc' := 113) (L' := [some (.ref a0), some (.int a1), none, some (.int a3), some (.int a4), some (.int a5), some (.int a6), some (.int 0), some (.int 0)]) (st' := []) rfl rfl ?_
    exact tfX10_groupSize_113 hK41 hK50 4096 h
  · rw [if_neg c] at h
    refine sn_blk _ kX10_groupSize_64_2 (pc' := 74) (L' := [some (.ref a0), some (.int a1), none, some (.int a3), some (.int a4), some (.int a5), some (.int a6), some (.int a7), none]) (st' := [.ref a0, .int (5 * a6)]) rfl rfl ?_
    obtain ⟨x1, hx1, h⟩ := bd_inv h
    refine sn_gA dX10_groupSize_74 foX10_13 hx1 ?_
    refine sn_blk _ kX10_groupSize_64_3 (pc' := 78) (L' := [some (.ref a0), some (.int a1), none, some (.int a3), some (.int a4), some (.int a5), some (.int a6), some (.int a7), none]) (st' := [.ref a0, .ref x1, .int (5 * a6)]) rfl rfl ?_
    obtain ⟨x2, hx2, h⟩ := bd_inv h
    refine sn_gA dX10_groupSize_78 foX10_54 hx2 ?_
    refine sn_blk _ kX10_groupSize_64_4 (pc' := 83) (L' := [some (.ref a0), some (.int a1), none, some (.int a3), some (.int a4), some (.int a5), some (.int a6), some (.int a7), none]) (st' := [.int a4, .ref x2, .ref x1, .int (5 * a6)]) rfl rfl ?_
    obtain ⟨x3, hx3, h⟩ := bd_inv h
    refine sn_iald dX10_groupSize_83 hx3 ?_
    refine sn_blk _ kX10_groupSize_64_5 (pc' := 87) (L' := [some (.ref a0), some (.int a1), none, some (.int a3), some (.int a4), some (.int a5), some (.int a6), some (.int a7), none]) (st' := [.int a7, .int 5, .int x3, .ref x1, .int (5 * a6)]) rfl rfl ?_
    obtain ⟨x4, H5, hx4, h⟩ := bd2_inv h
    refine sn_calls (av := [.int 5, .int a7]) (st := [.int x3, .ref x1, .int (5 * a6)]) (M2 := mX10_power) dX10_groupSize_87 msX10_power mlX10_154 rfl rfl rfl rfl rfl (sX10_power hx4) ?_
    obtain ⟨hy, h⟩ := gp_inv h
    refine sn_idiv dX10_groupSize_90 hy ?_
    refine sn_blk _ kX10_groupSize_64_6 (pc' := 92) (L' := [some (.ref a0), some (.int a1), none, some (.int a3), some (.int a4), some (.int a5), some (.int a6), some (.int a7), none]) (st' := [.int 5, .int (x3 / x4), .ref x1, .int (5 * a6)]) rfl rfl ?_
    refine sn_irem dX10_groupSize_92 (by decide) ?_
    refine sn_blk _ kX10_groupSize_64_7 (pc' := 95) (L' := [some (.ref a0), some (.int a1), none, some (.int a3), some (.int a4), some (.int a5), some (.int a6), some (.int a7), none]) (st' := [.int a5, .int (rI (x3 / x4) 5), .ref x1, .int (5 * a6)]) rfl rfl ?_
    obtain ⟨x6, H7, hx6, h⟩ := bd2_inv h
    refine sn_calls (av := [.ref x1, .int (rI (x3 / x4) 5), .int a5]) (st := [.int (5 * a6)]) (M2 := mX10_moved) dX10_groupSize_95 msX10_moved mlX10_157 rfl rfl rfl rfl rfl (sX10_moved hx6) ?_
    refine sn_blk _ kX10_groupSize_64_8 (pc' := 64) (L' := [some (.ref a0), some (.int a1), none, some (.int a3), some (.int a4), some (.int a5), some (.int ((5 * a6) + x6)), some (.int (a7 + (-1))), none]) (st' := []) rfl rfl ?_
    exact hK64 _ _ _ _ _ _ _ _ h
def fX10_groupSize_64 (K41 : Nat → Int32 → Int32 → Int32 → Hp → Option (Int32 × Hp)) (K50 : Nat → Int32 → Int32 → Int32 → Int32 → Hp → Option (Int32 × Hp)) : Nat → Nat → Int32 → Int32 → Int32 → Int32 → Int32 → Int32 → Hp → Option (Int32 × Hp)
  | 0, _, _, _, _, _, _, _, _ => none
  | d + 1, a0, a1, a3, a4, a5, a6, a7, H => bX10_groupSize_64 K41 K50 (fX10_groupSize_64 K41 K50 d) a0 a1 a3 a4 a5 a6 a7 H
theorem tfX10_groupSize_64 {G : GG} {r : Int32} {H' : Hp} {K41 : Nat → Int32 → Int32 → Int32 → Hp → Option (Int32 × Hp)} {K50 : Nat → Int32 → Int32 → Int32 → Int32 → Hp → Option (Int32 × Hp)} (hK41 : ∀ (a0 : Nat) (a1 : Int32) (a3 : Int32) (a4 : Int32) (H : Hp), K41 a0 a1 a3 a4 H = some (r, H') → Sn G (T0 G (some (.int r)) H') mX10_groupSize 41 [some (.ref a0), some (.int a1), none, some (.int a3), some (.int a4), none, none, none, none] [] H) (hK50 : ∀ (a0 : Nat) (a1 : Int32) (a3 : Int32) (a4 : Int32) (a5 : Int32) (H : Hp), K50 a0 a1 a3 a4 a5 H = some (r, H') → Sn G (T0 G (some (.int r)) H') mX10_groupSize 50 [some (.ref a0), some (.int a1), none, some (.int a3), some (.int a4), some (.int a5), none, none, none] [] H) : ∀ (d : Nat) {a0 : Nat} {a1 : Int32} {a3 : Int32} {a4 : Int32} {a5 : Int32} {a6 : Int32} {a7 : Int32} {H : Hp}, fX10_groupSize_64 K41 K50 d a0 a1 a3 a4 a5 a6 a7 H = some (r, H') → Sn G (T0 G (some (.int r)) H') mX10_groupSize 64 [some (.ref a0), some (.int a1), none, some (.int a3), some (.int a4), some (.int a5), some (.int a6), some (.int a7), none] [] H := by
  intro d
  induction d with
  | zero => intro a0 a1 a3 a4 a5 a6 a7 H h; cases h
  | succ d ih => intro a0 a1 a3 a4 a5 a6 a7 H h; exact tbX10_groupSize_64 hK41 hK50 (fun a0 a1 a3 a4 a5 a6 a7 H h => ih h) h
def bX10_groupSize_50 (K41 : Nat → Int32 → Int32 → Int32 → Hp → Option (Int32 × Hp)) (K50 : Nat → Int32 → Int32 → Int32 → Int32 → Hp → Option (Int32 × Hp)) (a0 : Nat) (a1 : Int32) (a3 : Int32) (a4 : Int32) (a5 : Int32) (H : Hp) : Option (Int32 × Hp) :=
  if (4 ≤ a5 : Prop) then
    K41 a0 a1 a3 (a4 + 1) H
  else
    fX10_groupSize_64 K41 K50 4096 a0 a1 a3 a4 a5 0 (a1 - 1) H
set_option maxHeartbeats 4000000 in
set_option maxRecDepth 100000 in
theorem tbX10_groupSize_50 {G : GG} {r : Int32} {H' : Hp} {K41 : Nat → Int32 → Int32 → Int32 → Hp → Option (Int32 × Hp)} {K50 : Nat → Int32 → Int32 → Int32 → Int32 → Hp → Option (Int32 × Hp)} (hK41 : ∀ (a0 : Nat) (a1 : Int32) (a3 : Int32) (a4 : Int32) (H : Hp), K41 a0 a1 a3 a4 H = some (r, H') → Sn G (T0 G (some (.int r)) H') mX10_groupSize 41 [some (.ref a0), some (.int a1), none, some (.int a3), some (.int a4), none, none, none, none] [] H) (hK50 : ∀ (a0 : Nat) (a1 : Int32) (a3 : Int32) (a4 : Int32) (a5 : Int32) (H : Hp), K50 a0 a1 a3 a4 a5 H = some (r, H') → Sn G (T0 G (some (.int r)) H') mX10_groupSize 50 [some (.ref a0), some (.int a1), none, some (.int a3), some (.int a4), some (.int a5), none, none, none] [] H) {a0 : Nat} {a1 : Int32} {a3 : Int32} {a4 : Int32} {a5 : Int32} {H : Hp} (h : bX10_groupSize_50 K41 K50 a0 a1 a3 a4 a5 H = some (r, H')) : Sn G (T0 G (some (.int r)) H') mX10_groupSize 50 [some (.ref a0), some (.int a1), none, some (.int a3), some (.int a4), some (.int a5), none, none, none] [] H := by
  unfold bX10_groupSize_50 at h
  refine sn_blk _ kX10_groupSize_50_0 (pc' := 53) (L' := [some (.ref a0), some (.int a1), none, some (.int a3), some (.int a4), some (.int a5), none, none, none]) (st' := [.int 4, .int a5]) rfl rfl ?_
  refine sn_icmp_ge (tgt := 171) dX10_groupSize_53 (by decide) (fun c => ?_) (fun c => ?_)
  · rw [if_pos c] at h
    refine sn_blk _ kX10_groupSize_50_1 (pc' := 41) (L' := [some (.ref a0), some (.int a1), none, some (.int a3), some (.int (a4 + 1)), some (.int a5), none, none, none]) (st' := []) rfl rfl ?_
    refine sn_msk [true, true, true, true, true, false, true, true, true] (L2 := [some (.ref a0), some (.int a1), none, some (.int a3), some (.int (a4 + 1)), none, none, none, none]) rfl ?_
    exact hK41 _ _ _ _ _ h
  · rw [if_neg c] at h
    refine sn_blk _ kX10_groupSize_50_2 (pc' := 64) (L' := [some (.ref a0), some (.int a1), none, some (.int a3), some (.int a4), some (.int a5), some (.int 0), some (.int (a1 - 1)), none]) (st' := []) rfl rfl ?_
    exact tfX10_groupSize_64 hK41 hK50 4096 h
def fX10_groupSize_50 (K41 : Nat → Int32 → Int32 → Int32 → Hp → Option (Int32 × Hp)) : Nat → Nat → Int32 → Int32 → Int32 → Int32 → Hp → Option (Int32 × Hp)
  | 0, _, _, _, _, _, _ => none
  | d + 1, a0, a1, a3, a4, a5, H => bX10_groupSize_50 K41 (fX10_groupSize_50 K41 d) a0 a1 a3 a4 a5 H
theorem tfX10_groupSize_50 {G : GG} {r : Int32} {H' : Hp} {K41 : Nat → Int32 → Int32 → Int32 → Hp → Option (Int32 × Hp)} (hK41 : ∀ (a0 : Nat) (a1 : Int32) (a3 : Int32) (a4 : Int32) (H : Hp), K41 a0 a1 a3 a4 H = some (r, H') → Sn G (T0 G (some (.int r)) H') mX10_groupSize 41 [some (.ref a0), some (.int a1), none, some (.int a3), some (.int a4), none, none, none, none] [] H) : ∀ (d : Nat) {a0 : Nat} {a1 : Int32} {a3 : Int32} {a4 : Int32} {a5 : Int32} {H : Hp}, fX10_groupSize_50 K41 d a0 a1 a3 a4 a5 H = some (r, H') → Sn G (T0 G (some (.int r)) H') mX10_groupSize 50 [some (.ref a0), some (.int a1), none, some (.int a3), some (.int a4), some (.int a5), none, none, none] [] H := by
  intro d
  induction d with
  | zero => intro a0 a1 a3 a4 a5 H h; cases h
  | succ d ih => intro a0 a1 a3 a4 a5 H h; exact tbX10_groupSize_50 hK41 (fun a0 a1 a3 a4 a5 H h => ih h) h
def bX10_groupSize_41 (K41 : Nat → Int32 → Int32 → Int32 → Hp → Option (Int32 × Hp)) (a0 : Nat) (a1 : Int32) (a3 : Int32) (a4 : Int32) (H : Hp) : Option (Int32 × Hp) :=
  if (a3 ≤ a4 : Prop) then
    some (a3, H)
  else
    fX10_groupSize_50 K41 4096 a0 a1 a3 a4 1 H
set_option maxHeartbeats 4000000 in
set_option maxRecDepth 100000 in
theorem tbX10_groupSize_41 {G : GG} {r : Int32} {H' : Hp} {K41 : Nat → Int32 → Int32 → Int32 → Hp → Option (Int32 × Hp)} (hK41 : ∀ (a0 : Nat) (a1 : Int32) (a3 : Int32) (a4 : Int32) (H : Hp), K41 a0 a1 a3 a4 H = some (r, H') → Sn G (T0 G (some (.int r)) H') mX10_groupSize 41 [some (.ref a0), some (.int a1), none, some (.int a3), some (.int a4), none, none, none, none] [] H) {a0 : Nat} {a1 : Int32} {a3 : Int32} {a4 : Int32} {H : Hp} (h : bX10_groupSize_41 K41 a0 a1 a3 a4 H = some (r, H')) : Sn G (T0 G (some (.int r)) H') mX10_groupSize 41 [some (.ref a0), some (.int a1), none, some (.int a3), some (.int a4), none, none, none, none] [] H := by
  unfold bX10_groupSize_41 at h
  refine sn_blk _ kX10_groupSize_41_0 (pc' := 44) (L' := [some (.ref a0), some (.int a1), none, some (.int a3), some (.int a4), none, none, none, none]) (st' := [.int a3, .int a4]) rfl rfl ?_
  refine sn_icmp_ge (tgt := 177) dX10_groupSize_44 (by decide) (fun c => ?_) (fun c => ?_)
  · rw [if_pos c] at h
    refine sn_blk _ kX10_groupSize_41_1 (pc' := 178) (L' := [some (.ref a0), some (.int a1), none, some (.int a3), some (.int a4), none, none, none, none]) (st' := [.int a3]) rfl rfl ?_
    cases h
    exact sn_iret (ty := .int) dX10_groupSize_178 rfl rfl
  · rw [if_neg c] at h
    refine sn_blk _ kX10_groupSize_41_2 (pc' := 50) (L' := [some (.ref a0), some (.int a1), none, some (.int a3), some (.int a4), some (.int 1), none, none, none]) (st' := []) rfl rfl ?_
    exact tfX10_groupSize_50 hK41 4096 h
def fX10_groupSize_41  : Nat → Nat → Int32 → Int32 → Int32 → Hp → Option (Int32 × Hp)
  | 0, _, _, _, _, _ => none
  | d + 1, a0, a1, a3, a4, H => bX10_groupSize_41 (fX10_groupSize_41  d) a0 a1 a3 a4 H
theorem tfX10_groupSize_41 {G : GG} {r : Int32} {H' : Hp}   : ∀ (d : Nat) {a0 : Nat} {a1 : Int32} {a3 : Int32} {a4 : Int32} {H : Hp}, fX10_groupSize_41  d a0 a1 a3 a4 H = some (r, H') → Sn G (T0 G (some (.int r)) H') mX10_groupSize 41 [some (.ref a0), some (.int a1), none, some (.int a3), some (.int a4), none, none, none, none] [] H := by
  intro d
  induction d with
  | zero => intro a0 a1 a3 a4 H h; cases h
  | succ d ih => intro a0 a1 a3 a4 H h; exact tbX10_groupSize_41 (fun a0 a1 a3 a4 H h => ih h) h
def bX10_groupSize_13 (K13 : Nat → Int32 → Int32 → Int32 → Hp → Option (Int32 × Hp)) (a0 : Nat) (a1 : Int32) (a2 : Int32) (a3 : Int32) (H : Hp) : Option (Int32 × Hp) :=
  if (a3 < 0 : Prop) then
    bd (gA H a0 9 20) fun x1 =>
    bd (sI H x1 0 0 a2) fun H2 =>
    fX10_groupSize_41  4096 a0 a1 1 0 H2
  else
    K13 a0 a1 ((5 * a2) + a3) (a3 + (-1)) H
set_option maxHeartbeats 4000000 in
set_option maxRecDepth 100000 in
theorem tbX10_groupSize_13 {G : GG} {r : Int32} {H' : Hp} {K13 : Nat → Int32 → Int32 → Int32 → Hp → Option (Int32 × Hp)} (hK13 : ∀ (a0 : Nat) (a1 : Int32) (a2 : Int32) (a3 : Int32) (H : Hp), K13 a0 a1 a2 a3 H = some (r, H') → Sn G (T0 G (some (.int r)) H') mX10_groupSize 13 [some (.ref a0), some (.int a1), some (.int a2), some (.int a3), none, none, none, none, none] [] H) {a0 : Nat} {a1 : Int32} {a2 : Int32} {a3 : Int32} {H : Hp} (h : bX10_groupSize_13 K13 a0 a1 a2 a3 H = some (r, H')) : Sn G (T0 G (some (.int r)) H') mX10_groupSize 13 [some (.ref a0), some (.int a1), some (.int a2), some (.int a3), none, none, none, none, none] [] H := by
  unfold bX10_groupSize_13 at h
  refine sn_blk _ kX10_groupSize_13_0 (pc' := 14) (L' := [some (.ref a0), some (.int a1), some (.int a2), some (.int a3), none, none, none, none, none]) (st' := [.int a3]) rfl rfl ?_
  refine sn_if_lt (tgt := 29) dX10_groupSize_14 (by decide) (fun c => ?_) (fun c => ?_)
  · rw [if_pos c] at h
    refine sn_blk _ kX10_groupSize_13_1 (pc' := 30) (L' := [some (.ref a0), some (.int a1), some (.int a2), some (.int a3), none, none, none, none, none]) (st' := [.ref a0]) rfl rfl ?_
    obtain ⟨x1, hx1, h⟩ := bd_inv h
    refine sn_gA dX10_groupSize_30 foX10_54 hx1 ?_
    refine sn_blk _ kX10_groupSize_13_2 (pc' := 35) (L' := [some (.ref a0), some (.int a1), some (.int a2), some (.int a3), none, none, none, none, none]) (st' := [.int a2, .int 0, .ref x1]) rfl rfl ?_
    obtain ⟨H2, hH2, h⟩ := bd_inv h
    refine sn_iast dX10_groupSize_35 hH2 ?_
    refine sn_blk _ kX10_groupSize_13_3 (pc' := 41) (L' := [some (.ref a0), some (.int a1), some (.int a2), some (.int 1), some (.int 0), none, none, none, none]) (st' := []) rfl rfl ?_
    refine sn_msk [true, true, false, true, true, true, true, true, true] (L2 := [some (.ref a0), some (.int a1), none, some (.int 1), some (.int 0), none, none, none, none]) rfl ?_
    exact tfX10_groupSize_41  4096 h
  · rw [if_neg c] at h
    refine sn_blk _ kX10_groupSize_13_4 (pc' := 13) (L' := [some (.ref a0), some (.int a1), some (.int ((5 * a2) + a3)), some (.int (a3 + (-1))), none, none, none, none, none]) (st' := []) rfl rfl ?_
    exact hK13 _ _ _ _ _ h
def fX10_groupSize_13  : Nat → Nat → Int32 → Int32 → Int32 → Hp → Option (Int32 × Hp)
  | 0, _, _, _, _, _ => none
  | d + 1, a0, a1, a2, a3, H => bX10_groupSize_13 (fX10_groupSize_13  d) a0 a1 a2 a3 H
theorem tfX10_groupSize_13 {G : GG} {r : Int32} {H' : Hp}   : ∀ (d : Nat) {a0 : Nat} {a1 : Int32} {a2 : Int32} {a3 : Int32} {H : Hp}, fX10_groupSize_13  d a0 a1 a2 a3 H = some (r, H') → Sn G (T0 G (some (.int r)) H') mX10_groupSize 13 [some (.ref a0), some (.int a1), some (.int a2), some (.int a3), none, none, none, none, none] [] H := by
  intro d
  induction d with
  | zero => intro a0 a1 a2 a3 H h; cases h
  | succ d ih => intro a0 a1 a2 a3 H h; exact tbX10_groupSize_13 (fun a0 a1 a2 a3 H h => ih h) h
def FX10_groupSize  (a0 : Nat) (H : Hp) : Option (Int32 × Hp) :=
  bd (gA H a0 9 2) fun x1 =>
  bd (aI H x1 0 0) fun x2 =>
  fX10_groupSize_13  4096 a0 x2 0 (x2 - 1) H
set_option maxHeartbeats 4000000 in
set_option maxRecDepth 100000 in
theorem tFX10_groupSize {G : GG} {r : Int32} {H' : Hp}   {a0 : Nat} {H : Hp} (h : FX10_groupSize  a0 H = some (r, H')) : Sn G (T0 G (some (.int r)) H') mX10_groupSize 0 [some (.ref a0), none, none, none, none, none, none, none, none] [] H := by
  unfold FX10_groupSize at h
  refine sn_blk _ kX10_groupSize_0_0 (pc' := 1) (L' := [some (.ref a0), none, none, none, none, none, none, none, none]) (st' := [.ref a0]) rfl rfl ?_
  obtain ⟨x1, hx1, h⟩ := bd_inv h
  refine sn_gA dX10_groupSize_1 foX10_13 hx1 ?_
  refine sn_blk _ kX10_groupSize_0_1 (pc' := 5) (L' := [some (.ref a0), none, none, none, none, none, none, none, none]) (st' := [.int 0, .ref x1]) rfl rfl ?_
  obtain ⟨x2, hx2, h⟩ := bd_inv h
  refine sn_iald dX10_groupSize_5 hx2 ?_
  refine sn_blk _ kX10_groupSize_0_2 (pc' := 13) (L' := [some (.ref a0), some (.int x2), some (.int 0), some (.int (x2 - 1)), none, none, none, none, none]) (st' := []) rfl rfl ?_
  exact tfX10_groupSize_13  4096 h
theorem sX10_groupSize {G : GG} {r : Int32} {H' : Hp} {a0 : Nat} {H : Hp} (h : FX10_groupSize a0 H = some (r, H')) : SM G mX10_groupSize [.ref a0] H (some (.int r)) H' := tFX10_groupSize h
/-! SquareFoldsModel.about(I)I -/
theorem kX10_about_0_0 : decB cX10_about 0 [(.iload_n 1, .null)] = true := by decide +kernel
theorem kX10_about_0_1 : decB cX10_about 60 [(.aload_n 0, .null)] = true := by decide +kernel
theorem kX10_about_0_2 : decB cX10_about 64 [(.iconst 0, .int 0)] = true := by decide +kernel
theorem kX10_about_0_3 : decB cX10_about 67 [(.aload_n 0, .null)] = true := by decide +kernel
theorem kX10_about_0_4 : decB cX10_about 75 [(.aload_n 0, .null)] = true := by decide +kernel
theorem kX10_about_0_5 : decB cX10_about 83 [(.aload_n 0, .null)] = true := by decide +kernel
theorem kX10_about_0_6 : decB cX10_about 91 [(.aload_n 0, .null)] = true := by decide +kernel
theorem kX10_about_0_7 : decB cX10_about 99 [(.aload_n 0, .null)] = true := by decide +kernel
theorem kX10_about_0_8 : decB cX10_about 107 [(.aload_n 0, .null)] = true := by decide +kernel
theorem kX10_about_0_9 : decB cX10_about 115 [(.aload_n 0, .null)] = true := by decide +kernel
theorem kX10_about_0_10 : decB cX10_about 120 [(.aload_n 0, .null)] = true := by decide +kernel
theorem kX10_about_0_11 : decB cX10_about 125 [(.aload_n 0, .null)] = true := by decide +kernel
theorem kX10_about_0_12 : decB cX10_about 130 [(.aload_n 0, .null)] = true := by decide +kernel
theorem kX10_about_0_13 : decB cX10_about 135 [(.bipush (-2), .int (-2))] = true := by decide +kernel
theorem dX10_about_1 : decode cX10_about 1 = .ok (.tableswitch 134 0 10 #[59, 66, 74, 82, 90, 98, 106, 114, 119, 124, 129], 59) := by decide +kernel
theorem dX10_about_61 : decode cX10_about 61 = .ok (.getfield 13, 3) := by decide +kernel
theorem dX10_about_65 : decode cX10_about 65 = .ok (.iaload, 1) := by decide +kernel
theorem dX10_about_66 : decode cX10_about 66 = .ok (.ireturn, 1) := by decide +kernel
theorem dX10_about_68 : decode cX10_about 68 = .ok (.getfield 13, 3) := by decide +kernel
theorem dX10_about_71 : decode cX10_about 71 = .ok (.invokestatic 150, 3) := by decide +kernel
theorem dX10_about_74 : decode cX10_about 74 = .ok (.ireturn, 1) := by decide +kernel
theorem dX10_about_76 : decode cX10_about 76 = .ok (.getfield 13, 3) := by decide +kernel
theorem dX10_about_79 : decode cX10_about 79 = .ok (.invokestatic 164, 3) := by decide +kernel
theorem dX10_about_82 : decode cX10_about 82 = .ok (.ireturn, 1) := by decide +kernel
theorem dX10_about_84 : decode cX10_about 84 = .ok (.getfield 13, 3) := by decide +kernel
theorem dX10_about_87 : decode cX10_about 87 = .ok (.invokestatic 167, 3) := by decide +kernel
theorem dX10_about_90 : decode cX10_about 90 = .ok (.ireturn, 1) := by decide +kernel
theorem dX10_about_92 : decode cX10_about 92 = .ok (.getfield 13, 3) := by decide +kernel
theorem dX10_about_95 : decode cX10_about 95 = .ok (.invokestatic 170, 3) := by decide +kernel
theorem dX10_about_98 : decode cX10_about 98 = .ok (.ireturn, 1) := by decide +kernel
theorem dX10_about_100 : decode cX10_about 100 = .ok (.getfield 13, 3) := by decide +kernel
theorem dX10_about_103 : decode cX10_about 103 = .ok (.invokestatic 173, 3) := by decide +kernel
theorem dX10_about_106 : decode cX10_about 106 = .ok (.ireturn, 1) := by decide +kernel
theorem dX10_about_108 : decode cX10_about 108 = .ok (.getfield 13, 3) := by decide +kernel
theorem dX10_about_111 : decode cX10_about 111 = .ok (.invokestatic 176, 3) := by decide +kernel
theorem dX10_about_114 : decode cX10_about 114 = .ok (.ireturn, 1) := by decide +kernel
theorem dX10_about_116 : decode cX10_about 116 = .ok (.invokevirtual 179, 3) := by decide +kernel
theorem dX10_about_119 : decode cX10_about 119 = .ok (.ireturn, 1) := by decide +kernel
theorem dX10_about_121 : decode cX10_about 121 = .ok (.getfield 147, 3) := by decide +kernel
theorem dX10_about_124 : decode cX10_about 124 = .ok (.ireturn, 1) := by decide +kernel
theorem dX10_about_126 : decode cX10_about 126 = .ok (.getfield 182, 3) := by decide +kernel
theorem dX10_about_129 : decode cX10_about 129 = .ok (.ireturn, 1) := by decide +kernel
theorem dX10_about_131 : decode cX10_about 131 = .ok (.getfield 133, 3) := by decide +kernel
theorem dX10_about_134 : decode cX10_about 134 = .ok (.ireturn, 1) := by decide +kernel
theorem dX10_about_137 : decode cX10_about 137 = .ok (.ireturn, 1) := by decide +kernel
def FX10_about  (a0 : Nat) (a1 : Int32) (H : Hp) : Option (Int32 × Hp) :=
  if a1 = (0 : Int32) then
    bd (gA H a0 9 2) fun x1 =>
    bd (aI H x1 0 0) fun x2 =>
    some (x2, H)
  else
    if a1 = (1 : Int32) then
      bd (gA H a0 9 2) fun x3 =>
      bd2 (FX10_pieces x3 H) fun x4 H5 =>
      some (x4, H5)
    else
      if a1 = (2 : Int32) then
        bd (gA H a0 9 2) fun x6 =>
        bd2 (FX10_allCorners x6 H) fun x7 H8 =>
        some (x7, H8)
      else
        if a1 = (3 : Int32) then
          bd (gA H a0 9 2) fun x9 =>
          bd2 (FX10_ordinary x9 H) fun x10 H11 =>
          some (x10, H11)
        else
          if a1 = (4 : Int32) then
            bd (gA H a0 9 2) fun x12 =>
            bd2 (FX10_greatest x12 H) fun x13 H14 =>
            some (x13, H14)
          else
            if a1 = (5 : Int32) then
              bd (gA H a0 9 2) fun x15 =>
              bd2 (FX10_rows x15 H) fun x16 H17 =>
              some (x16, H17)
            else
              if a1 = (6 : Int32) then
                bd (gA H a0 9 2) fun x18 =>
                bd2 (FX10_bands x18 H) fun x19 H20 =>
                some (x19, H20)
              else
                if a1 = (7 : Int32) then
                  gp (isO H a0 9 = true) (
                    bd2 (FX10_groupSize a0  H) fun x21 H22 =>
                    some (x21, H22)
                    )
                else
                  if a1 = (8 : Int32) then
                    bd (gI H a0 9 7) fun x23 =>
                    some (x23, H)
                  else
                    if a1 = (9 : Int32) then
                      bd (gI H a0 9 13) fun x24 =>
                      some (x24, H)
                    else
                      if a1 = (10 : Int32) then
                        bd (gI H a0 9 1) fun x25 =>
                        some (x25, H)
                      else
                        some ((-2), H)
set_option maxHeartbeats 4000000 in
set_option maxRecDepth 100000 in
theorem tFX10_about {G : GG} {r : Int32} {H' : Hp}   {a0 : Nat} {a1 : Int32} {H : Hp} (h : FX10_about  a0 a1 H = some (r, H')) : Sn G (T0 G (some (.int r)) H') mX10_about 0 [some (.ref a0), some (.int a1)] [] H := by
  unfold FX10_about at h
  refine sn_blk _ kX10_about_0_0 (pc' := 1) (L' := [some (.ref a0), some (.int a1)]) (st' := [.int a1]) rfl rfl ?_
  by_cases c1_0 : a1 = (0 : Int32)
  · rw [if_pos c1_0] at h
    refine sn_tblIn (off := 59) (tgt := 60) dX10_about_1 (by rw [c1_0]; decide) (by rw [c1_0]; decide) (by rw [c1_0]; decide +kernel) (by decide) ?_
    refine sn_blk _ kX10_about_0_1 (pc' := 61) (L' := [some (.ref a0), some (.int a1)]) (st' := [.ref a0]) rfl rfl ?_
    obtain ⟨x1, hx1, h⟩ := bd_inv h
    refine sn_gA dX10_about_61 foX10_13 hx1 ?_
    refine sn_blk _ kX10_about_0_2 (pc' := 65) (L' := [some (.ref a0), some (.int a1)]) (st' := [.int 0, .ref x1]) rfl rfl ?_
    obtain ⟨x2, hx2, h⟩ := bd_inv h
    refine sn_iald dX10_about_65 hx2 ?_
    cases h
    exact sn_iret (ty := .int) dX10_about_66 rfl rfl
  · rw [if_neg c1_0] at h
    by_cases c1_1 : a1 = (1 : Int32)
    · rw [if_pos c1_1] at h
      refine sn_tblIn (off := 66) (tgt := 67) dX10_about_1 (by rw [c1_1]; decide) (by rw [c1_1]; decide) (by rw [c1_1]; decide +kernel) (by decide) ?_
      refine sn_blk _ kX10_about_0_3 (pc' := 68) (L' := [some (.ref a0), some (.int a1)]) (st' := [.ref a0]) rfl rfl ?_
      obtain ⟨x3, hx3, h⟩ := bd_inv h
      refine sn_gA dX10_about_68 foX10_13 hx3 ?_
      obtain ⟨x4, H5, hx4, h⟩ := bd2_inv h
      refine sn_calls (av := [.ref x3]) (st := []) (M2 := mX10_pieces) dX10_about_71 msX10_pieces mlX10_150 rfl rfl rfl rfl rfl (sX10_pieces hx4) ?_
      cases h
      exact sn_iret (ty := .int) dX10_about_74 rfl rfl
    · rw [if_neg c1_1] at h
      by_cases c1_2 : a1 = (2 : Int32)
      · rw [if_pos c1_2] at h
        refine sn_tblIn (off := 74) (tgt := 75) dX10_about_1 (by rw [c1_2]; decide) (by rw [c1_2]; decide) (by rw [c1_2]; decide +kernel) (by decide) ?_
        refine sn_blk _ kX10_about_0_4 (pc' := 76) (L' := [some (.ref a0), some (.int a1)]) (st' := [.ref a0]) rfl rfl ?_
        obtain ⟨x6, hx6, h⟩ := bd_inv h
        refine sn_gA dX10_about_76 foX10_13 hx6 ?_
        obtain ⟨x7, H8, hx7, h⟩ := bd2_inv h
        refine sn_calls (av := [.ref x6]) (st := []) (M2 := mX10_allCorners) dX10_about_79 msX10_allCorners mlX10_164 rfl rfl rfl rfl rfl (sX10_allCorners hx7) ?_
        cases h
        exact sn_iret (ty := .int) dX10_about_82 rfl rfl
      · rw [if_neg c1_2] at h
        by_cases c1_3 : a1 = (3 : Int32)
        · rw [if_pos c1_3] at h
          refine sn_tblIn (off := 82) (tgt := 83) dX10_about_1 (by rw [c1_3]; decide) (by rw [c1_3]; decide) (by rw [c1_3]; decide +kernel) (by decide) ?_
          refine sn_blk _ kX10_about_0_5 (pc' := 84) (L' := [some (.ref a0), some (.int a1)]) (st' := [.ref a0]) rfl rfl ?_
          obtain ⟨x9, hx9, h⟩ := bd_inv h
          refine sn_gA dX10_about_84 foX10_13 hx9 ?_
          obtain ⟨x10, H11, hx10, h⟩ := bd2_inv h
          refine sn_calls (av := [.ref x9]) (st := []) (M2 := mX10_ordinary) dX10_about_87 msX10_ordinary mlX10_167 rfl rfl rfl rfl rfl (sX10_ordinary hx10) ?_
          cases h
          exact sn_iret (ty := .int) dX10_about_90 rfl rfl
        · rw [if_neg c1_3] at h
          by_cases c1_4 : a1 = (4 : Int32)
          · rw [if_pos c1_4] at h
            refine sn_tblIn (off := 90) (tgt := 91) dX10_about_1 (by rw [c1_4]; decide) (by rw [c1_4]; decide) (by rw [c1_4]; decide +kernel) (by decide) ?_
            refine sn_blk _ kX10_about_0_6 (pc' := 92) (L' := [some (.ref a0), some (.int a1)]) (st' := [.ref a0]) rfl rfl ?_
            obtain ⟨x12, hx12, h⟩ := bd_inv h
            refine sn_gA dX10_about_92 foX10_13 hx12 ?_
            obtain ⟨x13, H14, hx13, h⟩ := bd2_inv h
            refine sn_calls (av := [.ref x12]) (st := []) (M2 := mX10_greatest) dX10_about_95 msX10_greatest mlX10_170 rfl rfl rfl rfl rfl (sX10_greatest hx13) ?_
            cases h
            exact sn_iret (ty := .int) dX10_about_98 rfl rfl
          · rw [if_neg c1_4] at h
            by_cases c1_5 : a1 = (5 : Int32)
            · rw [if_pos c1_5] at h
              refine sn_tblIn (off := 98) (tgt := 99) dX10_about_1 (by rw [c1_5]; decide) (by rw [c1_5]; decide) (by rw [c1_5]; decide +kernel) (by decide) ?_
              refine sn_blk _ kX10_about_0_7 (pc' := 100) (L' := [some (.ref a0), some (.int a1)]) (st' := [.ref a0]) rfl rfl ?_
              obtain ⟨x15, hx15, h⟩ := bd_inv h
              refine sn_gA dX10_about_100 foX10_13 hx15 ?_
              obtain ⟨x16, H17, hx16, h⟩ := bd2_inv h
              refine sn_calls (av := [.ref x15]) (st := []) (M2 := mX10_rows) dX10_about_103 msX10_rows mlX10_173 rfl rfl rfl rfl rfl (sX10_rows hx16) ?_
              cases h
              exact sn_iret (ty := .int) dX10_about_106 rfl rfl
            · rw [if_neg c1_5] at h
              by_cases c1_6 : a1 = (6 : Int32)
              · rw [if_pos c1_6] at h
                refine sn_tblIn (off := 106) (tgt := 107) dX10_about_1 (by rw [c1_6]; decide) (by rw [c1_6]; decide) (by rw [c1_6]; decide +kernel) (by decide) ?_
                refine sn_blk _ kX10_about_0_8 (pc' := 108) (L' := [some (.ref a0), some (.int a1)]) (st' := [.ref a0]) rfl rfl ?_
                obtain ⟨x18, hx18, h⟩ := bd_inv h
                refine sn_gA dX10_about_108 foX10_13 hx18 ?_
                obtain ⟨x19, H20, hx19, h⟩ := bd2_inv h
                refine sn_calls (av := [.ref x18]) (st := []) (M2 := mX10_bands) dX10_about_111 msX10_bands mlX10_176 rfl rfl rfl rfl rfl (sX10_bands hx19) ?_
                cases h
                exact sn_iret (ty := .int) dX10_about_114 rfl rfl
              · rw [if_neg c1_6] at h
                by_cases c1_7 : a1 = (7 : Int32)
                · rw [if_pos c1_7] at h
                  refine sn_tblIn (off := 114) (tgt := 115) dX10_about_1 (by rw [c1_7]; decide) (by rw [c1_7]; decide) (by rw [c1_7]; decide +kernel) (by decide) ?_
                  refine sn_blk _ kX10_about_0_9 (pc' := 116) (L' := [some (.ref a0), some (.int a1)]) (st' := [.ref a0]) rfl rfl ?_
                  obtain ⟨ho, h⟩ := gp_inv h
                  obtain ⟨fs, ho⟩ := isO_inv ho
                  obtain ⟨x21, H22, hx21, h⟩ := bd2_inv h
                  refine sn_callv (av := []) (st := []) (M2 := mX10_groupSize) dX10_about_116 msX10_groupSize mlX10_179 rfl rfl rfl rfl rfl ho (sX10_groupSize hx21) ?_
                  cases h
                  exact sn_iret (ty := .int) dX10_about_119 rfl rfl
                · rw [if_neg c1_7] at h
                  by_cases c1_8 : a1 = (8 : Int32)
                  · rw [if_pos c1_8] at h
                    refine sn_tblIn (off := 119) (tgt := 120) dX10_about_1 (by rw [c1_8]; decide) (by rw [c1_8]; decide) (by rw [c1_8]; decide +kernel) (by decide) ?_
                    refine sn_blk _ kX10_about_0_10 (pc' := 121) (L' := [some (.ref a0), some (.int a1)]) (st' := [.ref a0]) rfl rfl ?_
                    obtain ⟨x23, hx23, h⟩ := bd_inv h
                    refine sn_gI dX10_about_121 foX10_147 hx23 ?_
                    cases h
                    exact sn_iret (ty := .int) dX10_about_124 rfl rfl
                  · rw [if_neg c1_8] at h
                    by_cases c1_9 : a1 = (9 : Int32)
                    · rw [if_pos c1_9] at h
                      refine sn_tblIn (off := 124) (tgt := 125) dX10_about_1 (by rw [c1_9]; decide) (by rw [c1_9]; decide) (by rw [c1_9]; decide +kernel) (by decide) ?_
                      refine sn_blk _ kX10_about_0_11 (pc' := 126) (L' := [some (.ref a0), some (.int a1)]) (st' := [.ref a0]) rfl rfl ?_
                      obtain ⟨x24, hx24, h⟩ := bd_inv h
                      refine sn_gI dX10_about_126 foX10_182 hx24 ?_
                      cases h
                      exact sn_iret (ty := .int) dX10_about_129 rfl rfl
                    · rw [if_neg c1_9] at h
                      by_cases c1_10 : a1 = (10 : Int32)
                      · rw [if_pos c1_10] at h
                        refine sn_tblIn (off := 129) (tgt := 130) dX10_about_1 (by rw [c1_10]; decide) (by rw [c1_10]; decide) (by rw [c1_10]; decide +kernel) (by decide) ?_
                        refine sn_blk _ kX10_about_0_12 (pc' := 131) (L' := [some (.ref a0), some (.int a1)]) (st' := [.ref a0]) rfl rfl ?_
                        obtain ⟨x25, hx25, h⟩ := bd_inv h
                        refine sn_gI dX10_about_131 foX10_133 hx25 ?_
                        cases h
                        exact sn_iret (ty := .int) dX10_about_134 rfl rfl
                      · rw [if_neg c1_10] at h
                        refine sn_tblOut (tgt := 135) dX10_about_1 (sw_out (fun k h1 h2 e => ?_)) (by decide) ?_
                        · rcases (show k = 0 ∨ k = 1 ∨ k = 2 ∨ k = 3 ∨ k = 4 ∨ k = 5 ∨ k = 6 ∨ k = 7 ∨ k = 8 ∨ k = 9 ∨ k = 10 by omega) with rfl | rfl | rfl | rfl | rfl | rfl | rfl | rfl | rfl | rfl | rfl
                          · exact c1_0 (Int32.toInt_inj.mp e)
                          · exact c1_1 (Int32.toInt_inj.mp e)
                          · exact c1_2 (Int32.toInt_inj.mp e)
                          · exact c1_3 (Int32.toInt_inj.mp e)
                          · exact c1_4 (Int32.toInt_inj.mp e)
                          · exact c1_5 (Int32.toInt_inj.mp e)
                          · exact c1_6 (Int32.toInt_inj.mp e)
                          · exact c1_7 (Int32.toInt_inj.mp e)
                          · exact c1_8 (Int32.toInt_inj.mp e)
                          · exact c1_9 (Int32.toInt_inj.mp e)
                          · exact c1_10 (Int32.toInt_inj.mp e)
                        · refine sn_blk _ kX10_about_0_13 (pc' := 137) (L' := [some (.ref a0), some (.int a1)]) (st' := [.int (-2)]) rfl rfl ?_
                          cases h
                          exact sn_iret (ty := .int) dX10_about_137 rfl rfl
theorem sX10_about {G : GG} {r : Int32} {H' : Hp} {a0 : Nat} {a1 : Int32} {H : Hp} (h : FX10_about a0 a1 H = some (r, H')) : SM G mX10_about [.ref a0, .int a1] H (some (.int r)) H' := tFX10_about h
/-! SquareFoldsModel.isSquare(I)Z -/
theorem kX10_isSquare_0_0 : decB cX10_isSquare 0 [(.iload_n 1, .null), (.i2l, .null), (.lconst 0, .long 0), (.aload_n 0, .null)] = true := by decide +kernel
theorem kX10_isSquare_0_1 : decB cX10_isSquare 7 [(.iconst 0, .int 0)] = true := by decide +kernel
theorem kX10_isSquare_0_2 : decB cX10_isSquare 9 [(.iconst 1, .int 1), (.isub, .null), (.i2l, .null)] = true := by decide +kernel
theorem dX10_isSquare_4 : decode cX10_isSquare 4 = .ok (.getfield 13, 3) := by decide +kernel
theorem dX10_isSquare_8 : decode cX10_isSquare 8 = .ok (.iaload, 1) := by decide +kernel
theorem dX10_isSquare_12 : decode cX10_isSquare 12 = .ok (.invokestatic 127, 3) := by decide +kernel
theorem dX10_isSquare_15 : decode cX10_isSquare 15 = .ok (.ireturn, 1) := by decide +kernel
def FX10_isSquare  (a0 : Nat) (a1 : Int32) (H : Hp) : Option (Int32 × Hp) :=
  bd (gA H a0 9 2) fun x1 =>
  bd (aI H x1 0 0) fun x2 =>
  bd2 (FX10_in (Int32.toInt64 a1) 0 (Int32.toInt64 (x2 - 1)) H) fun x3 H4 =>
  gp (x3 = 0 ∨ x3 = 1) (some (x3, H4))
set_option maxHeartbeats 4000000 in
set_option maxRecDepth 100000 in
theorem tFX10_isSquare {G : GG} {r : Int32} {H' : Hp}   {a0 : Nat} {a1 : Int32} {H : Hp} (h : FX10_isSquare  a0 a1 H = some (r, H')) : Sn G (T0 G (some (.int r)) H') mX10_isSquare 0 [some (.ref a0), some (.int a1)] [] H := by
  unfold FX10_isSquare at h
  refine sn_blk _ kX10_isSquare_0_0 (pc' := 4) (L' := [some (.ref a0), some (.int a1)]) (st' := [.ref a0, .long 0, .long (Int32.toInt64 a1)]) rfl rfl ?_
  obtain ⟨x1, hx1, h⟩ := bd_inv h
  refine sn_gA dX10_isSquare_4 foX10_13 hx1 ?_
  refine sn_blk _ kX10_isSquare_0_1 (pc' := 8) (L' := [some (.ref a0), some (.int a1)]) (st' := [.int 0, .ref x1, .long 0, .long (Int32.toInt64 a1)]) rfl rfl ?_
  obtain ⟨x2, hx2, h⟩ := bd_inv h
  refine sn_iald dX10_isSquare_8 hx2 ?_
  refine sn_blk _ kX10_isSquare_0_2 (pc' := 12) (L' := [some (.ref a0), some (.int a1)]) (st' := [.long (Int32.toInt64 (x2 - 1)), .long 0, .long (Int32.toInt64 a1)]) rfl rfl ?_
  obtain ⟨x3, H4, hx3, h⟩ := bd2_inv h
  refine sn_calls (av := [.long (Int32.toInt64 a1), .long 0, .long (Int32.toInt64 (x2 - 1))]) (st := []) (M2 := mX10_in) dX10_isSquare_12 msX10_in mlX10_127 rfl rfl rfl rfl rfl (sX10_in hx3) ?_
  obtain ⟨hb, h⟩ := gp_inv h
  cases h
  exact sn_iret (ty := .boolean) dX10_isSquare_15 rfl (nar_bool hb)
theorem sX10_isSquare {G : GG} {r : Int32} {H' : Hp} {a0 : Nat} {a1 : Int32} {H : Hp} (h : FX10_isSquare a0 a1 H = some (r, H')) : SM G mX10_isSquare [.ref a0, .int a1] H (some (.int r)) H' := tFX10_isSquare h
/-! SquareFoldsModel.go(II)I -/
theorem kX10_go_0_0 : decB cX10_go 0 [(.aload_n 0, .null), (.iload_n 1, .null)] = true := by decide +kernel
theorem kX10_go_0_1 : decB cX10_go 10 [(.iload_n 2, .null), (.i2l, .null), (.lconst 1, .long 1)] = true := by decide +kernel
theorem kX10_go_0_2 : decB cX10_go 34 [(.bipush (-2), .int (-2))] = true := by decide +kernel
theorem kX10_go_0_3 : decB cX10_go 22 [(.aload_n 0, .null)] = true := by decide +kernel
theorem kX10_go_0_4 : decB cX10_go 26 [(.iload_n 1, .null), (.iload_n 2, .null)] = true := by decide +kernel
theorem kX10_go_0_5 : decB cX10_go 31 [(.goto 5, .retAddr 36)] = true := by decide +kernel
theorem kX10_go_0_6 : decB cX10_go 8 [(.iconst (-1), .int (-1))] = true := by decide +kernel
theorem dX10_go_2 : decode cX10_go 2 = .ok (.invokevirtual 185, 3) := by decide +kernel
theorem dX10_go_5 : decode cX10_go 5 = .ok (.ifCond .ne 5, 3) := by decide +kernel
theorem dX10_go_9 : decode cX10_go 9 = .ok (.ireturn, 1) := by decide +kernel
theorem dX10_go_13 : decode cX10_go 13 = .ok (.ldc2_w 188, 3) := by decide +kernel
theorem dX10_go_16 : decode cX10_go 16 = .ok (.invokestatic 127, 3) := by decide +kernel
theorem dX10_go_19 : decode cX10_go 19 = .ok (.ifCond .eq 15, 3) := by decide +kernel
theorem dX10_go_23 : decode cX10_go 23 = .ok (.getfield 13, 3) := by decide +kernel
theorem dX10_go_28 : decode cX10_go 28 = .ok (.invokestatic 157, 3) := by decide +kernel
theorem dX10_go_36 : decode cX10_go 36 = .ok (.ireturn, 1) := by decide +kernel
def FX10_go  (a0 : Nat) (a1 : Int32) (a2 : Int32) (H : Hp) : Option (Int32 × Hp) :=
  gp (isO H a0 9 = true) (
    bd2 (FX10_isSquare a0 a1 H) fun x1 H2 =>
    if (x1 = 0 : Prop) then
      some ((-1), H2)
    else
      bd2 (FX10_in (Int32.toInt64 a2) 1 4 H2) fun x3 H4 =>
      if (x3 = 0 : Prop) then
        some ((-2), H4)
      else
        bd (gA H4 a0 9 2) fun x5 =>
        bd2 (FX10_moved x5 a1 a2 H4) fun x6 H7 =>
        some (x6, H7)
    )
set_option maxHeartbeats 4000000 in
set_option maxRecDepth 100000 in
theorem tFX10_go {G : GG} {r : Int32} {H' : Hp}   {a0 : Nat} {a1 : Int32} {a2 : Int32} {H : Hp} (h : FX10_go  a0 a1 a2 H = some (r, H')) : Sn G (T0 G (some (.int r)) H') mX10_go 0 [some (.ref a0), some (.int a1), some (.int a2)] [] H := by
  unfold FX10_go at h
  refine sn_blk _ kX10_go_0_0 (pc' := 2) (L' := [some (.ref a0), some (.int a1), some (.int a2)]) (st' := [.int a1, .ref a0]) rfl rfl ?_
  obtain ⟨ho, h⟩ := gp_inv h
  obtain ⟨fs, ho⟩ := isO_inv ho
  obtain ⟨x1, H2, hx1, h⟩ := bd2_inv h
  refine sn_callv (av := [.int a1]) (st := []) (M2 := mX10_isSquare) dX10_go_2 msX10_isSquare mlX10_185 rfl rfl rfl rfl rfl ho (sX10_isSquare hx1) ?_
  refine sn_if_ne (tgt := 10) dX10_go_5 (by decide) (fun c => ?_) (fun c => ?_)
  · rw [if_neg c] at h
    refine sn_blk _ kX10_go_0_1 (pc' := 13) (L' := [some (.ref a0), some (.int a1), some (.int a2)]) (st' := [.long 1, .long (Int32.toInt64 a2)]) rfl rfl ?_
    refine sn_ldc2 dX10_go_13 kcX10_188 ?_
    obtain ⟨x3, H4, hx3, h⟩ := bd2_inv h
    refine sn_calls (av := [.long (Int32.toInt64 a2), .long 1, .long 4]) (st := []) (M2 := mX10_in) dX10_go_16 msX10_in mlX10_127 rfl rfl rfl rfl rfl (sX10_in hx3) ?_
    refine sn_if_eq (tgt := 34) dX10_go_19 (by decide) (fun c => ?_) (fun c => ?_)
    · rw [if_pos c] at h
      refine sn_blk _ kX10_go_0_2 (pc' := 36) (L' := [some (.ref a0), some (.int a1), some (.int a2)]) (st' := [.int (-2)]) rfl rfl ?_
      cases h
      exact sn_iret (ty := .int) dX10_go_36 rfl rfl
    · rw [if_neg c] at h
      refine sn_blk _ kX10_go_0_3 (pc' := 23) (L' := [some (.ref a0), some (.int a1), some (.int a2)]) (st' := [.ref a0]) rfl rfl ?_
      obtain ⟨x5, hx5, h⟩ := bd_inv h
      refine sn_gA dX10_go_23 foX10_13 hx5 ?_
      refine sn_blk _ kX10_go_0_4 (pc' := 28) (L' := [some (.ref a0), some (.int a1), some (.int a2)]) (st' := [.int a2, .int a1, .ref x5]) rfl rfl ?_
      obtain ⟨x6, H7, hx6, h⟩ := bd2_inv h
      refine sn_calls (av := [.ref x5, .int a1, .int a2]) (st := []) (M2 := mX10_moved) dX10_go_28 msX10_moved mlX10_157 rfl rfl rfl rfl rfl (sX10_moved hx6) ?_
      refine sn_blk _ kX10_go_0_5 (pc' := 36) (L' := [some (.ref a0), some (.int a1), some (.int a2)]) (st' := [.int x6]) rfl rfl ?_
      cases h
      exact sn_iret (ty := .int) dX10_go_36 rfl rfl
  · rw [if_pos c] at h
    refine sn_blk _ kX10_go_0_6 (pc' := 9) (L' := [some (.ref a0), some (.int a1), some (.int a2)]) (st' := [.int (-1)]) rfl rfl ?_
    cases h
    exact sn_iret (ty := .int) dX10_go_9 rfl rfl
theorem sX10_go {G : GG} {r : Int32} {H' : Hp} {a0 : Nat} {a1 : Int32} {a2 : Int32} {H : Hp} (h : FX10_go a0 a1 a2 H = some (r, H')) : SM G mX10_go [.ref a0, .int a1, .int a2] H (some (.int r)) H' := tFX10_go h
/-! SquareFoldsModel.isWay(I)Z -/
theorem kX10_isWay_0_0 : decB cX10_isWay 0 [(.iload_n 0, .null), (.i2l, .null), (.lconst 1, .long 1)] = true := by decide +kernel
theorem kX10_isWay_0_1 : decB cX10_isWay 14 [(.iconst 1, .int 1), (.istore_n 1, .null), (.iload_n 0, .null), (.istore_n 2, .null)] = true := by decide +kernel
theorem kX10_isWay_0_2 : decB cX10_isWay 12 [(.iconst 0, .int 0)] = true := by decide +kernel
theorem kX10_isWay_18_0 : decB cX10_isWay 18 [(.iload_n 2, .null)] = true := by decide +kernel
theorem kX10_isWay_18_1 : decB cX10_isWay 55 [(.iload_n 1, .null)] = true := by decide +kernel
theorem kX10_isWay_18_2 : decB cX10_isWay 22 [(.iload_n 1, .null)] = true := by decide +kernel
theorem kX10_isWay_18_3 : decB cX10_isWay 26 [(.iload_n 2, .null), (.bipush 10, .int 10)] = true := by decide +kernel
theorem kX10_isWay_18_4 : decB cX10_isWay 30 [(.i2l, .null), (.lconst 1, .long 1)] = true := by decide +kernel
theorem kX10_isWay_18_5 : decB cX10_isWay 41 [(.iconst 1, .int 1), (.goto 4, .retAddr 46)] = true := by decide +kernel
theorem kX10_isWay_45_0 : decB cX10_isWay 45 [(.iconst 0, .int 0)] = true := by decide +kernel
theorem kX10_isWay_46_0 : decB cX10_isWay 46 [(.istore_n 1, .null), (.iload_n 2, .null), (.bipush 10, .int 10)] = true := by decide +kernel
theorem kX10_isWay_46_1 : decB cX10_isWay 51 [(.istore_n 2, .null), (.goto (-34), .retAddr 18)] = true := by decide +kernel
theorem dX10_isWay_3 : decode cX10_isWay 3 = .ok (.ldc2_w 190, 3) := by decide +kernel
theorem dX10_isWay_6 : decode cX10_isWay 6 = .ok (.invokestatic 127, 3) := by decide +kernel
theorem dX10_isWay_9 : decode cX10_isWay 9 = .ok (.ifCond .ne 5, 3) := by decide +kernel
theorem dX10_isWay_13 : decode cX10_isWay 13 = .ok (.ireturn, 1) := by decide +kernel
theorem dX10_isWay_19 : decode cX10_isWay 19 = .ok (.ifCond .le 36, 3) := by decide +kernel
theorem dX10_isWay_23 : decode cX10_isWay 23 = .ok (.ifCond .eq 22, 3) := by decide +kernel
theorem dX10_isWay_29 : decode cX10_isWay 29 = .ok (.irem, 1) := by decide +kernel
theorem dX10_isWay_32 : decode cX10_isWay 32 = .ok (.ldc2_w 188, 3) := by decide +kernel
theorem dX10_isWay_35 : decode cX10_isWay 35 = .ok (.invokestatic 127, 3) := by decide +kernel
theorem dX10_isWay_38 : decode cX10_isWay 38 = .ok (.ifCond .eq 7, 3) := by decide +kernel
theorem dX10_isWay_50 : decode cX10_isWay 50 = .ok (.idiv, 1) := by decide +kernel
theorem dX10_isWay_56 : decode cX10_isWay 56 = .ok (.ireturn, 1) := by decide +kernel
def fX10_isWay_46 (K18 : Int32 → Int32 → Hp → Option (Int32 × Hp)) (a2 : Int32) (s0 : Int32) (H : Hp) : Option (Int32 × Hp) :=
  K18 s0 (a2 / 10) H
set_option maxHeartbeats 4000000 in
set_option maxRecDepth 100000 in
theorem tfX10_isWay_46 {G : GG} {r : Int32} {H' : Hp} {K18 : Int32 → Int32 → Hp → Option (Int32 × Hp)} (hK18 : ∀ (a1 : Int32) (a2 : Int32) (H : Hp), K18 a1 a2 H = some (r, H') → Sn G (T0 G (some (.int r)) H') mX10_isWay 18 [none, some (.int a1), some (.int a2)] [] H) {a2 : Int32} {s0 : Int32} {H : Hp} (h : fX10_isWay_46 K18 a2 s0 H = some (r, H')) : Sn G (T0 G (some (.int r)) H') mX10_isWay 46 [none, none, some (.int a2)] [.int s0] H := by
  unfold fX10_isWay_46 at h
  refine sn_blk _ kX10_isWay_46_0 (pc' := 50) (L' := [none, some (.int s0), some (.int a2)]) (st' := [.int 10, .int a2]) rfl rfl ?_
  refine sn_idiv dX10_isWay_50 (by decide) ?_
  refine sn_blk _ kX10_isWay_46_1 (pc' := 18) (L' := [none, some (.int s0), some (.int (a2 / 10))]) (st' := []) rfl rfl ?_
  exact hK18 _ _ _ h
def fX10_isWay_45 (K18 : Int32 → Int32 → Hp → Option (Int32 × Hp)) (a2 : Int32) (H : Hp) : Option (Int32 × Hp) :=
  fX10_isWay_46 K18 a2 0 H
set_option maxHeartbeats 4000000 in
set_option maxRecDepth 100000 in
theorem tfX10_isWay_45 {G : GG} {r : Int32} {H' : Hp} {K18 : Int32 → Int32 → Hp → Option (Int32 × Hp)} (hK18 : ∀ (a1 : Int32) (a2 : Int32) (H : Hp), K18 a1 a2 H = some (r, H') → Sn G (T0 G (some (.int r)) H') mX10_isWay 18 [none, some (.int a1), some (.int a2)] [] H) {a2 : Int32} {H : Hp} (h : fX10_isWay_45 K18 a2 H = some (r, H')) : Sn G (T0 G (some (.int r)) H') mX10_isWay 45 [none, none, some (.int a2)] [] H := by
  unfold fX10_isWay_45 at h
  refine sn_blk _ kX10_isWay_45_0 (pc' := 46) (L' := [none, none, some (.int a2)]) (st' := [.int 0]) rfl rfl ?_
  exact tfX10_isWay_46 hK18 h
def bX10_isWay_18 (K18 : Int32 → Int32 → Hp → Option (Int32 × Hp)) (a1 : Int32) (a2 : Int32) (H : Hp) : Option (Int32 × Hp) :=
  if (a2 ≤ 0 : Prop) then
    gp (a1 = 0 ∨ a1 = 1) (some (a1, H))
  else
    if (a1 = 0 : Prop) then
      fX10_isWay_45 K18 a2 H
    else
      bd2 (FX10_in (Int32.toInt64 (rI a2 10)) 1 4 H) fun x1 H2 =>
      if (x1 = 0 : Prop) then
        fX10_isWay_45 K18 a2 H2
      else
        fX10_isWay_46 K18 a2 1 H2
set_option maxHeartbeats 4000000 in
set_option maxRecDepth 100000 in
theorem tbX10_isWay_18 {G : GG} {r : Int32} {H' : Hp} {K18 : Int32 → Int32 → Hp → Option (Int32 × Hp)} (hK18 : ∀ (a1 : Int32) (a2 : Int32) (H : Hp), K18 a1 a2 H = some (r, H') → Sn G (T0 G (some (.int r)) H') mX10_isWay 18 [none, some (.int a1), some (.int a2)] [] H) {a1 : Int32} {a2 : Int32} {H : Hp} (h : bX10_isWay_18 K18 a1 a2 H = some (r, H')) : Sn G (T0 G (some (.int r)) H') mX10_isWay 18 [none, some (.int a1), some (.int a2)] [] H := by
  unfold bX10_isWay_18 at h
  refine sn_blk _ kX10_isWay_18_0 (pc' := 19) (L' := [none, some (.int a1), some (.int a2)]) (st' := [.int a2]) rfl rfl ?_
  refine sn_if_le (tgt := 55) dX10_isWay_19 (by decide) (fun c => ?_) (fun c => ?_)
  · rw [if_pos c] at h
    refine sn_blk _ kX10_isWay_18_1 (pc' := 56) (L' := [none, some (.int a1), some (.int a2)]) (st' := [.int a1]) rfl rfl ?_
    obtain ⟨hb, h⟩ := gp_inv h
    cases h
    exact sn_iret (ty := .boolean) dX10_isWay_56 rfl (nar_bool hb)
  · rw [if_neg c] at h
    refine sn_blk _ kX10_isWay_18_2 (pc' := 23) (L' := [none, some (.int a1), some (.int a2)]) (st' := [.int a1]) rfl rfl ?_
    refine sn_if_eq (tgt := 45) dX10_isWay_23 (by decide) (fun c => ?_) (fun c => ?_)
    · rw [if_pos c] at h
      refine sn_msk [true, false, true] (L2 := [none, none, some (.int a2)]) rfl ?_
      exact tfX10_isWay_45 hK18 h
    · rw [if_neg c] at h
      refine sn_blk _ kX10_isWay_18_3 (pc' := 29) (L' := [none, some (.int a1), some (.int a2)]) (st' := [.int 10, .int a2]) rfl rfl ?_
      refine sn_irem dX10_isWay_29 (by decide) ?_
      refine sn_blk _ kX10_isWay_18_4 (pc' := 32) (L' := [none, some (.int a1), some (.int a2)]) (st' := [.long 1, .long (Int32.toInt64 (rI a2 10))]) rfl rfl ?_
      refine sn_ldc2 dX10_isWay_32 kcX10_188 ?_
      obtain ⟨x1, H2, hx1, h⟩ := bd2_inv h
      refine sn_calls (av := [.long (Int32.toInt64 (rI a2 10)), .long 1, .long 4]) (st := []) (M2 := mX10_in) dX10_isWay_35 msX10_in mlX10_127 rfl rfl rfl rfl rfl (sX10_in hx1) ?_
      refine sn_if_eq (tgt := 45) dX10_isWay_38 (by decide) (fun c => ?_) (fun c => ?_)
      · rw [if_pos c] at h
        refine sn_msk [true, false, true] (L2 := [none, none, some (.int a2)]) rfl ?_
        exact tfX10_isWay_45 hK18 h
      · rw [if_neg c] at h
        refine sn_blk _ kX10_isWay_18_5 (pc' := 46) (L' := [none, some (.int a1), some (.int a2)]) (st' := [.int 1]) rfl rfl ?_
        refine sn_msk [true, false, true] (L2 := [none, none, some (.int a2)]) rfl ?_
        exact tfX10_isWay_46 hK18 h
def fX10_isWay_18  : Nat → Int32 → Int32 → Hp → Option (Int32 × Hp)
  | 0, _, _, _ => none
  | d + 1, a1, a2, H => bX10_isWay_18 (fX10_isWay_18  d) a1 a2 H
theorem tfX10_isWay_18 {G : GG} {r : Int32} {H' : Hp}   : ∀ (d : Nat) {a1 : Int32} {a2 : Int32} {H : Hp}, fX10_isWay_18  d a1 a2 H = some (r, H') → Sn G (T0 G (some (.int r)) H') mX10_isWay 18 [none, some (.int a1), some (.int a2)] [] H := by
  intro d
  induction d with
  | zero => intro a1 a2 H h; cases h
  | succ d ih => intro a1 a2 H h; exact tbX10_isWay_18 (fun a1 a2 H h => ih h) h
def FX10_isWay  (a0 : Int32) (H : Hp) : Option (Int32 × Hp) :=
  bd2 (FX10_in (Int32.toInt64 a0) 1 4444 H) fun x1 H2 =>
  if (x1 = 0 : Prop) then
    some (0, H2)
  else
    fX10_isWay_18  4096 1 a0 H2
set_option maxHeartbeats 4000000 in
set_option maxRecDepth 100000 in
theorem tFX10_isWay {G : GG} {r : Int32} {H' : Hp}   {a0 : Int32} {H : Hp} (h : FX10_isWay  a0 H = some (r, H')) : Sn G (T0 G (some (.int r)) H') mX10_isWay 0 [some (.int a0), none, none] [] H := by
  unfold FX10_isWay at h
  refine sn_blk _ kX10_isWay_0_0 (pc' := 3) (L' := [some (.int a0), none, none]) (st' := [.long 1, .long (Int32.toInt64 a0)]) rfl rfl ?_
  refine sn_ldc2 dX10_isWay_3 kcX10_190 ?_
  obtain ⟨x1, H2, hx1, h⟩ := bd2_inv h
  refine sn_calls (av := [.long (Int32.toInt64 a0), .long 1, .long 4444]) (st := []) (M2 := mX10_in) dX10_isWay_6 msX10_in mlX10_127 rfl rfl rfl rfl rfl (sX10_in hx1) ?_
  refine sn_if_ne (tgt := 14) dX10_isWay_9 (by decide) (fun c => ?_) (fun c => ?_)
  · rw [if_neg c] at h
    refine sn_blk _ kX10_isWay_0_1 (pc' := 18) (L' := [some (.int a0), some (.int 1), some (.int a0)]) (st' := []) rfl rfl ?_
    refine sn_msk [false, true, true] (L2 := [none, some (.int 1), some (.int a0)]) rfl ?_
    exact tfX10_isWay_18  4096 h
  · rw [if_pos c] at h
    refine sn_blk _ kX10_isWay_0_2 (pc' := 13) (L' := [some (.int a0), none, none]) (st' := [.int 0]) rfl rfl ?_
    cases h
    exact sn_iret (ty := .boolean) dX10_isWay_13 rfl rfl
theorem sX10_isWay {G : GG} {r : Int32} {H' : Hp} {a0 : Int32} {H : Hp} (h : FX10_isWay a0 H = some (r, H')) : SM G mX10_isWay [.int a0] H (some (.int r)) H' := tFX10_isWay h
/-! SquareFoldsModel.end([III)I -/
theorem kX10_end_0_0 : decB cX10_end 0 [(.iload_n 1, .null), (.istore_n 3, .null), (.sipush 1000, .int 1000), (.istore 4, .null)] = true := by decide +kernel
theorem kX10_end_7_0 : decB cX10_end 7 [(.iload 4, .null)] = true := by decide +kernel
theorem kX10_end_7_1 : decB cX10_end 46 [(.iload_n 3, .null)] = true := by decide +kernel
theorem kX10_end_7_2 : decB cX10_end 12 [(.iload_n 2, .null), (.iload 4, .null)] = true := by decide +kernel
theorem kX10_end_7_3 : decB cX10_end 34 [(.iload_n 3, .null)] = true := by decide +kernel
theorem kX10_end_7_4 : decB cX10_end 19 [(.aload_n 0, .null), (.iload_n 3, .null), (.iload_n 2, .null), (.iload 4, .null)] = true := by decide +kernel
theorem kX10_end_7_5 : decB cX10_end 25 [(.bipush 10, .int 10)] = true := by decide +kernel
theorem kX10_end_7_6 : decB cX10_end 31 [(.goto 4, .retAddr 35)] = true := by decide +kernel
theorem kX10_end_35_0 : decB cX10_end 35 [(.istore_n 3, .null), (.iload 4, .null), (.bipush 10, .int 10)] = true := by decide +kernel
theorem kX10_end_35_1 : decB cX10_end 41 [(.istore 4, .null), (.goto (-36), .retAddr 7)] = true := by decide +kernel
theorem dX10_end_9 : decode cX10_end 9 = .ok (.ifCond .le 37, 3) := by decide +kernel
theorem dX10_end_15 : decode cX10_end 15 = .ok (.idiv, 1) := by decide +kernel
theorem dX10_end_16 : decode cX10_end 16 = .ok (.ifCond .le 18, 3) := by decide +kernel
theorem dX10_end_24 : decode cX10_end 24 = .ok (.idiv, 1) := by decide +kernel
theorem dX10_end_27 : decode cX10_end 27 = .ok (.irem, 1) := by decide +kernel
theorem dX10_end_28 : decode cX10_end 28 = .ok (.invokestatic 157, 3) := by decide +kernel
theorem dX10_end_40 : decode cX10_end 40 = .ok (.idiv, 1) := by decide +kernel
theorem dX10_end_47 : decode cX10_end 47 = .ok (.ireturn, 1) := by decide +kernel
def fX10_end_35 (K7 : Nat → Int32 → Int32 → Int32 → Hp → Option (Int32 × Hp)) (a0 : Nat) (a2 : Int32) (a4 : Int32) (s0 : Int32) (H : Hp) : Option (Int32 × Hp) :=
  K7 a0 a2 s0 (a4 / 10) H
set_option maxHeartbeats 4000000 in
set_option maxRecDepth 100000 in
theorem tfX10_end_35 {G : GG} {r : Int32} {H' : Hp} {K7 : Nat → Int32 → Int32 → Int32 → Hp → Option (Int32 × Hp)} (hK7 : ∀ (a0 : Nat) (a2 : Int32) (a3 : Int32) (a4 : Int32) (H : Hp), K7 a0 a2 a3 a4 H = some (r, H') → Sn G (T0 G (some (.int r)) H') mX10_end 7 [some (.ref a0), none, some (.int a2), some (.int a3), some (.int a4)] [] H) {a0 : Nat} {a2 : Int32} {a4 : Int32} {s0 : Int32} {H : Hp} (h : fX10_end_35 K7 a0 a2 a4 s0 H = some (r, H')) : Sn G (T0 G (some (.int r)) H') mX10_end 35 [some (.ref a0), none, some (.int a2), none, some (.int a4)] [.int s0] H := by
  unfold fX10_end_35 at h
  refine sn_blk _ kX10_end_35_0 (pc' := 40) (L' := [some (.ref a0), none, some (.int a2), some (.int s0), some (.int a4)]) (st' := [.int 10, .int a4]) rfl rfl ?_
  refine sn_idiv dX10_end_40 (by decide) ?_
  refine sn_blk _ kX10_end_35_1 (pc' := 7) (L' := [some (.ref a0), none, some (.int a2), some (.int s0), some (.int (a4 / 10))]) (st' := []) rfl rfl ?_
  exact hK7 _ _ _ _ _ h
def bX10_end_7 (K7 : Nat → Int32 → Int32 → Int32 → Hp → Option (Int32 × Hp)) (a0 : Nat) (a2 : Int32) (a3 : Int32) (a4 : Int32) (H : Hp) : Option (Int32 × Hp) :=
  if (a4 ≤ 0 : Prop) then
    some (a3, H)
  else
    gp (¬ a4 = 0) (
      if ((a2 / a4) ≤ 0 : Prop) then
        fX10_end_35 K7 a0 a2 a4 a3 H
      else
        gp (¬ a4 = 0) (
          bd2 (FX10_moved a0 a3 (rI (a2 / a4) 10) H) fun x1 H2 =>
          fX10_end_35 K7 a0 a2 a4 x1 H2
          )
      )
set_option maxHeartbeats 4000000 in
set_option maxRecDepth 100000 in
theorem tbX10_end_7 {G : GG} {r : Int32} {H' : Hp} {K7 : Nat → Int32 → Int32 → Int32 → Hp → Option (Int32 × Hp)} (hK7 : ∀ (a0 : Nat) (a2 : Int32) (a3 : Int32) (a4 : Int32) (H : Hp), K7 a0 a2 a3 a4 H = some (r, H') → Sn G (T0 G (some (.int r)) H') mX10_end 7 [some (.ref a0), none, some (.int a2), some (.int a3), some (.int a4)] [] H) {a0 : Nat} {a2 : Int32} {a3 : Int32} {a4 : Int32} {H : Hp} (h : bX10_end_7 K7 a0 a2 a3 a4 H = some (r, H')) : Sn G (T0 G (some (.int r)) H') mX10_end 7 [some (.ref a0), none, some (.int a2), some (.int a3), some (.int a4)] [] H := by
  unfold bX10_end_7 at h
  refine sn_blk _ kX10_end_7_0 (pc' := 9) (L' := [some (.ref a0), none, some (.int a2), some (.int a3), some (.int a4)]) (st' := [.int a4]) rfl rfl ?_
  refine sn_if_le (tgt := 46) dX10_end_9 (by decide) (fun c => ?_) (fun c => ?_)
  · rw [if_pos c] at h
    refine sn_blk _ kX10_end_7_1 (pc' := 47) (L' := [some (.ref a0), none, some (.int a2), some (.int a3), some (.int a4)]) (st' := [.int a3]) rfl rfl ?_
    cases h
    exact sn_iret (ty := .int) dX10_end_47 rfl rfl
  · rw [if_neg c] at h
    refine sn_blk _ kX10_end_7_2 (pc' := 15) (L' := [some (.ref a0), none, some (.int a2), some (.int a3), some (.int a4)]) (st' := [.int a4, .int a2]) rfl rfl ?_
    obtain ⟨hy, h⟩ := gp_inv h
    refine sn_idiv dX10_end_15 hy ?_
    refine sn_if_le (tgt := 34) dX10_end_16 (by decide) (fun c => ?_) (fun c => ?_)
    · rw [if_pos c] at h
      refine sn_blk _ kX10_end_7_3 (pc' := 35) (L' := [some (.ref a0), none, some (.int a2), some (.int a3), some (.int a4)]) (st' := [.int a3]) rfl rfl ?_
      refine sn_msk [true, true, true, false, true] (L2 := [some (.ref a0), none, some (.int a2), none, some (.int a4)]) rfl ?_
      exact tfX10_end_35 hK7 h
    · rw [if_neg c] at h
      refine sn_blk _ kX10_end_7_4 (pc' := 24) (L' := [some (.ref a0), none, some (.int a2), some (.int a3), some (.int a4)]) (st' := [.int a4, .int a2, .int a3, .ref a0]) rfl rfl ?_
      obtain ⟨hy, h⟩ := gp_inv h
      refine sn_idiv dX10_end_24 hy ?_
      refine sn_blk _ kX10_end_7_5 (pc' := 27) (L' := [some (.ref a0), none, some (.int a2), some (.int a3), some (.int a4)]) (st' := [.int 10, .int (a2 / a4), .int a3, .ref a0]) rfl rfl ?_
      refine sn_irem dX10_end_27 (by decide) ?_
      obtain ⟨x1, H2, hx1, h⟩ := bd2_inv h
      refine sn_calls (av := [.ref a0, .int a3, .int (rI (a2 / a4) 10)]) (st := []) (M2 := mX10_moved) dX10_end_28 msX10_moved mlX10_157 rfl rfl rfl rfl rfl (sX10_moved hx1) ?_
      refine sn_blk _ kX10_end_7_6 (pc' := 35) (L' := [some (.ref a0), none, some (.int a2), some (.int a3), some (.int a4)]) (st' := [.int x1]) rfl rfl ?_
      refine sn_msk [true, true, true, false, true] (L2 := [some (.ref a0), none, some (.int a2), none, some (.int a4)]) rfl ?_
      exact tfX10_end_35 hK7 h
def fX10_end_7  : Nat → Nat → Int32 → Int32 → Int32 → Hp → Option (Int32 × Hp)
  | 0, _, _, _, _, _ => none
  | d + 1, a0, a2, a3, a4, H => bX10_end_7 (fX10_end_7  d) a0 a2 a3 a4 H
theorem tfX10_end_7 {G : GG} {r : Int32} {H' : Hp}   : ∀ (d : Nat) {a0 : Nat} {a2 : Int32} {a3 : Int32} {a4 : Int32} {H : Hp}, fX10_end_7  d a0 a2 a3 a4 H = some (r, H') → Sn G (T0 G (some (.int r)) H') mX10_end 7 [some (.ref a0), none, some (.int a2), some (.int a3), some (.int a4)] [] H := by
  intro d
  induction d with
  | zero => intro a0 a2 a3 a4 H h; cases h
  | succ d ih => intro a0 a2 a3 a4 H h; exact tbX10_end_7 (fun a0 a2 a3 a4 H h => ih h) h
def FX10_end  (a0 : Nat) (a1 : Int32) (a2 : Int32) (H : Hp) : Option (Int32 × Hp) :=
  fX10_end_7  4096 a0 a2 a1 1000 H
set_option maxHeartbeats 4000000 in
set_option maxRecDepth 100000 in
theorem tFX10_end {G : GG} {r : Int32} {H' : Hp}   {a0 : Nat} {a1 : Int32} {a2 : Int32} {H : Hp} (h : FX10_end  a0 a1 a2 H = some (r, H')) : Sn G (T0 G (some (.int r)) H') mX10_end 0 [some (.ref a0), some (.int a1), some (.int a2), none, none] [] H := by
  unfold FX10_end at h
  refine sn_blk _ kX10_end_0_0 (pc' := 7) (L' := [some (.ref a0), some (.int a1), some (.int a2), some (.int a1), some (.int 1000)]) (st' := []) rfl rfl ?_
  refine sn_msk [true, false, true, true, true] (L2 := [some (.ref a0), none, some (.int a2), some (.int a1), some (.int 1000)]) rfl ?_
  exact tfX10_end_7  4096 h
theorem sX10_end {G : GG} {r : Int32} {H' : Hp} {a0 : Nat} {a1 : Int32} {a2 : Int32} {H : Hp} (h : FX10_end a0 a1 a2 H = some (r, H')) : SM G mX10_end [.ref a0, .int a1, .int a2] H (some (.int r)) H' := tFX10_end h
/-! SquareFoldsModel.walk(II)I -/
theorem kX10_walk_0_0 : decB cX10_walk 0 [(.aload_n 0, .null), (.iload_n 1, .null)] = true := by decide +kernel
theorem kX10_walk_0_1 : decB cX10_walk 10 [(.iload_n 2, .null)] = true := by decide +kernel
theorem kX10_walk_0_2 : decB cX10_walk 29 [(.bipush (-2), .int (-2))] = true := by decide +kernel
theorem kX10_walk_0_3 : decB cX10_walk 17 [(.aload_n 0, .null)] = true := by decide +kernel
theorem kX10_walk_0_4 : decB cX10_walk 21 [(.iload_n 1, .null), (.iload_n 2, .null)] = true := by decide +kernel
theorem kX10_walk_0_5 : decB cX10_walk 26 [(.goto 5, .retAddr 31)] = true := by decide +kernel
theorem kX10_walk_0_6 : decB cX10_walk 8 [(.iconst (-1), .int (-1))] = true := by decide +kernel
theorem dX10_walk_2 : decode cX10_walk 2 = .ok (.invokevirtual 185, 3) := by decide +kernel
theorem dX10_walk_5 : decode cX10_walk 5 = .ok (.ifCond .ne 5, 3) := by decide +kernel
theorem dX10_walk_9 : decode cX10_walk 9 = .ok (.ireturn, 1) := by decide +kernel
theorem dX10_walk_11 : decode cX10_walk 11 = .ok (.invokestatic 192, 3) := by decide +kernel
theorem dX10_walk_14 : decode cX10_walk 14 = .ok (.ifCond .eq 15, 3) := by decide +kernel
theorem dX10_walk_18 : decode cX10_walk 18 = .ok (.getfield 13, 3) := by decide +kernel
theorem dX10_walk_23 : decode cX10_walk 23 = .ok (.invokestatic 195, 3) := by decide +kernel
theorem dX10_walk_31 : decode cX10_walk 31 = .ok (.ireturn, 1) := by decide +kernel
def FX10_walk  (a0 : Nat) (a1 : Int32) (a2 : Int32) (H : Hp) : Option (Int32 × Hp) :=
  gp (isO H a0 9 = true) (
    bd2 (FX10_isSquare a0 a1 H) fun x1 H2 =>
    if (x1 = 0 : Prop) then
      some ((-1), H2)
    else
      bd2 (FX10_isWay a2 H2) fun x3 H4 =>
      if (x3 = 0 : Prop) then
        some ((-2), H4)
      else
        bd (gA H4 a0 9 2) fun x5 =>
        bd2 (FX10_end x5 a1 a2 H4) fun x6 H7 =>
        some (x6, H7)
    )
set_option maxHeartbeats 4000000 in
set_option maxRecDepth 100000 in
theorem tFX10_walk {G : GG} {r : Int32} {H' : Hp}   {a0 : Nat} {a1 : Int32} {a2 : Int32} {H : Hp} (h : FX10_walk  a0 a1 a2 H = some (r, H')) : Sn G (T0 G (some (.int r)) H') mX10_walk 0 [some (.ref a0), some (.int a1), some (.int a2)] [] H := by
  unfold FX10_walk at h
  refine sn_blk _ kX10_walk_0_0 (pc' := 2) (L' := [some (.ref a0), some (.int a1), some (.int a2)]) (st' := [.int a1, .ref a0]) rfl rfl ?_
  obtain ⟨ho, h⟩ := gp_inv h
  obtain ⟨fs, ho⟩ := isO_inv ho
  obtain ⟨x1, H2, hx1, h⟩ := bd2_inv h
  refine sn_callv (av := [.int a1]) (st := []) (M2 := mX10_isSquare) dX10_walk_2 msX10_isSquare mlX10_185 rfl rfl rfl rfl rfl ho (sX10_isSquare hx1) ?_
  refine sn_if_ne (tgt := 10) dX10_walk_5 (by decide) (fun c => ?_) (fun c => ?_)
  · rw [if_neg c] at h
    refine sn_blk _ kX10_walk_0_1 (pc' := 11) (L' := [some (.ref a0), some (.int a1), some (.int a2)]) (st' := [.int a2]) rfl rfl ?_
    obtain ⟨x3, H4, hx3, h⟩ := bd2_inv h
    refine sn_calls (av := [.int a2]) (st := []) (M2 := mX10_isWay) dX10_walk_11 msX10_isWay mlX10_192 rfl rfl rfl rfl rfl (sX10_isWay hx3) ?_
    refine sn_if_eq (tgt := 29) dX10_walk_14 (by decide) (fun c => ?_) (fun c => ?_)
    · rw [if_pos c] at h
      refine sn_blk _ kX10_walk_0_2 (pc' := 31) (L' := [some (.ref a0), some (.int a1), some (.int a2)]) (st' := [.int (-2)]) rfl rfl ?_
      cases h
      exact sn_iret (ty := .int) dX10_walk_31 rfl rfl
    · rw [if_neg c] at h
      refine sn_blk _ kX10_walk_0_3 (pc' := 18) (L' := [some (.ref a0), some (.int a1), some (.int a2)]) (st' := [.ref a0]) rfl rfl ?_
      obtain ⟨x5, hx5, h⟩ := bd_inv h
      refine sn_gA dX10_walk_18 foX10_13 hx5 ?_
      refine sn_blk _ kX10_walk_0_4 (pc' := 23) (L' := [some (.ref a0), some (.int a1), some (.int a2)]) (st' := [.int a2, .int a1, .ref x5]) rfl rfl ?_
      obtain ⟨x6, H7, hx6, h⟩ := bd2_inv h
      refine sn_calls (av := [.ref x5, .int a1, .int a2]) (st := []) (M2 := mX10_end) dX10_walk_23 msX10_end mlX10_195 rfl rfl rfl rfl rfl (sX10_end hx6) ?_
      refine sn_blk _ kX10_walk_0_5 (pc' := 31) (L' := [some (.ref a0), some (.int a1), some (.int a2)]) (st' := [.int x6]) rfl rfl ?_
      cases h
      exact sn_iret (ty := .int) dX10_walk_31 rfl rfl
  · rw [if_pos c] at h
    refine sn_blk _ kX10_walk_0_6 (pc' := 9) (L' := [some (.ref a0), some (.int a1), some (.int a2)]) (st' := [.int (-1)]) rfl rfl ?_
    cases h
    exact sn_iret (ty := .int) dX10_walk_9 rfl rfl
theorem sX10_walk {G : GG} {r : Int32} {H' : Hp} {a0 : Nat} {a1 : Int32} {a2 : Int32} {H : Hp} (h : FX10_walk a0 a1 a2 H = some (r, H')) : SM G mX10_walk [.ref a0, .int a1, .int a2] H (some (.int r)) H' := tFX10_walk h
/-! SquareFoldsModel.ones(I)I -/
theorem kX10_ones_0_0 : decB cX10_ones 0 [(.iconst 0, .int 0), (.istore_n 1, .null), (.iconst 0, .int 0), (.istore_n 2, .null)] = true := by decide +kernel
theorem kX10_ones_4_0 : decB cX10_ones 4 [(.iload_n 2, .null), (.iconst 5, .int 5)] = true := by decide +kernel
theorem kX10_ones_4_1 : decB cX10_ones 23 [(.iload_n 1, .null)] = true := by decide +kernel
theorem kX10_ones_4_2 : decB cX10_ones 9 [(.iload_n 1, .null), (.iload_n 0, .null), (.iload_n 2, .null), (.ishr, .null), (.iconst 1, .int 1), (.iand, .null), (.iadd, .null), (.istore_n 1, .null), (.iinc 2 1, .int 1), (.goto (-16), .retAddr 4)] = true := by decide +kernel
theorem dX10_ones_6 : decode cX10_ones 6 = .ok (.if_icmp .ge 17, 3) := by decide +kernel
theorem dX10_ones_24 : decode cX10_ones 24 = .ok (.ireturn, 1) := by decide +kernel
def bX10_ones_4 (K4 : Int32 → Int32 → Int32 → Hp → Option (Int32 × Hp)) (a0 : Int32) (a1 : Int32) (a2 : Int32) (H : Hp) : Option (Int32 × Hp) :=
  if (5 ≤ a2 : Prop) then
    some (a1, H)
  else
    K4 a0 (a1 + ((a0 >>> (a2 &&& 31)) &&& 1)) (a2 + 1) H
set_option maxHeartbeats 4000000 in
set_option maxRecDepth 100000 in
theorem tbX10_ones_4 {G : GG} {r : Int32} {H' : Hp} {K4 : Int32 → Int32 → Int32 → Hp → Option (Int32 × Hp)} (hK4 : ∀ (a0 : Int32) (a1 : Int32) (a2 : Int32) (H : Hp), K4 a0 a1 a2 H = some (r, H') → Sn G (T0 G (some (.int r)) H') mX10_ones 4 [some (.int a0), some (.int a1), some (.int a2)] [] H) {a0 : Int32} {a1 : Int32} {a2 : Int32} {H : Hp} (h : bX10_ones_4 K4 a0 a1 a2 H = some (r, H')) : Sn G (T0 G (some (.int r)) H') mX10_ones 4 [some (.int a0), some (.int a1), some (.int a2)] [] H := by
  unfold bX10_ones_4 at h
  refine sn_blk _ kX10_ones_4_0 (pc' := 6) (L' := [some (.int a0), some (.int a1), some (.int a2)]) (st' := [.int 5, .int a2]) rfl rfl ?_
  refine sn_icmp_ge (tgt := 23) dX10_ones_6 (by decide) (fun c => ?_) (fun c => ?_)
  · rw [if_pos c] at h
    refine sn_blk _ kX10_ones_4_1 (pc' := 24) (L' := [some (.int a0), some (.int a1), some (.int a2)]) (st' := [.int a1]) rfl rfl ?_
    cases h
    exact sn_iret (ty := .int) dX10_ones_24 rfl rfl
  · rw [if_neg c] at h
    refine sn_blk _ kX10_ones_4_2 (pc' := 4) (L' := [some (.int a0), some (.int (a1 + ((a0 >>> (a2 &&& 31)) &&& 1))), some (.int (a2 + 1))]) (st' := []) rfl rfl ?_
    exact hK4 _ _ _ _ h
def fX10_ones_4  : Nat → Int32 → Int32 → Int32 → Hp → Option (Int32 × Hp)
  | 0, _, _, _, _ => none
  | d + 1, a0, a1, a2, H => bX10_ones_4 (fX10_ones_4  d) a0 a1 a2 H
theorem tfX10_ones_4 {G : GG} {r : Int32} {H' : Hp}   : ∀ (d : Nat) {a0 : Int32} {a1 : Int32} {a2 : Int32} {H : Hp}, fX10_ones_4  d a0 a1 a2 H = some (r, H') → Sn G (T0 G (some (.int r)) H') mX10_ones 4 [some (.int a0), some (.int a1), some (.int a2)] [] H := by
  intro d
  induction d with
  | zero => intro a0 a1 a2 H h; cases h
  | succ d ih => intro a0 a1 a2 H h; exact tbX10_ones_4 (fun a0 a1 a2 H h => ih h) h
def FX10_ones  (a0 : Int32) (H : Hp) : Option (Int32 × Hp) :=
  fX10_ones_4  4096 a0 0 0 H
set_option maxHeartbeats 4000000 in
set_option maxRecDepth 100000 in
theorem tFX10_ones {G : GG} {r : Int32} {H' : Hp}   {a0 : Int32} {H : Hp} (h : FX10_ones  a0 H = some (r, H')) : Sn G (T0 G (some (.int r)) H') mX10_ones 0 [some (.int a0), none, none] [] H := by
  unfold FX10_ones at h
  refine sn_blk _ kX10_ones_0_0 (pc' := 4) (L' := [some (.int a0), some (.int 0), some (.int 0)]) (st' := []) rfl rfl ?_
  exact tfX10_ones_4  4096 h
theorem sX10_ones {G : GG} {r : Int32} {H' : Hp} {a0 : Int32} {H : Hp} (h : FX10_ones a0 H = some (r, H')) : SM G mX10_ones [.int a0] H (some (.int r)) H' := tFX10_ones h
/-! SquareFoldsModel.holes([II)I -/
theorem kX10_holes_0_0 : decB cX10_holes 0 [(.aload_n 0, .null), (.iload_n 1, .null)] = true := by decide +kernel
theorem kX10_holes_0_1 : decB cX10_holes 5 [(.istore_n 2, .null), (.iconst 2, .int 2), (.iload_n 2, .null)] = true := by decide +kernel
theorem kX10_holes_0_2 : decB cX10_holes 11 [(.iadd, .null), (.aload_n 0, .null), (.iload_n 2, .null)] = true := by decide +kernel
theorem kX10_holes_0_3 : decB cX10_holes 17 [(.isub, .null), (.iconst 2, .int 2)] = true := by decide +kernel
theorem dX10_holes_2 : decode cX10_holes 2 = .ok (.invokestatic 91, 3) := by decide +kernel
theorem dX10_holes_8 : decode cX10_holes 8 = .ok (.invokestatic 106, 3) := by decide +kernel
theorem dX10_holes_14 : decode cX10_holes 14 = .ok (.invokestatic 103, 3) := by decide +kernel
theorem dX10_holes_19 : decode cX10_holes 19 = .ok (.idiv, 1) := by decide +kernel
theorem dX10_holes_20 : decode cX10_holes 20 = .ok (.ireturn, 1) := by decide +kernel
def FX10_holes  (a0 : Nat) (a1 : Int32) (H : Hp) : Option (Int32 × Hp) :=
  bd2 (FX10_pieceOf a0 a1 H) fun x1 H2 =>
  bd2 (FX10_ones x1 H2) fun x3 H4 =>
  bd2 (FX10_corners a0 x1 H4) fun x5 H6 =>
  some ((((2 + x3) - x5) / 2), H6)
set_option maxHeartbeats 4000000 in
set_option maxRecDepth 100000 in
theorem tFX10_holes {G : GG} {r : Int32} {H' : Hp}   {a0 : Nat} {a1 : Int32} {H : Hp} (h : FX10_holes  a0 a1 H = some (r, H')) : Sn G (T0 G (some (.int r)) H') mX10_holes 0 [some (.ref a0), some (.int a1), none] [] H := by
  unfold FX10_holes at h
  refine sn_blk _ kX10_holes_0_0 (pc' := 2) (L' := [some (.ref a0), some (.int a1), none]) (st' := [.int a1, .ref a0]) rfl rfl ?_
  obtain ⟨x1, H2, hx1, h⟩ := bd2_inv h
  refine sn_calls (av := [.ref a0, .int a1]) (st := []) (M2 := mX10_pieceOf) dX10_holes_2 msX10_pieceOf mlX10_91 rfl rfl rfl rfl rfl (sX10_pieceOf hx1) ?_
  refine sn_blk _ kX10_holes_0_1 (pc' := 8) (L' := [some (.ref a0), some (.int a1), some (.int x1)]) (st' := [.int x1, .int 2]) rfl rfl ?_
  obtain ⟨x3, H4, hx3, h⟩ := bd2_inv h
  refine sn_calls (av := [.int x1]) (st := [.int 2]) (M2 := mX10_ones) dX10_holes_8 msX10_ones mlX10_106 rfl rfl rfl rfl rfl (sX10_ones hx3) ?_
  refine sn_blk _ kX10_holes_0_2 (pc' := 14) (L' := [some (.ref a0), some (.int a1), some (.int x1)]) (st' := [.int x1, .ref a0, .int (2 + x3)]) rfl rfl ?_
  obtain ⟨x5, H6, hx5, h⟩ := bd2_inv h
  refine sn_calls (av := [.ref a0, .int x1]) (st := [.int (2 + x3)]) (M2 := mX10_corners) dX10_holes_14 msX10_corners mlX10_103 rfl rfl rfl rfl rfl (sX10_corners hx5) ?_
  refine sn_blk _ kX10_holes_0_3 (pc' := 19) (L' := [some (.ref a0), some (.int a1), some (.int x1)]) (st' := [.int 2, .int ((2 + x3) - x5)]) rfl rfl ?_
  refine sn_idiv dX10_holes_19 (by decide) ?_
  cases h
  exact sn_iret (ty := .int) dX10_holes_20 rfl rfl
theorem sX10_holes {G : GG} {r : Int32} {H' : Hp} {a0 : Nat} {a1 : Int32} {H : Hp} (h : FX10_holes a0 a1 H = some (r, H')) : SM G mX10_holes [.ref a0, .int a1] H (some (.int r)) H' := tFX10_holes h
/-! SquareFoldsModel.square(II)I -/
theorem kX10_square_0_0 : decB cX10_square 0 [(.aload_n 0, .null), (.iload_n 1, .null)] = true := by decide +kernel
theorem kX10_square_0_1 : decB cX10_square 10 [(.iload_n 2, .null)] = true := by decide +kernel
theorem kX10_square_0_2 : decB cX10_square 48 [(.aload_n 0, .null)] = true := by decide +kernel
theorem kX10_square_0_3 : decB cX10_square 52 [(.iload_n 1, .null)] = true := by decide +kernel
theorem kX10_square_0_4 : decB cX10_square 57 [(.aload_n 0, .null)] = true := by decide +kernel
theorem kX10_square_0_5 : decB cX10_square 61 [(.iload_n 1, .null)] = true := by decide +kernel
theorem kX10_square_0_6 : decB cX10_square 66 [(.aload_n 0, .null)] = true := by decide +kernel
theorem kX10_square_0_7 : decB cX10_square 70 [(.iload_n 1, .null)] = true := by decide +kernel
theorem kX10_square_0_8 : decB cX10_square 75 [(.aload_n 0, .null)] = true := by decide +kernel
theorem kX10_square_0_9 : decB cX10_square 79 [(.iload_n 1, .null)] = true := by decide +kernel
theorem kX10_square_0_10 : decB cX10_square 84 [(.aload_n 0, .null)] = true := by decide +kernel
theorem kX10_square_0_11 : decB cX10_square 88 [(.iload_n 1, .null)] = true := by decide +kernel
theorem kX10_square_0_12 : decB cX10_square 93 [(.aload_n 0, .null)] = true := by decide +kernel
theorem kX10_square_0_13 : decB cX10_square 97 [(.iload_n 1, .null)] = true := by decide +kernel
theorem kX10_square_0_14 : decB cX10_square 102 [(.bipush (-2), .int (-2))] = true := by decide +kernel
theorem kX10_square_0_15 : decB cX10_square 8 [(.iconst (-1), .int (-1))] = true := by decide +kernel
theorem dX10_square_2 : decode cX10_square 2 = .ok (.invokevirtual 185, 3) := by decide +kernel
theorem dX10_square_5 : decode cX10_square 5 = .ok (.ifCond .ne 5, 3) := by decide +kernel
theorem dX10_square_9 : decode cX10_square 9 = .ok (.ireturn, 1) := by decide +kernel
theorem dX10_square_11 : decode cX10_square 11 = .ok (.tableswitch 91 0 5 #[37, 46, 55, 64, 73, 82], 37) := by decide +kernel
theorem dX10_square_49 : decode cX10_square 49 = .ok (.getfield 13, 3) := by decide +kernel
theorem dX10_square_53 : decode cX10_square 53 = .ok (.invokestatic 91, 3) := by decide +kernel
theorem dX10_square_56 : decode cX10_square 56 = .ok (.ireturn, 1) := by decide +kernel
theorem dX10_square_58 : decode cX10_square 58 = .ok (.getfield 13, 3) := by decide +kernel
theorem dX10_square_62 : decode cX10_square 62 = .ok (.invokestatic 77, 3) := by decide +kernel
theorem dX10_square_65 : decode cX10_square 65 = .ok (.ireturn, 1) := by decide +kernel
theorem dX10_square_67 : decode cX10_square 67 = .ok (.getfield 13, 3) := by decide +kernel
theorem dX10_square_71 : decode cX10_square 71 = .ok (.invokestatic 161, 3) := by decide +kernel
theorem dX10_square_74 : decode cX10_square 74 = .ok (.ireturn, 1) := by decide +kernel
theorem dX10_square_76 : decode cX10_square 76 = .ok (.getfield 13, 3) := by decide +kernel
theorem dX10_square_80 : decode cX10_square 80 = .ok (.invokestatic 84, 3) := by decide +kernel
theorem dX10_square_83 : decode cX10_square 83 = .ok (.ireturn, 1) := by decide +kernel
theorem dX10_square_85 : decode cX10_square 85 = .ok (.getfield 13, 3) := by decide +kernel
theorem dX10_square_89 : decode cX10_square 89 = .ok (.invokestatic 97, 3) := by decide +kernel
theorem dX10_square_92 : decode cX10_square 92 = .ok (.ireturn, 1) := by decide +kernel
theorem dX10_square_94 : decode cX10_square 94 = .ok (.getfield 13, 3) := by decide +kernel
theorem dX10_square_98 : decode cX10_square 98 = .ok (.invokestatic 198, 3) := by decide +kernel
theorem dX10_square_101 : decode cX10_square 101 = .ok (.ireturn, 1) := by decide +kernel
theorem dX10_square_104 : decode cX10_square 104 = .ok (.ireturn, 1) := by decide +kernel
def FX10_square  (a0 : Nat) (a1 : Int32) (a2 : Int32) (H : Hp) : Option (Int32 × Hp) :=
  gp (isO H a0 9 = true) (
    bd2 (FX10_isSquare a0 a1 H) fun x1 H2 =>
    if (x1 = 0 : Prop) then
      some ((-1), H2)
    else
      if a2 = (0 : Int32) then
        bd (gA H2 a0 9 2) fun x3 =>
        bd2 (FX10_pieceOf x3 a1 H2) fun x4 H5 =>
        some (x4, H5)
      else
        if a2 = (1 : Int32) then
          bd (gA H2 a0 9 2) fun x6 =>
          bd2 (FX10_around x6 a1 H2) fun x7 H8 =>
          some (x7, H8)
        else
          if a2 = (2 : Int32) then
            bd (gA H2 a0 9 2) fun x9 =>
            bd2 (FX10_turns x9 a1 H2) fun x10 H11 =>
            some (x10, H11)
          else
            if a2 = (3 : Int32) then
              bd (gA H2 a0 9 2) fun x12 =>
              bd2 (FX10_rowOf x12 a1 H2) fun x13 H14 =>
              some (x13, H14)
            else
              if a2 = (4 : Int32) then
                bd (gA H2 a0 9 2) fun x15 =>
                bd2 (FX10_bandOf x15 a1 H2) fun x16 H17 =>
                some (x16, H17)
              else
                if a2 = (5 : Int32) then
                  bd (gA H2 a0 9 2) fun x18 =>
                  bd2 (FX10_holes x18 a1 H2) fun x19 H20 =>
                  some (x19, H20)
                else
                  some ((-2), H2)
    )
set_option maxHeartbeats 4000000 in
set_option maxRecDepth 100000 in
theorem tFX10_square {G : GG} {r : Int32} {H' : Hp}   {a0 : Nat} {a1 : Int32} {a2 : Int32} {H : Hp} (h : FX10_square  a0 a1 a2 H = some (r, H')) : Sn G (T0 G (some (.int r)) H') mX10_square 0 [some (.ref a0), some (.int a1), some (.int a2)] [] H := by
  unfold FX10_square at h
  refine sn_blk _ kX10_square_0_0 (pc' := 2) (L' := [some (.ref a0), some (.int a1), some (.int a2)]) (st' := [.int a1, .ref a0]) rfl rfl ?_
  obtain ⟨ho, h⟩ := gp_inv h
  obtain ⟨fs, ho⟩ := isO_inv ho
  obtain ⟨x1, H2, hx1, h⟩ := bd2_inv h
  refine sn_callv (av := [.int a1]) (st := []) (M2 := mX10_isSquare) dX10_square_2 msX10_isSquare mlX10_185 rfl rfl rfl rfl rfl ho (sX10_isSquare hx1) ?_
  refine sn_if_ne (tgt := 10) dX10_square_5 (by decide) (fun c => ?_) (fun c => ?_)
  · rw [if_neg c] at h
    refine sn_blk _ kX10_square_0_1 (pc' := 11) (L' := [some (.ref a0), some (.int a1), some (.int a2)]) (st' := [.int a2]) rfl rfl ?_
    by_cases c11_0 : a2 = (0 : Int32)
    · rw [if_pos c11_0] at h
      refine sn_tblIn (off := 37) (tgt := 48) dX10_square_11 (by rw [c11_0]; decide) (by rw [c11_0]; decide) (by rw [c11_0]; decide +kernel) (by decide) ?_
      refine sn_blk _ kX10_square_0_2 (pc' := 49) (L' := [some (.ref a0), some (.int a1), some (.int a2)]) (st' := [.ref a0]) rfl rfl ?_
      obtain ⟨x3, hx3, h⟩ := bd_inv h
      refine sn_gA dX10_square_49 foX10_13 hx3 ?_
      refine sn_blk _ kX10_square_0_3 (pc' := 53) (L' := [some (.ref a0), some (.int a1), some (.int a2)]) (st' := [.int a1, .ref x3]) rfl rfl ?_
      obtain ⟨x4, H5, hx4, h⟩ := bd2_inv h
      refine sn_calls (av := [.ref x3, .int a1]) (st := []) (M2 := mX10_pieceOf) dX10_square_53 msX10_pieceOf mlX10_91 rfl rfl rfl rfl rfl (sX10_pieceOf hx4) ?_
      cases h
      exact sn_iret (ty := .int) dX10_square_56 rfl rfl
    · rw [if_neg c11_0] at h
      by_cases c11_1 : a2 = (1 : Int32)
      · rw [if_pos c11_1] at h
        refine sn_tblIn (off := 46) (tgt := 57) dX10_square_11 (by rw [c11_1]; decide) (by rw [c11_1]; decide) (by rw [c11_1]; decide +kernel) (by decide) ?_
        refine sn_blk _ kX10_square_0_4 (pc' := 58) (L' := [some (.ref a0), some (.int a1), some (.int a2)]) (st' := [.ref a0]) rfl rfl ?_
        obtain ⟨x6, hx6, h⟩ := bd_inv h
        refine sn_gA dX10_square_58 foX10_13 hx6 ?_
        refine sn_blk _ kX10_square_0_5 (pc' := 62) (L' := [some (.ref a0), some (.int a1), some (.int a2)]) (st' := [.int a1, .ref x6]) rfl rfl ?_
        obtain ⟨x7, H8, hx7, h⟩ := bd2_inv h
        refine sn_calls (av := [.ref x6, .int a1]) (st := []) (M2 := mX10_around) dX10_square_62 msX10_around mlX10_77 rfl rfl rfl rfl rfl (sX10_around hx7) ?_
        cases h
        exact sn_iret (ty := .int) dX10_square_65 rfl rfl
      · rw [if_neg c11_1] at h
        by_cases c11_2 : a2 = (2 : Int32)
        · rw [if_pos c11_2] at h
          refine sn_tblIn (off := 55) (tgt := 66) dX10_square_11 (by rw [c11_2]; decide) (by rw [c11_2]; decide) (by rw [c11_2]; decide +kernel) (by decide) ?_
          refine sn_blk _ kX10_square_0_6 (pc' := 67) (L' := [some (.ref a0), some (.int a1), some (.int a2)]) (st' := [.ref a0]) rfl rfl ?_
          obtain ⟨x9, hx9, h⟩ := bd_inv h
          refine sn_gA dX10_square_67 foX10_13 hx9 ?_
          refine sn_blk _ kX10_square_0_7 (pc' := 71) (L' := [some (.ref a0), some (.int a1), some (.int a2)]) (st' := [.int a1, .ref x9]) rfl rfl ?_
          obtain ⟨x10, H11, hx10, h⟩ := bd2_inv h
          refine sn_calls (av := [.ref x9, .int a1]) (st := []) (M2 := mX10_turns) dX10_square_71 msX10_turns mlX10_161 rfl rfl rfl rfl rfl (sX10_turns hx10) ?_
          cases h
          exact sn_iret (ty := .int) dX10_square_74 rfl rfl
        · rw [if_neg c11_2] at h
          by_cases c11_3 : a2 = (3 : Int32)
          · rw [if_pos c11_3] at h
            refine sn_tblIn (off := 64) (tgt := 75) dX10_square_11 (by rw [c11_3]; decide) (by rw [c11_3]; decide) (by rw [c11_3]; decide +kernel) (by decide) ?_
            refine sn_blk _ kX10_square_0_8 (pc' := 76) (L' := [some (.ref a0), some (.int a1), some (.int a2)]) (st' := [.ref a0]) rfl rfl ?_
            obtain ⟨x12, hx12, h⟩ := bd_inv h
            refine sn_gA dX10_square_76 foX10_13 hx12 ?_
            refine sn_blk _ kX10_square_0_9 (pc' := 80) (L' := [some (.ref a0), some (.int a1), some (.int a2)]) (st' := [.int a1, .ref x12]) rfl rfl ?_
            obtain ⟨x13, H14, hx13, h⟩ := bd2_inv h
            refine sn_calls (av := [.ref x12, .int a1]) (st := []) (M2 := mX10_rowOf) dX10_square_80 msX10_rowOf mlX10_84 rfl rfl rfl rfl rfl (sX10_rowOf hx13) ?_
            cases h
            exact sn_iret (ty := .int) dX10_square_83 rfl rfl
          · rw [if_neg c11_3] at h
            by_cases c11_4 : a2 = (4 : Int32)
            · rw [if_pos c11_4] at h
              refine sn_tblIn (off := 73) (tgt := 84) dX10_square_11 (by rw [c11_4]; decide) (by rw [c11_4]; decide) (by rw [c11_4]; decide +kernel) (by decide) ?_
              refine sn_blk _ kX10_square_0_10 (pc' := 85) (L' := [some (.ref a0), some (.int a1), some (.int a2)]) (st' := [.ref a0]) rfl rfl ?_
              obtain ⟨x15, hx15, h⟩ := bd_inv h
              refine sn_gA dX10_square_85 foX10_13 hx15 ?_
              refine sn_blk _ kX10_square_0_11 (pc' := 89) (L' := [some (.ref a0), some (.int a1), some (.int a2)]) (st' := [.int a1, .ref x15]) rfl rfl ?_
              obtain ⟨x16, H17, hx16, h⟩ := bd2_inv h
              refine sn_calls (av := [.ref x15, .int a1]) (st := []) (M2 := mX10_bandOf) dX10_square_89 msX10_bandOf mlX10_97 rfl rfl rfl rfl rfl (sX10_bandOf hx16) ?_
              cases h
              exact sn_iret (ty := .int) dX10_square_92 rfl rfl
            · rw [if_neg c11_4] at h
              by_cases c11_5 : a2 = (5 : Int32)
              · rw [if_pos c11_5] at h
                refine sn_tblIn (off := 82) (tgt := 93) dX10_square_11 (by rw [c11_5]; decide) (by rw [c11_5]; decide) (by rw [c11_5]; decide +kernel) (by decide) ?_
                refine sn_blk _ kX10_square_0_12 (pc' := 94) (L' := [some (.ref a0), some (.int a1), some (.int a2)]) (st' := [.ref a0]) rfl rfl ?_
                obtain ⟨x18, hx18, h⟩ := bd_inv h
                refine sn_gA dX10_square_94 foX10_13 hx18 ?_
                refine sn_blk _ kX10_square_0_13 (pc' := 98) (L' := [some (.ref a0), some (.int a1), some (.int a2)]) (st' := [.int a1, .ref x18]) rfl rfl ?_
                obtain ⟨x19, H20, hx19, h⟩ := bd2_inv h
                refine sn_calls (av := [.ref x18, .int a1]) (st := []) (M2 := mX10_holes) dX10_square_98 msX10_holes mlX10_198 rfl rfl rfl rfl rfl (sX10_holes hx19) ?_
                cases h
                exact sn_iret (ty := .int) dX10_square_101 rfl rfl
              · rw [if_neg c11_5] at h
                refine sn_tblOut (tgt := 102) dX10_square_11 (sw_out (fun k h1 h2 e => ?_)) (by decide) ?_
                · rcases (show k = 0 ∨ k = 1 ∨ k = 2 ∨ k = 3 ∨ k = 4 ∨ k = 5 by omega) with rfl | rfl | rfl | rfl | rfl | rfl
                  · exact c11_0 (Int32.toInt_inj.mp e)
                  · exact c11_1 (Int32.toInt_inj.mp e)
                  · exact c11_2 (Int32.toInt_inj.mp e)
                  · exact c11_3 (Int32.toInt_inj.mp e)
                  · exact c11_4 (Int32.toInt_inj.mp e)
                  · exact c11_5 (Int32.toInt_inj.mp e)
                · refine sn_blk _ kX10_square_0_14 (pc' := 104) (L' := [some (.ref a0), some (.int a1), some (.int a2)]) (st' := [.int (-2)]) rfl rfl ?_
                  cases h
                  exact sn_iret (ty := .int) dX10_square_104 rfl rfl
  · rw [if_pos c] at h
    refine sn_blk _ kX10_square_0_15 (pc' := 9) (L' := [some (.ref a0), some (.int a1), some (.int a2)]) (st' := [.int (-1)]) rfl rfl ?_
    cases h
    exact sn_iret (ty := .int) dX10_square_9 rfl rfl
theorem sX10_square {G : GG} {r : Int32} {H' : Hp} {a0 : Nat} {a1 : Int32} {a2 : Int32} {H : Hp} (h : FX10_square a0 a1 a2 H = some (r, H')) : SM G mX10_square [.ref a0, .int a1, .int a2] H (some (.int r)) H' := tFX10_square h
/-! SquareFoldsModel.meet(I)V -/
theorem kX10_meet_0_0 : decB cX10_meet 0 [(.aload_n 0, .null)] = true := by decide +kernel
theorem kX10_meet_0_1 : decB cX10_meet 4 [(.iload_n 1, .null)] = true := by decide +kernel
theorem kX10_meet_0_2 : decB cX10_meet 6 [(.bipush (-9), .int (-9))] = true := by decide +kernel
theorem kX10_meet_0_3 : decB cX10_meet 11 [(.aload_n 0, .null)] = true := by decide +kernel
theorem kX10_meet_0_4 : decB cX10_meet 15 [(.iload_n 1, .null), (.aload_n 0, .null)] = true := by decide +kernel
theorem kX10_meet_0_5 : decB cX10_meet 21 [(.aload_n 0, .null)] = true := by decide +kernel
theorem kX10_meet_0_6 : decB cX10_meet 25 [(.aload_n 0, .null)] = true := by decide +kernel
theorem kX10_meet_0_7 : decB cX10_meet 29 [(.iload_n 1, .null)] = true := by decide +kernel
theorem kX10_meet_0_8 : decB cX10_meet 31 [(.aload_n 0, .null), (.dup, .null)] = true := by decide +kernel
theorem kX10_meet_0_9 : decB cX10_meet 36 [(.iconst 1, .int 1), (.iadd, .null)] = true := by decide +kernel
theorem dX10_meet_1 : decode cX10_meet 1 = .ok (.getfield 41, 3) := by decide +kernel
theorem dX10_meet_5 : decode cX10_meet 5 = .ok (.iaload, 1) := by decide +kernel
theorem dX10_meet_8 : decode cX10_meet 8 = .ok (.if_icmp .ne 33, 3) := by decide +kernel
theorem dX10_meet_12 : decode cX10_meet 12 = .ok (.getfield 41, 3) := by decide +kernel
theorem dX10_meet_17 : decode cX10_meet 17 = .ok (.getfield 201, 3) := by decide +kernel
theorem dX10_meet_20 : decode cX10_meet 20 = .ok (.iastore, 1) := by decide +kernel
theorem dX10_meet_22 : decode cX10_meet 22 = .ok (.getfield 44, 3) := by decide +kernel
theorem dX10_meet_26 : decode cX10_meet 26 = .ok (.getfield 201, 3) := by decide +kernel
theorem dX10_meet_30 : decode cX10_meet 30 = .ok (.iastore, 1) := by decide +kernel
theorem dX10_meet_33 : decode cX10_meet 33 = .ok (.getfield 201, 3) := by decide +kernel
theorem dX10_meet_38 : decode cX10_meet 38 = .ok (.putfield 201, 3) := by decide +kernel
theorem dX10_meet_41 : decode cX10_meet 41 = .ok (.return_, 1) := by decide +kernel
def FX10_meet  (a0 : Nat) (a1 : Int32) (H : Hp) : Option (Unit × Hp) :=
  bd (gA H a0 9 15) fun x1 =>
  bd (aI H x1 0 a1) fun x2 =>
  if (x2 = (-9) : Prop) then
    bd (gA H a0 9 15) fun x3 =>
    bd (gI H a0 9 22) fun x4 =>
    bd (sI H x3 0 a1 x4) fun H5 =>
    bd (gA H5 a0 9 16) fun x6 =>
    bd (gI H5 a0 9 22) fun x7 =>
    bd (sI H5 x6 0 x7 a1) fun H8 =>
    bd (gI H8 a0 9 22) fun x9 =>
    bd (pV H8 a0 9 22 (.int (x9 + 1))) fun H10 =>
    some ((), H10)
  else
    some ((), H)
set_option maxHeartbeats 4000000 in
set_option maxRecDepth 100000 in
theorem tFX10_meet {G : GG} {r : Unit} {H' : Hp}   {a0 : Nat} {a1 : Int32} {H : Hp} (h : FX10_meet  a0 a1 H = some (r, H')) : Sn G (T0 G none H') mX10_meet 0 [some (.ref a0), some (.int a1)] [] H := by
  unfold FX10_meet at h
  refine sn_blk _ kX10_meet_0_0 (pc' := 1) (L' := [some (.ref a0), some (.int a1)]) (st' := [.ref a0]) rfl rfl ?_
  obtain ⟨x1, hx1, h⟩ := bd_inv h
  refine sn_gA dX10_meet_1 foX10_41 hx1 ?_
  refine sn_blk _ kX10_meet_0_1 (pc' := 5) (L' := [some (.ref a0), some (.int a1)]) (st' := [.int a1, .ref x1]) rfl rfl ?_
  obtain ⟨x2, hx2, h⟩ := bd_inv h
  refine sn_iald dX10_meet_5 hx2 ?_
  refine sn_blk _ kX10_meet_0_2 (pc' := 8) (L' := [some (.ref a0), some (.int a1)]) (st' := [.int (-9), .int x2]) rfl rfl ?_
  refine sn_icmp_ne (tgt := 41) dX10_meet_8 (by decide) (fun c => ?_) (fun c => ?_)
  · rw [if_neg c] at h
    cases h
    exact sn_vret dX10_meet_41 rfl
  · rw [if_pos c] at h
    refine sn_blk _ kX10_meet_0_3 (pc' := 12) (L' := [some (.ref a0), some (.int a1)]) (st' := [.ref a0]) rfl rfl ?_
    obtain ⟨x3, hx3, h⟩ := bd_inv h
    refine sn_gA dX10_meet_12 foX10_41 hx3 ?_
    refine sn_blk _ kX10_meet_0_4 (pc' := 17) (L' := [some (.ref a0), some (.int a1)]) (st' := [.ref a0, .int a1, .ref x3]) rfl rfl ?_
    obtain ⟨x4, hx4, h⟩ := bd_inv h
    refine sn_gI dX10_meet_17 foX10_201 hx4 ?_
    obtain ⟨H5, hH5, h⟩ := bd_inv h
    refine sn_iast dX10_meet_20 hH5 ?_
    refine sn_blk _ kX10_meet_0_5 (pc' := 22) (L' := [some (.ref a0), some (.int a1)]) (st' := [.ref a0]) rfl rfl ?_
    obtain ⟨x6, hx6, h⟩ := bd_inv h
    refine sn_gA dX10_meet_22 foX10_44 hx6 ?_
    refine sn_blk _ kX10_meet_0_6 (pc' := 26) (L' := [some (.ref a0), some (.int a1)]) (st' := [.ref a0, .ref x6]) rfl rfl ?_
    obtain ⟨x7, hx7, h⟩ := bd_inv h
    refine sn_gI dX10_meet_26 foX10_201 hx7 ?_
    refine sn_blk _ kX10_meet_0_7 (pc' := 30) (L' := [some (.ref a0), some (.int a1)]) (st' := [.int a1, .int x7, .ref x6]) rfl rfl ?_
    obtain ⟨H8, hH8, h⟩ := bd_inv h
    refine sn_iast dX10_meet_30 hH8 ?_
    refine sn_blk _ kX10_meet_0_8 (pc' := 33) (L' := [some (.ref a0), some (.int a1)]) (st' := [.ref a0, .ref a0]) rfl rfl ?_
    obtain ⟨x9, hx9, h⟩ := bd_inv h
    refine sn_gI dX10_meet_33 foX10_201 hx9 ?_
    refine sn_blk _ kX10_meet_0_9 (pc' := 38) (L' := [some (.ref a0), some (.int a1)]) (st' := [.int (x9 + 1), .ref a0]) rfl rfl ?_
    obtain ⟨H10, hH10, h⟩ := bd_inv h
    refine sn_pI dX10_meet_38 foX10_201 fpX10_22 hH10 ?_
    cases h
    exact sn_vret dX10_meet_41 rfl
theorem sX10_meet {G : GG} {r : Unit} {H' : Hp} {a0 : Nat} {a1 : Int32} {H : Hp} (h : FX10_meet a0 a1 H = some (r, H')) : SM G mX10_meet [.ref a0, .int a1] H none H' := tFX10_meet h
/-! SquareFoldsModel.nameFrom([II)J -/
theorem kX10_nameFrom_0_0 : decB cX10_nameFrom 0 [(.iconst 0, .int 0), (.istore_n 3, .null)] = true := by decide +kernel
theorem kX10_nameFrom_2_0 : decB cX10_nameFrom 2 [(.iload_n 3, .null), (.iconst 5, .int 5)] = true := by decide +kernel
theorem kX10_nameFrom_2_1 : decB cX10_nameFrom 21 [(.aload_n 0, .null), (.iconst 0, .int 0)] = true := by decide +kernel
theorem kX10_nameFrom_2_2 : decB cX10_nameFrom 26 [(.aload_n 0, .null), (.iload_n 2, .null)] = true := by decide +kernel
theorem kX10_nameFrom_2_3 : decB cX10_nameFrom 31 [(.iconst 0, .int 0), (.istore_n 3, .null)] = true := by decide +kernel
theorem kX10_nameFrom_2_4 : decB cX10_nameFrom 7 [(.aload_n 0, .null)] = true := by decide +kernel
theorem kX10_nameFrom_2_5 : decB cX10_nameFrom 11 [(.iload_n 3, .null), (.bipush (-9), .int (-9))] = true := by decide +kernel
theorem kX10_nameFrom_2_6 : decB cX10_nameFrom 15 [(.iinc 3 1, .int 1), (.goto (-16), .retAddr 2)] = true := by decide +kernel
theorem kX10_nameFrom_33_0 : decB cX10_nameFrom 33 [(.iload_n 3, .null), (.aload_n 0, .null)] = true := by decide +kernel
theorem kX10_nameFrom_33_1 : decB cX10_nameFrom 75 [(.lconst 0, .long 0), (.lstore_n 3, .null), (.iconst 0, .int 0), (.istore 5, .null)] = true := by decide +kernel
theorem kX10_nameFrom_33_2 : decB cX10_nameFrom 41 [(.aload_n 0, .null), (.aload_n 1, .null), (.aload_n 0, .null)] = true := by decide +kernel
theorem kX10_nameFrom_33_3 : decB cX10_nameFrom 47 [(.iload_n 3, .null)] = true := by decide +kernel
theorem kX10_nameFrom_33_4 : decB cX10_nameFrom 55 [(.aload_n 0, .null), (.aload_n 1, .null), (.aload_n 0, .null)] = true := by decide +kernel
theorem kX10_nameFrom_33_5 : decB cX10_nameFrom 61 [(.iload_n 3, .null)] = true := by decide +kernel
theorem kX10_nameFrom_33_6 : decB cX10_nameFrom 69 [(.iinc 3 1, .int 1), (.goto (-39), .retAddr 33)] = true := by decide +kernel
theorem kX10_nameFrom_80_0 : decB cX10_nameFrom 80 [(.iload 5, .null), (.aload_n 0, .null)] = true := by decide +kernel
theorem kX10_nameFrom_80_1 : decB cX10_nameFrom 119 [(.iconst 0, .int 0), (.istore 5, .null)] = true := by decide +kernel
theorem kX10_nameFrom_80_2 : decB cX10_nameFrom 92 [(.lload_n 3, .null), (.lmul, .null), (.aload_n 0, .null)] = true := by decide +kernel
theorem kX10_nameFrom_80_3 : decB cX10_nameFrom 98 [(.aload_n 1, .null), (.aload_n 0, .null)] = true := by decide +kernel
theorem kX10_nameFrom_80_4 : decB cX10_nameFrom 103 [(.iload 5, .null)] = true := by decide +kernel
theorem kX10_nameFrom_80_5 : decB cX10_nameFrom 110 [(.i2l, .null), (.ladd, .null), (.lstore_n 3, .null), (.iinc 5 1, .int 1), (.goto (-36), .retAddr 80)] = true := by decide +kernel
theorem kX10_nameFrom_122_0 : decB cX10_nameFrom 122 [(.iload 5, .null), (.aload_n 0, .null)] = true := by decide +kernel
theorem kX10_nameFrom_122_1 : decB cX10_nameFrom 161 [(.lload_n 3, .null)] = true := by decide +kernel
theorem kX10_nameFrom_122_2 : decB cX10_nameFrom 134 [(.lload_n 3, .null), (.lmul, .null), (.aload_n 0, .null)] = true := by decide +kernel
theorem kX10_nameFrom_122_3 : decB cX10_nameFrom 140 [(.aload_n 1, .null), (.aload_n 0, .null)] = true := by decide +kernel
theorem kX10_nameFrom_122_4 : decB cX10_nameFrom 145 [(.iload 5, .null)] = true := by decide +kernel
theorem kX10_nameFrom_122_5 : decB cX10_nameFrom 152 [(.i2l, .null), (.ladd, .null), (.lstore_n 3, .null), (.iinc 5 1, .int 1), (.goto (-36), .retAddr 122)] = true := by decide +kernel
theorem dX10_nameFrom_4 : decode cX10_nameFrom 4 = .ok (.if_icmp .ge 17, 3) := by decide +kernel
theorem dX10_nameFrom_8 : decode cX10_nameFrom 8 = .ok (.getfield 41, 3) := by decide +kernel
theorem dX10_nameFrom_14 : decode cX10_nameFrom 14 = .ok (.iastore, 1) := by decide +kernel
theorem dX10_nameFrom_23 : decode cX10_nameFrom 23 = .ok (.putfield 201, 3) := by decide +kernel
theorem dX10_nameFrom_28 : decode cX10_nameFrom 28 = .ok (.invokevirtual 204, 3) := by decide +kernel
theorem dX10_nameFrom_35 : decode cX10_nameFrom 35 = .ok (.getfield 201, 3) := by decide +kernel
theorem dX10_nameFrom_38 : decode cX10_nameFrom 38 = .ok (.if_icmp .ge 37, 3) := by decide +kernel
theorem dX10_nameFrom_44 : decode cX10_nameFrom 44 = .ok (.getfield 44, 3) := by decide +kernel
theorem dX10_nameFrom_48 : decode cX10_nameFrom 48 = .ok (.iaload, 1) := by decide +kernel
theorem dX10_nameFrom_49 : decode cX10_nameFrom 49 = .ok (.invokestatic 64, 3) := by decide +kernel
theorem dX10_nameFrom_52 : decode cX10_nameFrom 52 = .ok (.invokevirtual 204, 3) := by decide +kernel
theorem dX10_nameFrom_58 : decode cX10_nameFrom 58 = .ok (.getfield 44, 3) := by decide +kernel
theorem dX10_nameFrom_62 : decode cX10_nameFrom 62 = .ok (.iaload, 1) := by decide +kernel
theorem dX10_nameFrom_63 : decode cX10_nameFrom 63 = .ok (.invokestatic 71, 3) := by decide +kernel
theorem dX10_nameFrom_66 : decode cX10_nameFrom 66 = .ok (.invokevirtual 204, 3) := by decide +kernel
theorem dX10_nameFrom_83 : decode cX10_nameFrom 83 = .ok (.getfield 201, 3) := by decide +kernel
theorem dX10_nameFrom_86 : decode cX10_nameFrom 86 = .ok (.if_icmp .ge 33, 3) := by decide +kernel
theorem dX10_nameFrom_89 : decode cX10_nameFrom 89 = .ok (.ldc2_w 208, 3) := by decide +kernel
theorem dX10_nameFrom_95 : decode cX10_nameFrom 95 = .ok (.getfield 41, 3) := by decide +kernel
theorem dX10_nameFrom_100 : decode cX10_nameFrom 100 = .ok (.getfield 44, 3) := by decide +kernel
theorem dX10_nameFrom_105 : decode cX10_nameFrom 105 = .ok (.iaload, 1) := by decide +kernel
theorem dX10_nameFrom_106 : decode cX10_nameFrom 106 = .ok (.invokestatic 64, 3) := by decide +kernel
theorem dX10_nameFrom_109 : decode cX10_nameFrom 109 = .ok (.iaload, 1) := by decide +kernel
theorem dX10_nameFrom_125 : decode cX10_nameFrom 125 = .ok (.getfield 201, 3) := by decide +kernel
theorem dX10_nameFrom_128 : decode cX10_nameFrom 128 = .ok (.if_icmp .ge 33, 3) := by decide +kernel
theorem dX10_nameFrom_131 : decode cX10_nameFrom 131 = .ok (.ldc2_w 208, 3) := by decide +kernel
theorem dX10_nameFrom_137 : decode cX10_nameFrom 137 = .ok (.getfield 41, 3) := by decide +kernel
theorem dX10_nameFrom_142 : decode cX10_nameFrom 142 = .ok (.getfield 44, 3) := by decide +kernel
theorem dX10_nameFrom_147 : decode cX10_nameFrom 147 = .ok (.iaload, 1) := by decide +kernel
theorem dX10_nameFrom_148 : decode cX10_nameFrom 148 = .ok (.invokestatic 71, 3) := by decide +kernel
theorem dX10_nameFrom_151 : decode cX10_nameFrom 151 = .ok (.iaload, 1) := by decide +kernel
theorem dX10_nameFrom_162 : decode cX10_nameFrom 162 = .ok (.lreturn, 1) := by decide +kernel
def bX10_nameFrom_122 (K122 : Nat → Nat → Int64 → Int32 → Hp → Option (Int64 × Hp)) (a0 : Nat) (a1 : Nat) (a3 : Int64) (a5 : Int32) (H : Hp) : Option (Int64 × Hp) :=
  bd (gI H a0 9 22) fun x1 =>
  if (x1 ≤ a5 : Prop) then
    some (a3, H)
  else
    bd (gA H a0 9 15) fun x2 =>
    bd (gA H a0 9 16) fun x3 =>
    bd (aI H x3 0 a5) fun x4 =>
    bd2 (FX10_up a1 x4 H) fun x5 H6 =>
    bd (aI H6 x2 0 x5) fun x7 =>
    K122 a0 a1 ((10 * a3) + (Int32.toInt64 x7)) (a5 + 1) H6
set_option maxHeartbeats 4000000 in
set_option maxRecDepth 100000 in
theorem tbX10_nameFrom_122 {G : GG} {r : Int64} {H' : Hp} {K122 : Nat → Nat → Int64 → Int32 → Hp → Option (Int64 × Hp)} (hK122 : ∀ (a0 : Nat) (a1 : Nat) (a3 : Int64) (a5 : Int32) (H : Hp), K122 a0 a1 a3 a5 H = some (r, H') → Sn G (T0 G (some (.long r)) H') mX10_nameFrom 122 [some (.ref a0), some (.ref a1), none, some (.long a3), none, some (.int a5)] [] H) {a0 : Nat} {a1 : Nat} {a3 : Int64} {a5 : Int32} {H : Hp} (h : bX10_nameFrom_122 K122 a0 a1 a3 a5 H = some (r, H')) : Sn G (T0 G (some (.long r)) H') mX10_nameFrom 122 [some (.ref a0), some (.ref a1), none, some (.long a3), none, some (.int a5)] [] H := by
  unfold bX10_nameFrom_122 at h
  refine sn_blk _ kX10_nameFrom_122_0 (pc' := 125) (L' := [some (.ref a0), some (.ref a1), none, some (.long a3), none, some (.int a5)]) (st' := [.ref a0, .int a5]) rfl rfl ?_
  obtain ⟨x1, hx1, h⟩ := bd_inv h
  refine sn_gI dX10_nameFrom_125 foX10_201 hx1 ?_
  refine sn_icmp_ge (tgt := 161) dX10_nameFrom_128 (by decide) (fun c => ?_) (fun c => ?_)
  · rw [if_pos c] at h
    refine sn_blk _ kX10_nameFrom_122_1 (pc' := 162) (L' := [some (.ref a0), some (.ref a1), none, some (.long a3), none, some (.int a5)]) (st' := [.long a3]) rfl rfl ?_
    cases h
    exact sn_lret dX10_nameFrom_162 rfl
  · rw [if_neg c] at h
    refine sn_ldc2 dX10_nameFrom_131 kcX10_208 ?_
    refine sn_blk _ kX10_nameFrom_122_2 (pc' := 137) (L' := [some (.ref a0), some (.ref a1), none, some (.long a3), none, some (.int a5)]) (st' := [.ref a0, .long (10 * a3)]) rfl rfl ?_
    obtain ⟨x2, hx2, h⟩ := bd_inv h
    refine sn_gA dX10_nameFrom_137 foX10_41 hx2 ?_
    refine sn_blk _ kX10_nameFrom_122_3 (pc' := 142) (L' := [some (.ref a0), some (.ref a1), none, some (.long a3), none, some (.int a5)]) (st' := [.ref a0, .ref a1, .ref x2, .long (10 * a3)]) rfl rfl ?_
    obtain ⟨x3, hx3, h⟩ := bd_inv h
    refine sn_gA dX10_nameFrom_142 foX10_44 hx3 ?_
    refine sn_blk _ kX10_nameFrom_122_4 (pc' := 147) (L' := [some (.ref a0), some (.ref a1), none, some (.long a3), none, some (.int a5)]) (st' := [.int a5, .ref x3, .ref a1, .ref x2, .long (10 * a3)]) rfl rfl ?_
    obtain ⟨x4, hx4, h⟩ := bd_inv h
    refine sn_iald dX10_nameFrom_147 hx4 ?_
    obtain ⟨x5, H6, hx5, h⟩ := bd2_inv h
    refine sn_calls (av := [.ref a1, .int x4]) (st := [.ref x2, .long (10 * a3)]) (M2 := mX10_up) dX10_nameFrom_148 msX10_up mlX10_71 rfl rfl rfl rfl rfl (sX10_up hx5) ?_
    obtain ⟨x7, hx7, h⟩ := bd_inv h
    refine sn_iald dX10_nameFrom_151 hx7 ?_
    refine sn_blk _ kX10_nameFrom_122_5 (pc' := 122) (L' := [some (.ref a0), some (.ref a1), none, some (.long ((10 * a3) + (Int32.toInt64 x7))), none, some (.int (a5 + 1))]) (st' := []) rfl rfl ?_
    exact hK122 _ _ _ _ _ h
def fX10_nameFrom_122  : Nat → Nat → Nat → Int64 → Int32 → Hp → Option (Int64 × Hp)
  | 0, _, _, _, _, _ => none
  | d + 1, a0, a1, a3, a5, H => bX10_nameFrom_122 (fX10_nameFrom_122  d) a0 a1 a3 a5 H
theorem tfX10_nameFrom_122 {G : GG} {r : Int64} {H' : Hp}   : ∀ (d : Nat) {a0 : Nat} {a1 : Nat} {a3 : Int64} {a5 : Int32} {H : Hp}, fX10_nameFrom_122  d a0 a1 a3 a5 H = some (r, H') → Sn G (T0 G (some (.long r)) H') mX10_nameFrom 122 [some (.ref a0), some (.ref a1), none, some (.long a3), none, some (.int a5)] [] H := by
  intro d
  induction d with
  | zero => intro a0 a1 a3 a5 H h; cases h
  | succ d ih => intro a0 a1 a3 a5 H h; exact tbX10_nameFrom_122 (fun a0 a1 a3 a5 H h => ih h) h
def bX10_nameFrom_80 (K80 : Nat → Nat → Int64 → Int32 → Hp → Option (Int64 × Hp)) (a0 : Nat) (a1 : Nat) (a3 : Int64) (a5 : Int32) (H : Hp) : Option (Int64 × Hp) :=
  bd (gI H a0 9 22) fun x1 =>
  if (x1 ≤ a5 : Prop) then
    fX10_nameFrom_122  4096 a0 a1 a3 0 H
  else
    bd (gA H a0 9 15) fun x2 =>
    bd (gA H a0 9 16) fun x3 =>
    bd (aI H x3 0 a5) fun x4 =>
    bd2 (FX10_right a1 x4 H) fun x5 H6 =>
    bd (aI H6 x2 0 x5) fun x7 =>
    K80 a0 a1 ((10 * a3) + (Int32.toInt64 x7)) (a5 + 1) H6
set_option maxHeartbeats 4000000 in
set_option maxRecDepth 100000 in
theorem tbX10_nameFrom_80 {G : GG} {r : Int64} {H' : Hp} {K80 : Nat → Nat → Int64 → Int32 → Hp → Option (Int64 × Hp)} (hK80 : ∀ (a0 : Nat) (a1 : Nat) (a3 : Int64) (a5 : Int32) (H : Hp), K80 a0 a1 a3 a5 H = some (r, H') → Sn G (T0 G (some (.long r)) H') mX10_nameFrom 80 [some (.ref a0), some (.ref a1), none, some (.long a3), none, some (.int a5)] [] H) {a0 : Nat} {a1 : Nat} {a3 : Int64} {a5 : Int32} {H : Hp} (h : bX10_nameFrom_80 K80 a0 a1 a3 a5 H = some (r, H')) : Sn G (T0 G (some (.long r)) H') mX10_nameFrom 80 [some (.ref a0), some (.ref a1), none, some (.long a3), none, some (.int a5)] [] H := by
  unfold bX10_nameFrom_80 at h
  refine sn_blk _ kX10_nameFrom_80_0 (pc' := 83) (L' := [some (.ref a0), some (.ref a1), none, some (.long a3), none, some (.int a5)]) (st' := [.ref a0, .int a5]) rfl rfl ?_
  obtain ⟨x1, hx1, h⟩ := bd_inv h
  refine sn_gI dX10_nameFrom_83 foX10_201 hx1 ?_
  refine sn_icmp_ge (tgt := 119) dX10_nameFrom_86 (by decide) (fun c => ?_) (fun c => ?_)
  · rw [if_pos c] at h
    refine sn_blk _ kX10_nameFrom_80_1 (pc' := 122) (L' := [some (.ref a0), some (.ref a1), none, some (.long a3), none, some (.int 0)]) (st' := []) rfl rfl ?_
    exact tfX10_nameFrom_122  4096 h
  · rw [if_neg c] at h
    refine sn_ldc2 dX10_nameFrom_89 kcX10_208 ?_
    refine sn_blk _ kX10_nameFrom_80_2 (pc' := 95) (L' := [some (.ref a0), some (.ref a1), none, some (.long a3), none, some (.int a5)]) (st' := [.ref a0, .long (10 * a3)]) rfl rfl ?_
    obtain ⟨x2, hx2, h⟩ := bd_inv h
    refine sn_gA dX10_nameFrom_95 foX10_41 hx2 ?_
    refine sn_blk _ kX10_nameFrom_80_3 (pc' := 100) (L' := [some (.ref a0), some (.ref a1), none, some (.long a3), none, some (.int a5)]) (st' := [.ref a0, .ref a1, .ref x2, .long (10 * a3)]) rfl rfl ?_
    obtain ⟨x3, hx3, h⟩ := bd_inv h
    refine sn_gA dX10_nameFrom_100 foX10_44 hx3 ?_
    refine sn_blk _ kX10_nameFrom_80_4 (pc' := 105) (L' := [some (.ref a0), some (.ref a1), none, some (.long a3), none, some (.int a5)]) (st' := [.int a5, .ref x3, .ref a1, .ref x2, .long (10 * a3)]) rfl rfl ?_
    obtain ⟨x4, hx4, h⟩ := bd_inv h
    refine sn_iald dX10_nameFrom_105 hx4 ?_
    obtain ⟨x5, H6, hx5, h⟩ := bd2_inv h
    refine sn_calls (av := [.ref a1, .int x4]) (st := [.ref x2, .long (10 * a3)]) (M2 := mX10_right) dX10_nameFrom_106 msX10_right mlX10_64 rfl rfl rfl rfl rfl (sX10_right hx5) ?_
    obtain ⟨x7, hx7, h⟩ := bd_inv h
    refine sn_iald dX10_nameFrom_109 hx7 ?_
    refine sn_blk _ kX10_nameFrom_80_5 (pc' := 80) (L' := [some (.ref a0), some (.ref a1), none, some (.long ((10 * a3) + (Int32.toInt64 x7))), none, some (.int (a5 + 1))]) (st' := []) rfl rfl ?_
    exact hK80 _ _ _ _ _ h
def fX10_nameFrom_80  : Nat → Nat → Nat → Int64 → Int32 → Hp → Option (Int64 × Hp)
  | 0, _, _, _, _, _ => none
  | d + 1, a0, a1, a3, a5, H => bX10_nameFrom_80 (fX10_nameFrom_80  d) a0 a1 a3 a5 H
theorem tfX10_nameFrom_80 {G : GG} {r : Int64} {H' : Hp}   : ∀ (d : Nat) {a0 : Nat} {a1 : Nat} {a3 : Int64} {a5 : Int32} {H : Hp}, fX10_nameFrom_80  d a0 a1 a3 a5 H = some (r, H') → Sn G (T0 G (some (.long r)) H') mX10_nameFrom 80 [some (.ref a0), some (.ref a1), none, some (.long a3), none, some (.int a5)] [] H := by
  intro d
  induction d with
  | zero => intro a0 a1 a3 a5 H h; cases h
  | succ d ih => intro a0 a1 a3 a5 H h; exact tbX10_nameFrom_80 (fun a0 a1 a3 a5 H h => ih h) h
def bX10_nameFrom_33 (K33 : Nat → Nat → Int32 → Hp → Option (Int64 × Hp)) (a0 : Nat) (a1 : Nat) (a3 : Int32) (H : Hp) : Option (Int64 × Hp) :=
  bd (gI H a0 9 22) fun x1 =>
  if (x1 ≤ a3 : Prop) then
    fX10_nameFrom_80  4096 a0 a1 0 0 H
  else
    bd (gA H a0 9 16) fun x2 =>
    bd (aI H x2 0 a3) fun x3 =>
    bd2 (FX10_right a1 x3 H) fun x4 H5 =>
    gp (isO H5 a0 9 = true) (
      bd2 (FX10_meet a0 x4 H5) fun _ H7 =>
      bd (gA H7 a0 9 16) fun x8 =>
      bd (aI H7 x8 0 a3) fun x9 =>
      bd2 (FX10_up a1 x9 H7) fun x10 H11 =>
      gp (isO H11 a0 9 = true) (
        bd2 (FX10_meet a0 x10 H11) fun _ H13 =>
        K33 a0 a1 (a3 + 1) H13
        )
      )
set_option maxHeartbeats 4000000 in
set_option maxRecDepth 100000 in
theorem tbX10_nameFrom_33 {G : GG} {r : Int64} {H' : Hp} {K33 : Nat → Nat → Int32 → Hp → Option (Int64 × Hp)} (hK33 : ∀ (a0 : Nat) (a1 : Nat) (a3 : Int32) (H : Hp), K33 a0 a1 a3 H = some (r, H') → Sn G (T0 G (some (.long r)) H') mX10_nameFrom 33 [some (.ref a0), some (.ref a1), none, some (.int a3), none, none] [] H) {a0 : Nat} {a1 : Nat} {a3 : Int32} {H : Hp} (h : bX10_nameFrom_33 K33 a0 a1 a3 H = some (r, H')) : Sn G (T0 G (some (.long r)) H') mX10_nameFrom 33 [some (.ref a0), some (.ref a1), none, some (.int a3), none, none] [] H := by
  unfold bX10_nameFrom_33 at h
  refine sn_blk _ kX10_nameFrom_33_0 (pc' := 35) (L' := [some (.ref a0), some (.ref a1), none, some (.int a3), none, none]) (st' := [.ref a0, .int a3]) rfl rfl ?_
  obtain ⟨x1, hx1, h⟩ := bd_inv h
  refine sn_gI dX10_nameFrom_35 foX10_201 hx1 ?_
  refine sn_icmp_ge (tgt := 75) dX10_nameFrom_38 (by decide) (fun c => ?_) (fun c => ?_)
  · rw [if_pos c] at h
    refine sn_blk _ kX10_nameFrom_33_1 (pc' := 80) (L' := [some (.ref a0), some (.ref a1), none, some (.long 0), none, some (.int 0)]) (st' := []) rfl rfl ?_
    exact tfX10_nameFrom_80  4096 h
  · rw [if_neg c] at h
    refine sn_blk _ kX10_nameFrom_33_2 (pc' := 44) (L' := [some (.ref a0), some (.ref a1), none, some (.int a3), none, none]) (st' := [.ref a0, .ref a1, .ref a0]) rfl rfl ?_
    obtain ⟨x2, hx2, h⟩ := bd_inv h
    refine sn_gA dX10_nameFrom_44 foX10_44 hx2 ?_
    refine sn_blk _ kX10_nameFrom_33_3 (pc' := 48) (L' := [some (.ref a0), some (.ref a1), none, some (.int a3), none, none]) (st' := [.int a3, .ref x2, .ref a1, .ref a0]) rfl rfl ?_
    obtain ⟨x3, hx3, h⟩ := bd_inv h
    refine sn_iald dX10_nameFrom_48 hx3 ?_
    obtain ⟨x4, H5, hx4, h⟩ := bd2_inv h
    refine sn_calls (av := [.ref a1, .int x3]) (st := [.ref a0]) (M2 := mX10_right) dX10_nameFrom_49 msX10_right mlX10_64 rfl rfl rfl rfl rfl (sX10_right hx4) ?_
    obtain ⟨ho, h⟩ := gp_inv h
    obtain ⟨fs, ho⟩ := isO_inv ho
    obtain ⟨x6, H7, hx6, h⟩ := bd2_inv h
    refine sn_callv (av := [.int x4]) (st := []) (M2 := mX10_meet) dX10_nameFrom_52 msX10_meet mlX10_204 rfl rfl rfl rfl rfl ho (sX10_meet hx6) ?_
    refine sn_blk _ kX10_nameFrom_33_4 (pc' := 58) (L' := [some (.ref a0), some (.ref a1), none, some (.int a3), none, none]) (st' := [.ref a0, .ref a1, .ref a0]) rfl rfl ?_
    obtain ⟨x8, hx8, h⟩ := bd_inv h
    refine sn_gA dX10_nameFrom_58 foX10_44 hx8 ?_
    refine sn_blk _ kX10_nameFrom_33_5 (pc' := 62) (L' := [some (.ref a0), some (.ref a1), none, some (.int a3), none, none]) (st' := [.int a3, .ref x8, .ref a1, .ref a0]) rfl rfl ?_
    obtain ⟨x9, hx9, h⟩ := bd_inv h
    refine sn_iald dX10_nameFrom_62 hx9 ?_
    obtain ⟨x10, H11, hx10, h⟩ := bd2_inv h
    refine sn_calls (av := [.ref a1, .int x9]) (st := [.ref a0]) (M2 := mX10_up) dX10_nameFrom_63 msX10_up mlX10_71 rfl rfl rfl rfl rfl (sX10_up hx10) ?_
    obtain ⟨ho, h⟩ := gp_inv h
    obtain ⟨fs, ho⟩ := isO_inv ho
    obtain ⟨x12, H13, hx12, h⟩ := bd2_inv h
    refine sn_callv (av := [.int x10]) (st := []) (M2 := mX10_meet) dX10_nameFrom_66 msX10_meet mlX10_204 rfl rfl rfl rfl rfl ho (sX10_meet hx12) ?_
    refine sn_blk _ kX10_nameFrom_33_6 (pc' := 33) (L' := [some (.ref a0), some (.ref a1), none, some (.int (a3 + 1)), none, none]) (st' := []) rfl rfl ?_
    exact hK33 _ _ _ _ h
def fX10_nameFrom_33  : Nat → Nat → Nat → Int32 → Hp → Option (Int64 × Hp)
  | 0, _, _, _, _ => none
  | d + 1, a0, a1, a3, H => bX10_nameFrom_33 (fX10_nameFrom_33  d) a0 a1 a3 H
theorem tfX10_nameFrom_33 {G : GG} {r : Int64} {H' : Hp}   : ∀ (d : Nat) {a0 : Nat} {a1 : Nat} {a3 : Int32} {H : Hp}, fX10_nameFrom_33  d a0 a1 a3 H = some (r, H') → Sn G (T0 G (some (.long r)) H') mX10_nameFrom 33 [some (.ref a0), some (.ref a1), none, some (.int a3), none, none] [] H := by
  intro d
  induction d with
  | zero => intro a0 a1 a3 H h; cases h
  | succ d ih => intro a0 a1 a3 H h; exact tbX10_nameFrom_33 (fun a0 a1 a3 H h => ih h) h
def bX10_nameFrom_2 (K2 : Nat → Nat → Int32 → Int32 → Hp → Option (Int64 × Hp)) (a0 : Nat) (a1 : Nat) (a2 : Int32) (a3 : Int32) (H : Hp) : Option (Int64 × Hp) :=
  if (5 ≤ a3 : Prop) then
    bd (pV H a0 9 22 (.int 0)) fun H1 =>
    gp (isO H1 a0 9 = true) (
      bd2 (FX10_meet a0 a2 H1) fun _ H3 =>
      fX10_nameFrom_33  4096 a0 a1 0 H3
      )
  else
    bd (gA H a0 9 15) fun x4 =>
    bd (sI H x4 0 a3 (-9)) fun H5 =>
    K2 a0 a1 a2 (a3 + 1) H5
set_option maxHeartbeats 4000000 in
set_option maxRecDepth 100000 in
theorem tbX10_nameFrom_2 {G : GG} {r : Int64} {H' : Hp} {K2 : Nat → Nat → Int32 → Int32 → Hp → Option (Int64 × Hp)} (hK2 : ∀ (a0 : Nat) (a1 : Nat) (a2 : Int32) (a3 : Int32) (H : Hp), K2 a0 a1 a2 a3 H = some (r, H') → Sn G (T0 G (some (.long r)) H') mX10_nameFrom 2 [some (.ref a0), some (.ref a1), some (.int a2), some (.int a3), none, none] [] H) {a0 : Nat} {a1 : Nat} {a2 : Int32} {a3 : Int32} {H : Hp} (h : bX10_nameFrom_2 K2 a0 a1 a2 a3 H = some (r, H')) : Sn G (T0 G (some (.long r)) H') mX10_nameFrom 2 [some (.ref a0), some (.ref a1), some (.int a2), some (.int a3), none, none] [] H := by
  unfold bX10_nameFrom_2 at h
  refine sn_blk _ kX10_nameFrom_2_0 (pc' := 4) (L' := [some (.ref a0), some (.ref a1), some (.int a2), some (.int a3), none, none]) (st' := [.int 5, .int a3]) rfl rfl ?_
  refine sn_icmp_ge (tgt := 21) dX10_nameFrom_4 (by decide) (fun c => ?_) (fun c => ?_)
  · rw [if_pos c] at h
    refine sn_blk _ kX10_nameFrom_2_1 (pc' := 23) (L' := [some (.ref a0), some (.ref a1), some (.int a2), some (.int a3), none, none]) (st' := [.int 0, .ref a0]) rfl rfl ?_
    obtain ⟨H1, hH1, h⟩ := bd_inv h
    refine sn_pI dX10_nameFrom_23 foX10_201 fpX10_22 hH1 ?_
    refine sn_blk _ kX10_nameFrom_2_2 (pc' := 28) (L' := [some (.ref a0), some (.ref a1), some (.int a2), some (.int a3), none, none]) (st' := [.int a2, .ref a0]) rfl rfl ?_
    obtain ⟨ho, h⟩ := gp_inv h
    obtain ⟨fs, ho⟩ := isO_inv ho
    obtain ⟨x2, H3, hx2, h⟩ := bd2_inv h
    refine sn_callv (av := [.int a2]) (st := []) (M2 := mX10_meet) dX10_nameFrom_28 msX10_meet mlX10_204 rfl rfl rfl rfl rfl ho (sX10_meet hx2) ?_
    refine sn_blk _ kX10_nameFrom_2_3 (pc' := 33) (L' := [some (.ref a0), some (.ref a1), some (.int a2), some (.int 0), none, none]) (st' := []) rfl rfl ?_
    refine sn_msk [true, true, false, true, true, true] (L2 := [some (.ref a0), some (.ref a1), none, some (.int 0), none, none]) rfl ?_
    exact tfX10_nameFrom_33  4096 h
  · rw [if_neg c] at h
    refine sn_blk _ kX10_nameFrom_2_4 (pc' := 8) (L' := [some (.ref a0), some (.ref a1), some (.int a2), some (.int a3), none, none]) (st' := [.ref a0]) rfl rfl ?_
    obtain ⟨x4, hx4, h⟩ := bd_inv h
    refine sn_gA dX10_nameFrom_8 foX10_41 hx4 ?_
    refine sn_blk _ kX10_nameFrom_2_5 (pc' := 14) (L' := [some (.ref a0), some (.ref a1), some (.int a2), some (.int a3), none, none]) (st' := [.int (-9), .int a3, .ref x4]) rfl rfl ?_
    obtain ⟨H5, hH5, h⟩ := bd_inv h
    refine sn_iast dX10_nameFrom_14 hH5 ?_
    refine sn_blk _ kX10_nameFrom_2_6 (pc' := 2) (L' := [some (.ref a0), some (.ref a1), some (.int a2), some (.int (a3 + 1)), none, none]) (st' := []) rfl rfl ?_
    exact hK2 _ _ _ _ _ h
def fX10_nameFrom_2  : Nat → Nat → Nat → Int32 → Int32 → Hp → Option (Int64 × Hp)
  | 0, _, _, _, _, _ => none
  | d + 1, a0, a1, a2, a3, H => bX10_nameFrom_2 (fX10_nameFrom_2  d) a0 a1 a2 a3 H
theorem tfX10_nameFrom_2 {G : GG} {r : Int64} {H' : Hp}   : ∀ (d : Nat) {a0 : Nat} {a1 : Nat} {a2 : Int32} {a3 : Int32} {H : Hp}, fX10_nameFrom_2  d a0 a1 a2 a3 H = some (r, H') → Sn G (T0 G (some (.long r)) H') mX10_nameFrom 2 [some (.ref a0), some (.ref a1), some (.int a2), some (.int a3), none, none] [] H := by
  intro d
  induction d with
  | zero => intro a0 a1 a2 a3 H h; cases h
  | succ d ih => intro a0 a1 a2 a3 H h; exact tbX10_nameFrom_2 (fun a0 a1 a2 a3 H h => ih h) h
def FX10_nameFrom  (a0 : Nat) (a1 : Nat) (a2 : Int32) (H : Hp) : Option (Int64 × Hp) :=
  fX10_nameFrom_2  4096 a0 a1 a2 0 H
set_option maxHeartbeats 4000000 in
set_option maxRecDepth 100000 in
theorem tFX10_nameFrom {G : GG} {r : Int64} {H' : Hp}   {a0 : Nat} {a1 : Nat} {a2 : Int32} {H : Hp} (h : FX10_nameFrom  a0 a1 a2 H = some (r, H')) : Sn G (T0 G (some (.long r)) H') mX10_nameFrom 0 [some (.ref a0), some (.ref a1), some (.int a2), none, none, none] [] H := by
  unfold FX10_nameFrom at h
  refine sn_blk _ kX10_nameFrom_0_0 (pc' := 2) (L' := [some (.ref a0), some (.ref a1), some (.int a2), some (.int 0), none, none]) (st' := []) rfl rfl ?_
  exact tfX10_nameFrom_2  4096 h
theorem sX10_nameFrom {G : GG} {r : Int64} {H' : Hp} {a0 : Nat} {a1 : Nat} {a2 : Int32} {H : Hp} (h : FX10_nameFrom a0 a1 a2 H = some (r, H')) : SM G mX10_nameFrom [.ref a0, .ref a1, .int a2] H (some (.long r)) H' := tFX10_nameFrom h
/-! SquareFoldsModel.leastName([II)J -/
theorem kX10_leastName_0_0 : decB cX10_leastName 0 [(.aload_n 1, .null), (.iload_n 2, .null)] = true := by decide +kernel
theorem kX10_leastName_0_1 : decB cX10_leastName 5 [(.istore_n 3, .null), (.aload_n 0, .null), (.aload_n 1, .null), (.iload_n 2, .null)] = true := by decide +kernel
theorem kX10_leastName_0_2 : decB cX10_leastName 12 [(.lstore 4, .null), (.iconst 0, .int 0), (.istore 6, .null)] = true := by decide +kernel
theorem kX10_leastName_17_0 : decB cX10_leastName 17 [(.iload 6, .null), (.aload_n 1, .null), (.iconst 0, .int 0)] = true := by decide +kernel
theorem kX10_leastName_17_1 : decB cX10_leastName 66 [(.lload 4, .null)] = true := by decide +kernel
theorem kX10_leastName_17_2 : decB cX10_leastName 25 [(.iload_n 3, .null), (.iload 6, .null)] = true := by decide +kernel
theorem kX10_leastName_17_3 : decB cX10_leastName 60 [(.iinc 6 1, .int 1), (.goto (-46), .retAddr 17)] = true := by decide +kernel
theorem kX10_leastName_17_4 : decB cX10_leastName 34 [(.aload_n 0, .null), (.aload_n 1, .null), (.iload 6, .null)] = true := by decide +kernel
theorem kX10_leastName_17_5 : decB cX10_leastName 41 [(.lstore 7, .null), (.lload 7, .null), (.lload 4, .null), (.lcmp, .null)] = true := by decide +kernel
theorem kX10_leastName_17_6 : decB cX10_leastName 56 [(.lload 4, .null), (.lstore 4, .null), (.iinc 6 1, .int 1), (.goto (-46), .retAddr 17)] = true := by decide +kernel
theorem kX10_leastName_17_7 : decB cX10_leastName 51 [(.lload 7, .null), (.goto 5, .retAddr 58), (.lstore 4, .null), (.iinc 6 1, .int 1), (.goto (-46), .retAddr 17)] = true := by decide +kernel
theorem dX10_leastName_2 : decode cX10_leastName 2 = .ok (.invokestatic 91, 3) := by decide +kernel
theorem dX10_leastName_9 : decode cX10_leastName 9 = .ok (.invokevirtual 210, 3) := by decide +kernel
theorem dX10_leastName_21 : decode cX10_leastName 21 = .ok (.iaload, 1) := by decide +kernel
theorem dX10_leastName_22 : decode cX10_leastName 22 = .ok (.if_icmp .ge 44, 3) := by decide +kernel
theorem dX10_leastName_28 : decode cX10_leastName 28 = .ok (.invokestatic 80, 3) := by decide +kernel
theorem dX10_leastName_31 : decode cX10_leastName 31 = .ok (.ifCond .eq 29, 3) := by decide +kernel
theorem dX10_leastName_38 : decode cX10_leastName 38 = .ok (.invokevirtual 210, 3) := by decide +kernel
theorem dX10_leastName_48 : decode cX10_leastName 48 = .ok (.ifCond .ge 8, 3) := by decide +kernel
theorem dX10_leastName_68 : decode cX10_leastName 68 = .ok (.lreturn, 1) := by decide +kernel
def bX10_leastName_17 (K17 : Nat → Nat → Int32 → Int64 → Int32 → Hp → Option (Int64 × Hp)) (a0 : Nat) (a1 : Nat) (a3 : Int32) (a4 : Int64) (a6 : Int32) (H : Hp) : Option (Int64 × Hp) :=
  bd (aI H a1 0 0) fun x1 =>
  if (x1 ≤ a6 : Prop) then
    some (a4, H)
  else
    bd2 (FX10_has a3 a6 H) fun x2 H3 =>
    if (x2 = 0 : Prop) then
      K17 a0 a1 a3 a4 (a6 + 1) H3
    else
      gp (isO H3 a0 9 = true) (
        bd2 (FX10_nameFrom a0 a1 a6 H3) fun x4 H5 =>
        if (0 ≤ (lg_cmp x4 a4) : Prop) then
          K17 a0 a1 a3 a4 (a6 + 1) H5
        else
          K17 a0 a1 a3 x4 (a6 + 1) H5
        )
set_option maxHeartbeats 4000000 in
set_option maxRecDepth 100000 in
theorem tbX10_leastName_17 {G : GG} {r : Int64} {H' : Hp} {K17 : Nat → Nat → Int32 → Int64 → Int32 → Hp → Option (Int64 × Hp)} (hK17 : ∀ (a0 : Nat) (a1 : Nat) (a3 : Int32) (a4 : Int64) (a6 : Int32) (H : Hp), K17 a0 a1 a3 a4 a6 H = some (r, H') → Sn G (T0 G (some (.long r)) H') mX10_leastName 17 [some (.ref a0), some (.ref a1), none, some (.int a3), some (.long a4), none, some (.int a6), none, none] [] H) {a0 : Nat} {a1 : Nat} {a3 : Int32} {a4 : Int64} {a6 : Int32} {H : Hp} (h : bX10_leastName_17 K17 a0 a1 a3 a4 a6 H = some (r, H')) : Sn G (T0 G (some (.long r)) H') mX10_leastName 17 [some (.ref a0), some (.ref a1), none, some (.int a3), some (.long a4), none, some (.int a6), none, none] [] H := by
  unfold bX10_leastName_17 at h
  refine sn_blk _ kX10_leastName_17_0 (pc' := 21) (L' := [some (.ref a0), some (.ref a1), none, some (.int a3), some (.long a4), none, some (.int a6), none, none]) (st' := [.int 0, .ref a1, .int a6]) rfl rfl ?_
  obtain ⟨x1, hx1, h⟩ := bd_inv h
  refine sn_iald dX10_leastName_21 hx1 ?_
  refine sn_icmp_ge (tgt := 66) dX10_leastName_22 (by decide) (fun c => ?_) (fun c => ?_)
  · rw [if_pos c] at h
    refine sn_blk _ kX10_leastName_17_1 (pc' := 68) (L' := [some (.ref a0), some (.ref a1), none, some (.int a3), some (.long a4), none, some (.int a6), none, none]) (st' := [.long a4]) rfl rfl ?_
    cases h
    exact sn_lret dX10_leastName_68 rfl
  · rw [if_neg c] at h
    refine sn_blk _ kX10_leastName_17_2 (pc' := 28) (L' := [some (.ref a0), some (.ref a1), none, some (.int a3), some (.long a4), none, some (.int a6), none, none]) (st' := [.int a6, .int a3]) rfl rfl ?_
    obtain ⟨x2, H3, hx2, h⟩ := bd2_inv h
    refine sn_calls (av := [.int a3, .int a6]) (st := []) (M2 := mX10_has) dX10_leastName_28 msX10_has mlX10_80 rfl rfl rfl rfl rfl (sX10_has hx2) ?_
    refine sn_if_eq (tgt := 60) dX10_leastName_31 (by decide) (fun c => ?_) (fun c => ?_)
    · rw [if_pos c] at h
      refine sn_blk _ kX10_leastName_17_3 (pc' := 17) (L' := [some (.ref a0), some (.ref a1), none, some (.int a3), some (.long a4), none, some (.int (a6 + 1)), none, none]) (st' := []) rfl rfl ?_
      exact hK17 _ _ _ _ _ _ h
    · rw [if_neg c] at h
      refine sn_blk _ kX10_leastName_17_4 (pc' := 38) (L' := [some (.ref a0), some (.ref a1), none, some (.int a3), some (.long a4), none, some (.int a6), none, none]) (st' := [.int a6, .ref a1, .ref a0]) rfl rfl ?_
      obtain ⟨ho, h⟩ := gp_inv h
      obtain ⟨fs, ho⟩ := isO_inv ho
      obtain ⟨x4, H5, hx4, h⟩ := bd2_inv h
      refine sn_callv (av := [.ref a1, .int a6]) (st := []) (M2 := mX10_nameFrom) dX10_leastName_38 msX10_nameFrom mlX10_210 rfl rfl rfl rfl rfl ho (sX10_nameFrom hx4) ?_
      refine sn_blk _ kX10_leastName_17_5 (pc' := 48) (L' := [some (.ref a0), some (.ref a1), none, some (.int a3), some (.long a4), none, some (.int a6), some (.long x4), none]) (st' := [.int (lg_cmp x4 a4)]) rfl rfl ?_
      refine sn_if_ge (tgt := 56) dX10_leastName_48 (by decide) (fun c => ?_) (fun c => ?_)
      · rw [if_pos c] at h
        refine sn_blk _ kX10_leastName_17_6 (pc' := 17) (L' := [some (.ref a0), some (.ref a1), none, some (.int a3), some (.long a4), none, some (.int (a6 + 1)), some (.long x4), none]) (st' := []) rfl rfl ?_
        refine sn_msk [true, true, true, true, true, true, true, false, true] (L2 := [some (.ref a0), some (.ref a1), none, some (.int a3), some (.long a4), none, some (.int (a6 + 1)), none, none]) rfl ?_
        exact hK17 _ _ _ _ _ _ h
      · rw [if_neg c] at h
        refine sn_blk _ kX10_leastName_17_7 (pc' := 17) (L' := [some (.ref a0), some (.ref a1), none, some (.int a3), some (.long x4), none, some (.int (a6 + 1)), some (.long x4), none]) (st' := []) rfl rfl ?_
        refine sn_msk [true, true, true, true, true, true, true, false, true] (L2 := [some (.ref a0), some (.ref a1), none, some (.int a3), some (.long x4), none, some (.int (a6 + 1)), none, none]) rfl ?_
        exact hK17 _ _ _ _ _ _ h
def fX10_leastName_17  : Nat → Nat → Nat → Int32 → Int64 → Int32 → Hp → Option (Int64 × Hp)
  | 0, _, _, _, _, _, _ => none
  | d + 1, a0, a1, a3, a4, a6, H => bX10_leastName_17 (fX10_leastName_17  d) a0 a1 a3 a4 a6 H
theorem tfX10_leastName_17 {G : GG} {r : Int64} {H' : Hp}   : ∀ (d : Nat) {a0 : Nat} {a1 : Nat} {a3 : Int32} {a4 : Int64} {a6 : Int32} {H : Hp}, fX10_leastName_17  d a0 a1 a3 a4 a6 H = some (r, H') → Sn G (T0 G (some (.long r)) H') mX10_leastName 17 [some (.ref a0), some (.ref a1), none, some (.int a3), some (.long a4), none, some (.int a6), none, none] [] H := by
  intro d
  induction d with
  | zero => intro a0 a1 a3 a4 a6 H h; cases h
  | succ d ih => intro a0 a1 a3 a4 a6 H h; exact tbX10_leastName_17 (fun a0 a1 a3 a4 a6 H h => ih h) h
def FX10_leastName  (a0 : Nat) (a1 : Nat) (a2 : Int32) (H : Hp) : Option (Int64 × Hp) :=
  bd2 (FX10_pieceOf a1 a2 H) fun x1 H2 =>
  gp (isO H2 a0 9 = true) (
    bd2 (FX10_nameFrom a0 a1 a2 H2) fun x3 H4 =>
    fX10_leastName_17  4096 a0 a1 x1 x3 0 H4
    )
set_option maxHeartbeats 4000000 in
set_option maxRecDepth 100000 in
theorem tFX10_leastName {G : GG} {r : Int64} {H' : Hp}   {a0 : Nat} {a1 : Nat} {a2 : Int32} {H : Hp} (h : FX10_leastName  a0 a1 a2 H = some (r, H')) : Sn G (T0 G (some (.long r)) H') mX10_leastName 0 [some (.ref a0), some (.ref a1), some (.int a2), none, none, none, none, none, none] [] H := by
  unfold FX10_leastName at h
  refine sn_blk _ kX10_leastName_0_0 (pc' := 2) (L' := [some (.ref a0), some (.ref a1), some (.int a2), none, none, none, none, none, none]) (st' := [.int a2, .ref a1]) rfl rfl ?_
  obtain ⟨x1, H2, hx1, h⟩ := bd2_inv h
  refine sn_calls (av := [.ref a1, .int a2]) (st := []) (M2 := mX10_pieceOf) dX10_leastName_2 msX10_pieceOf mlX10_91 rfl rfl rfl rfl rfl (sX10_pieceOf hx1) ?_
  refine sn_blk _ kX10_leastName_0_1 (pc' := 9) (L' := [some (.ref a0), some (.ref a1), some (.int a2), some (.int x1), none, none, none, none, none]) (st' := [.int a2, .ref a1, .ref a0]) rfl rfl ?_
  obtain ⟨ho, h⟩ := gp_inv h
  obtain ⟨fs, ho⟩ := isO_inv ho
  obtain ⟨x3, H4, hx3, h⟩ := bd2_inv h
  refine sn_callv (av := [.ref a1, .int a2]) (st := []) (M2 := mX10_nameFrom) dX10_leastName_9 msX10_nameFrom mlX10_210 rfl rfl rfl rfl rfl ho (sX10_nameFrom hx3) ?_
  refine sn_blk _ kX10_leastName_0_2 (pc' := 17) (L' := [some (.ref a0), some (.ref a1), some (.int a2), some (.int x1), some (.long x3), none, some (.int 0), none, none]) (st' := []) rfl rfl ?_
  refine sn_msk [true, true, false, true, true, true, true, true, true] (L2 := [some (.ref a0), some (.ref a1), none, some (.int x1), some (.long x3), none, some (.int 0), none, none]) rfl ?_
  exact tfX10_leastName_17  4096 h
theorem sX10_leastName {G : GG} {r : Int64} {H' : Hp} {a0 : Nat} {a1 : Nat} {a2 : Int32} {H : Hp} (h : FX10_leastName a0 a1 a2 H = some (r, H')) : SM G mX10_leastName [.ref a0, .ref a1, .int a2] H (some (.long r)) H' := tFX10_leastName h
/-! SquareFoldsModel.name(II)J -/
theorem kX10_name_0_0 : decB cX10_name 0 [(.aload_n 0, .null), (.iload_n 1, .null)] = true := by decide +kernel
theorem kX10_name_0_1 : decB cX10_name 12 [(.iload_n 2, .null), (.i2l, .null), (.lconst 0, .long 0), (.lconst 1, .long 1)] = true := by decide +kernel
theorem kX10_name_0_2 : decB cX10_name 26 [(.iload_n 2, .null)] = true := by decide +kernel
theorem kX10_name_0_3 : decB cX10_name 42 [(.aload_n 0, .null), (.aload_n 0, .null)] = true := by decide +kernel
theorem kX10_name_0_4 : decB cX10_name 47 [(.iload_n 1, .null)] = true := by decide +kernel
theorem kX10_name_0_5 : decB cX10_name 30 [(.aload_n 0, .null), (.aload_n 0, .null)] = true := by decide +kernel
theorem kX10_name_0_6 : decB cX10_name 35 [(.iload_n 1, .null)] = true := by decide +kernel
theorem kX10_name_0_7 : decB cX10_name 39 [(.goto 12, .retAddr 51)] = true := by decide +kernel
theorem dX10_name_2 : decode cX10_name 2 = .ok (.invokevirtual 185, 3) := by decide +kernel
theorem dX10_name_5 : decode cX10_name 5 = .ok (.ifCond .ne 7, 3) := by decide +kernel
theorem dX10_name_8 : decode cX10_name 8 = .ok (.ldc2_w 214, 3) := by decide +kernel
theorem dX10_name_11 : decode cX10_name 11 = .ok (.lreturn, 1) := by decide +kernel
theorem dX10_name_16 : decode cX10_name 16 = .ok (.invokestatic 127, 3) := by decide +kernel
theorem dX10_name_19 : decode cX10_name 19 = .ok (.ifCond .ne 7, 3) := by decide +kernel
theorem dX10_name_22 : decode cX10_name 22 = .ok (.ldc2_w 216, 3) := by decide +kernel
theorem dX10_name_25 : decode cX10_name 25 = .ok (.lreturn, 1) := by decide +kernel
theorem dX10_name_27 : decode cX10_name 27 = .ok (.ifCond .ne 15, 3) := by decide +kernel
theorem dX10_name_32 : decode cX10_name 32 = .ok (.getfield 13, 3) := by decide +kernel
theorem dX10_name_36 : decode cX10_name 36 = .ok (.invokevirtual 210, 3) := by decide +kernel
theorem dX10_name_44 : decode cX10_name 44 = .ok (.getfield 13, 3) := by decide +kernel
theorem dX10_name_48 : decode cX10_name 48 = .ok (.invokevirtual 218, 3) := by decide +kernel
theorem dX10_name_51 : decode cX10_name 51 = .ok (.lreturn, 1) := by decide +kernel
def FX10_name  (a0 : Nat) (a1 : Int32) (a2 : Int32) (H : Hp) : Option (Int64 × Hp) :=
  gp (isO H a0 9 = true) (
    bd2 (FX10_isSquare a0 a1 H) fun x1 H2 =>
    if (x1 = 0 : Prop) then
      some ((-1), H2)
    else
      bd2 (FX10_in (Int32.toInt64 a2) 0 1 H2) fun x3 H4 =>
      if (x3 = 0 : Prop) then
        some ((-2), H4)
      else
        if (a2 = 0 : Prop) then
          bd (gA H4 a0 9 2) fun x8 =>
          gp (isO H4 a0 9 = true) (
            bd2 (FX10_nameFrom a0 x8 a1 H4) fun x9 H10 =>
            some (x9, H10)
            )
        else
          bd (gA H4 a0 9 2) fun x5 =>
          gp (isO H4 a0 9 = true) (
            bd2 (FX10_leastName a0 x5 a1 H4) fun x6 H7 =>
            some (x6, H7)
            )
    )
set_option maxHeartbeats 4000000 in
set_option maxRecDepth 100000 in
theorem tFX10_name {G : GG} {r : Int64} {H' : Hp}   {a0 : Nat} {a1 : Int32} {a2 : Int32} {H : Hp} (h : FX10_name  a0 a1 a2 H = some (r, H')) : Sn G (T0 G (some (.long r)) H') mX10_name 0 [some (.ref a0), some (.int a1), some (.int a2)] [] H := by
  unfold FX10_name at h
  refine sn_blk _ kX10_name_0_0 (pc' := 2) (L' := [some (.ref a0), some (.int a1), some (.int a2)]) (st' := [.int a1, .ref a0]) rfl rfl ?_
  obtain ⟨ho, h⟩ := gp_inv h
  obtain ⟨fs, ho⟩ := isO_inv ho
  obtain ⟨x1, H2, hx1, h⟩ := bd2_inv h
  refine sn_callv (av := [.int a1]) (st := []) (M2 := mX10_isSquare) dX10_name_2 msX10_isSquare mlX10_185 rfl rfl rfl rfl rfl ho (sX10_isSquare hx1) ?_
  refine sn_if_ne (tgt := 12) dX10_name_5 (by decide) (fun c => ?_) (fun c => ?_)
  · rw [if_neg c] at h
    refine sn_blk _ kX10_name_0_1 (pc' := 16) (L' := [some (.ref a0), some (.int a1), some (.int a2)]) (st' := [.long 1, .long 0, .long (Int32.toInt64 a2)]) rfl rfl ?_
    obtain ⟨x3, H4, hx3, h⟩ := bd2_inv h
    refine sn_calls (av := [.long (Int32.toInt64 a2), .long 0, .long 1]) (st := []) (M2 := mX10_in) dX10_name_16 msX10_in mlX10_127 rfl rfl rfl rfl rfl (sX10_in hx3) ?_
    refine sn_if_ne (tgt := 26) dX10_name_19 (by decide) (fun c => ?_) (fun c => ?_)
    · rw [if_neg c] at h
      refine sn_blk _ kX10_name_0_2 (pc' := 27) (L' := [some (.ref a0), some (.int a1), some (.int a2)]) (st' := [.int a2]) rfl rfl ?_
      refine sn_if_ne (tgt := 42) dX10_name_27 (by decide) (fun c => ?_) (fun c => ?_)
      · rw [if_neg c] at h
        refine sn_blk _ kX10_name_0_3 (pc' := 44) (L' := [some (.ref a0), some (.int a1), some (.int a2)]) (st' := [.ref a0, .ref a0]) rfl rfl ?_
        obtain ⟨x5, hx5, h⟩ := bd_inv h
        refine sn_gA dX10_name_44 foX10_13 hx5 ?_
        refine sn_blk _ kX10_name_0_4 (pc' := 48) (L' := [some (.ref a0), some (.int a1), some (.int a2)]) (st' := [.int a1, .ref x5, .ref a0]) rfl rfl ?_
        obtain ⟨ho, h⟩ := gp_inv h
        obtain ⟨fs, ho⟩ := isO_inv ho
        obtain ⟨x6, H7, hx6, h⟩ := bd2_inv h
        refine sn_callv (av := [.ref x5, .int a1]) (st := []) (M2 := mX10_leastName) dX10_name_48 msX10_leastName mlX10_218 rfl rfl rfl rfl rfl ho (sX10_leastName hx6) ?_
        cases h
        exact sn_lret dX10_name_51 rfl
      · rw [if_pos c] at h
        refine sn_blk _ kX10_name_0_5 (pc' := 32) (L' := [some (.ref a0), some (.int a1), some (.int a2)]) (st' := [.ref a0, .ref a0]) rfl rfl ?_
        obtain ⟨x8, hx8, h⟩ := bd_inv h
        refine sn_gA dX10_name_32 foX10_13 hx8 ?_
        refine sn_blk _ kX10_name_0_6 (pc' := 36) (L' := [some (.ref a0), some (.int a1), some (.int a2)]) (st' := [.int a1, .ref x8, .ref a0]) rfl rfl ?_
        obtain ⟨ho, h⟩ := gp_inv h
        obtain ⟨fs, ho⟩ := isO_inv ho
        obtain ⟨x9, H10, hx9, h⟩ := bd2_inv h
        refine sn_callv (av := [.ref x8, .int a1]) (st := []) (M2 := mX10_nameFrom) dX10_name_36 msX10_nameFrom mlX10_210 rfl rfl rfl rfl rfl ho (sX10_nameFrom hx9) ?_
        refine sn_blk _ kX10_name_0_7 (pc' := 51) (L' := [some (.ref a0), some (.int a1), some (.int a2)]) (st' := [.long x9]) rfl rfl ?_
        cases h
        exact sn_lret dX10_name_51 rfl
    · rw [if_pos c] at h
      refine sn_ldc2 dX10_name_22 kcX10_216 ?_
      cases h
      exact sn_lret dX10_name_25 rfl
  · rw [if_pos c] at h
    refine sn_ldc2 dX10_name_8 kcX10_214 ?_
    cases h
    exact sn_lret dX10_name_11 rfl
theorem sX10_name {G : GG} {r : Int64} {H' : Hp} {a0 : Nat} {a1 : Int32} {a2 : Int32} {H : Hp} (h : FX10_name a0 a1 a2 H = some (r, H')) : SM G mX10_name [.ref a0, .int a1, .int a2] H (some (.long r)) H' := tFX10_name h
/-! SquareFoldsModel.note()V -/
theorem kX10_note_0_0 : decB cX10_note 0 [(.iconst 0, .int 0), (.istore_n 1, .null)] = true := by decide +kernel
theorem kX10_note_2_0 : decB cX10_note 2 [(.iload_n 1, .null), (.bipush 11, .int 11)] = true := by decide +kernel
theorem kX10_note_2_1 : decB cX10_note 34 [(.aload_n 0, .null), (.aload_n 0, .null)] = true := by decide +kernel
theorem kX10_note_2_2 : decB cX10_note 39 [(.iconst 1, .int 1), (.iadd, .null), (.bipush 14, .int 14)] = true := by decide +kernel
theorem kX10_note_2_3 : decB cX10_note 47 [(.aload_n 0, .null), (.aload_n 0, .null)] = true := by decide +kernel
theorem kX10_note_2_4 : decB cX10_note 52 [(.bipush 14, .int 14)] = true := by decide +kernel
theorem kX10_note_2_5 : decB cX10_note 66 [(.bipush 14, .int 14)] = true := by decide +kernel
theorem kX10_note_2_6 : decB cX10_note 57 [(.aload_n 0, .null)] = true := by decide +kernel
theorem kX10_note_2_7 : decB cX10_note 61 [(.iconst 1, .int 1), (.iadd, .null), (.goto 5, .retAddr 68)] = true := by decide +kernel
theorem kX10_note_2_8 : decB cX10_note 8 [(.aload_n 0, .null)] = true := by decide +kernel
theorem kX10_note_2_9 : decB cX10_note 12 [(.bipush 11, .int 11), (.aload_n 0, .null)] = true := by decide +kernel
theorem kX10_note_2_10 : decB cX10_note 18 [(.imul, .null), (.iload_n 1, .null), (.iadd, .null), (.aload_n 0, .null)] = true := by decide +kernel
theorem kX10_note_2_11 : decB cX10_note 25 [(.iload_n 1, .null)] = true := by decide +kernel
theorem kX10_note_2_12 : decB cX10_note 28 [(.iinc 1 1, .int 1), (.goto (-29), .retAddr 2)] = true := by decide +kernel
theorem dX10_note_5 : decode cX10_note 5 = .ok (.if_icmp .ge 29, 3) := by decide +kernel
theorem dX10_note_9 : decode cX10_note 9 = .ok (.getfield 25, 3) := by decide +kernel
theorem dX10_note_15 : decode cX10_note 15 = .ok (.getfield 221, 3) := by decide +kernel
theorem dX10_note_22 : decode cX10_note 22 = .ok (.getfield 13, 3) := by decide +kernel
theorem dX10_note_26 : decode cX10_note 26 = .ok (.iaload, 1) := by decide +kernel
theorem dX10_note_27 : decode cX10_note 27 = .ok (.iastore, 1) := by decide +kernel
theorem dX10_note_36 : decode cX10_note 36 = .ok (.getfield 221, 3) := by decide +kernel
theorem dX10_note_43 : decode cX10_note 43 = .ok (.irem, 1) := by decide +kernel
theorem dX10_note_44 : decode cX10_note 44 = .ok (.putfield 221, 3) := by decide +kernel
theorem dX10_note_49 : decode cX10_note 49 = .ok (.getfield 147, 3) := by decide +kernel
theorem dX10_note_54 : decode cX10_note 54 = .ok (.if_icmp .ge 12, 3) := by decide +kernel
theorem dX10_note_58 : decode cX10_note 58 = .ok (.getfield 147, 3) := by decide +kernel
theorem dX10_note_68 : decode cX10_note 68 = .ok (.putfield 147, 3) := by decide +kernel
theorem dX10_note_71 : decode cX10_note 71 = .ok (.return_, 1) := by decide +kernel
def fX10_note_68  (s0 : Nat) (s1 : Int32) (H : Hp) : Option (Unit × Hp) :=
  bd (pV H s0 9 7 (.int s1)) fun H1 =>
  some ((), H1)
set_option maxHeartbeats 4000000 in
set_option maxRecDepth 100000 in
theorem tfX10_note_68 {G : GG} {r : Unit} {H' : Hp}   {s0 : Nat} {s1 : Int32} {H : Hp} (h : fX10_note_68  s0 s1 H = some (r, H')) : Sn G (T0 G none H') mX10_note 68 [none, none] [.int s1, .ref s0] H := by
  unfold fX10_note_68 at h
  obtain ⟨H1, hH1, h⟩ := bd_inv h
  refine sn_pI dX10_note_68 foX10_147 fpX10_7 hH1 ?_
  cases h
  exact sn_vret dX10_note_71 rfl
def bX10_note_2 (K2 : Nat → Int32 → Hp → Option (Unit × Hp)) (a0 : Nat) (a1 : Int32) (H : Hp) : Option (Unit × Hp) :=
  if (11 ≤ a1 : Prop) then
    bd (gI H a0 9 8) fun x1 =>
    bd (pV H a0 9 8 (.int (rI (x1 + 1) 14))) fun H2 =>
    bd (gI H2 a0 9 7) fun x3 =>
    if (14 ≤ x3 : Prop) then
      fX10_note_68  a0 14 H2
    else
      bd (gI H2 a0 9 7) fun x4 =>
      fX10_note_68  a0 (x4 + 1) H2
  else
    bd (gA H a0 9 6) fun x5 =>
    bd (gI H a0 9 8) fun x6 =>
    bd (gA H a0 9 2) fun x7 =>
    bd (aI H x7 0 a1) fun x8 =>
    bd (sI H x5 0 ((11 * x6) + a1) x8) fun H9 =>
    K2 a0 (a1 + 1) H9
set_option maxHeartbeats 4000000 in
set_option maxRecDepth 100000 in
theorem tbX10_note_2 {G : GG} {r : Unit} {H' : Hp} {K2 : Nat → Int32 → Hp → Option (Unit × Hp)} (hK2 : ∀ (a0 : Nat) (a1 : Int32) (H : Hp), K2 a0 a1 H = some (r, H') → Sn G (T0 G none H') mX10_note 2 [some (.ref a0), some (.int a1)] [] H) {a0 : Nat} {a1 : Int32} {H : Hp} (h : bX10_note_2 K2 a0 a1 H = some (r, H')) : Sn G (T0 G none H') mX10_note 2 [some (.ref a0), some (.int a1)] [] H := by
  unfold bX10_note_2 at h
  refine sn_blk _ kX10_note_2_0 (pc' := 5) (L' := [some (.ref a0), some (.int a1)]) (st' := [.int 11, .int a1]) rfl rfl ?_
  refine sn_icmp_ge (tgt := 34) dX10_note_5 (by decide) (fun c => ?_) (fun c => ?_)
  · rw [if_pos c] at h
    refine sn_blk _ kX10_note_2_1 (pc' := 36) (L' := [some (.ref a0), some (.int a1)]) (st' := [.ref a0, .ref a0]) rfl rfl ?_
    obtain ⟨x1, hx1, h⟩ := bd_inv h
    refine sn_gI dX10_note_36 foX10_221 hx1 ?_
    refine sn_blk _ kX10_note_2_2 (pc' := 43) (L' := [some (.ref a0), some (.int a1)]) (st' := [.int 14, .int (x1 + 1), .ref a0]) rfl rfl ?_
    refine sn_irem dX10_note_43 (by decide) ?_
    obtain ⟨H2, hH2, h⟩ := bd_inv h
    refine sn_pI dX10_note_44 foX10_221 fpX10_8 hH2 ?_
    refine sn_blk _ kX10_note_2_3 (pc' := 49) (L' := [some (.ref a0), some (.int a1)]) (st' := [.ref a0, .ref a0]) rfl rfl ?_
    obtain ⟨x3, hx3, h⟩ := bd_inv h
    refine sn_gI dX10_note_49 foX10_147 hx3 ?_
    refine sn_blk _ kX10_note_2_4 (pc' := 54) (L' := [some (.ref a0), some (.int a1)]) (st' := [.int 14, .int x3, .ref a0]) rfl rfl ?_
    refine sn_icmp_ge (tgt := 66) dX10_note_54 (by decide) (fun c => ?_) (fun c => ?_)
    · rw [if_pos c] at h
      refine sn_blk _ kX10_note_2_5 (pc' := 68) (L' := [some (.ref a0), some (.int a1)]) (st' := [.int 14, .ref a0]) rfl rfl ?_
      refine sn_msk [false, false] (L2 := [none, none]) rfl ?_
      exact tfX10_note_68  h
    · rw [if_neg c] at h
      refine sn_blk _ kX10_note_2_6 (pc' := 58) (L' := [some (.ref a0), some (.int a1)]) (st' := [.ref a0, .ref a0]) rfl rfl ?_
      obtain ⟨x4, hx4, h⟩ := bd_inv h
      refine sn_gI dX10_note_58 foX10_147 hx4 ?_
      refine sn_blk _ kX10_note_2_7 (pc' := 68) (L' := [some (.ref a0), some (.int a1)]) (st' := [.int (x4 + 1), .ref a0]) rfl rfl ?_
      refine sn_msk [false, false] (L2 := [none, none]) rfl ?_
      exact tfX10_note_68  h
  · rw [if_neg c] at h
    refine sn_blk _ kX10_note_2_8 (pc' := 9) (L' := [some (.ref a0), some (.int a1)]) (st' := [.ref a0]) rfl rfl ?_
    obtain ⟨x5, hx5, h⟩ := bd_inv h
    refine sn_gA dX10_note_9 foX10_25 hx5 ?_
    refine sn_blk _ kX10_note_2_9 (pc' := 15) (L' := [some (.ref a0), some (.int a1)]) (st' := [.ref a0, .int 11, .ref x5]) rfl rfl ?_
    obtain ⟨x6, hx6, h⟩ := bd_inv h
    refine sn_gI dX10_note_15 foX10_221 hx6 ?_
    refine sn_blk _ kX10_note_2_10 (pc' := 22) (L' := [some (.ref a0), some (.int a1)]) (st' := [.ref a0, .int ((11 * x6) + a1), .ref x5]) rfl rfl ?_
    obtain ⟨x7, hx7, h⟩ := bd_inv h
    refine sn_gA dX10_note_22 foX10_13 hx7 ?_
    refine sn_blk _ kX10_note_2_11 (pc' := 26) (L' := [some (.ref a0), some (.int a1)]) (st' := [.int a1, .ref x7, .int ((11 * x6) + a1), .ref x5]) rfl rfl ?_
    obtain ⟨x8, hx8, h⟩ := bd_inv h
    refine sn_iald dX10_note_26 hx8 ?_
    obtain ⟨H9, hH9, h⟩ := bd_inv h
    refine sn_iast dX10_note_27 hH9 ?_
    refine sn_blk _ kX10_note_2_12 (pc' := 2) (L' := [some (.ref a0), some (.int (a1 + 1))]) (st' := []) rfl rfl ?_
    exact hK2 _ _ _ h
def fX10_note_2  : Nat → Nat → Int32 → Hp → Option (Unit × Hp)
  | 0, _, _, _ => none
  | d + 1, a0, a1, H => bX10_note_2 (fX10_note_2  d) a0 a1 H
theorem tfX10_note_2 {G : GG} {r : Unit} {H' : Hp}   : ∀ (d : Nat) {a0 : Nat} {a1 : Int32} {H : Hp}, fX10_note_2  d a0 a1 H = some (r, H') → Sn G (T0 G none H') mX10_note 2 [some (.ref a0), some (.int a1)] [] H := by
  intro d
  induction d with
  | zero => intro a0 a1 H h; cases h
  | succ d ih => intro a0 a1 H h; exact tbX10_note_2 (fun a0 a1 H h => ih h) h
def FX10_note  (a0 : Nat) (H : Hp) : Option (Unit × Hp) :=
  fX10_note_2  4096 a0 0 H
set_option maxHeartbeats 4000000 in
set_option maxRecDepth 100000 in
theorem tFX10_note {G : GG} {r : Unit} {H' : Hp}   {a0 : Nat} {H : Hp} (h : FX10_note  a0 H = some (r, H')) : Sn G (T0 G none H') mX10_note 0 [some (.ref a0), none] [] H := by
  unfold FX10_note at h
  refine sn_blk _ kX10_note_0_0 (pc' := 2) (L' := [some (.ref a0), some (.int 0)]) (st' := []) rfl rfl ?_
  exact tfX10_note_2  4096 h
theorem sX10_note {G : GG} {r : Unit} {H' : Hp} {a0 : Nat} {H : Hp} (h : FX10_note a0 H = some (r, H')) : SM G mX10_note [.ref a0] H none H' := tFX10_note h
/-! SquareFoldsModel.layAside([I)V -/
theorem kX10_layAside_0_0 : decB cX10_layAside 0 [(.iconst 0, .int 0), (.istore_n 2, .null)] = true := by decide +kernel
theorem kX10_layAside_2_0 : decB cX10_layAside 2 [(.iload_n 2, .null), (.bipush 10, .int 10)] = true := by decide +kernel
theorem kX10_layAside_2_1 : decB cX10_layAside 8 [(.aload_n 0, .null)] = true := by decide +kernel
theorem kX10_layAside_2_2 : decB cX10_layAside 12 [(.iload_n 2, .null), (.aload_n 1, .null), (.iconst 1, .int 1), (.iload_n 2, .null), (.iadd, .null)] = true := by decide +kernel
theorem kX10_layAside_2_3 : decB cX10_layAside 19 [(.iinc 2 1, .int 1), (.goto (-20), .retAddr 2)] = true := by decide +kernel
theorem dX10_layAside_5 : decode cX10_layAside 5 = .ok (.if_icmp .ge 20, 3) := by decide +kernel
theorem dX10_layAside_9 : decode cX10_layAside 9 = .ok (.getfield 22, 3) := by decide +kernel
theorem dX10_layAside_17 : decode cX10_layAside 17 = .ok (.iaload, 1) := by decide +kernel
theorem dX10_layAside_18 : decode cX10_layAside 18 = .ok (.iastore, 1) := by decide +kernel
theorem dX10_layAside_25 : decode cX10_layAside 25 = .ok (.return_, 1) := by decide +kernel
def bX10_layAside_2 (K2 : Nat → Nat → Int32 → Hp → Option (Unit × Hp)) (a0 : Nat) (a1 : Nat) (a2 : Int32) (H : Hp) : Option (Unit × Hp) :=
  if (10 ≤ a2 : Prop) then
    some ((), H)
  else
    bd (gA H a0 9 5) fun x1 =>
    bd (aI H a1 0 (1 + a2)) fun x2 =>
    bd (sI H x1 0 a2 x2) fun H3 =>
    K2 a0 a1 (a2 + 1) H3
set_option maxHeartbeats 4000000 in
set_option maxRecDepth 100000 in
theorem tbX10_layAside_2 {G : GG} {r : Unit} {H' : Hp} {K2 : Nat → Nat → Int32 → Hp → Option (Unit × Hp)} (hK2 : ∀ (a0 : Nat) (a1 : Nat) (a2 : Int32) (H : Hp), K2 a0 a1 a2 H = some (r, H') → Sn G (T0 G none H') mX10_layAside 2 [some (.ref a0), some (.ref a1), some (.int a2)] [] H) {a0 : Nat} {a1 : Nat} {a2 : Int32} {H : Hp} (h : bX10_layAside_2 K2 a0 a1 a2 H = some (r, H')) : Sn G (T0 G none H') mX10_layAside 2 [some (.ref a0), some (.ref a1), some (.int a2)] [] H := by
  unfold bX10_layAside_2 at h
  refine sn_blk _ kX10_layAside_2_0 (pc' := 5) (L' := [some (.ref a0), some (.ref a1), some (.int a2)]) (st' := [.int 10, .int a2]) rfl rfl ?_
  refine sn_icmp_ge (tgt := 25) dX10_layAside_5 (by decide) (fun c => ?_) (fun c => ?_)
  · rw [if_pos c] at h
    cases h
    exact sn_vret dX10_layAside_25 rfl
  · rw [if_neg c] at h
    refine sn_blk _ kX10_layAside_2_1 (pc' := 9) (L' := [some (.ref a0), some (.ref a1), some (.int a2)]) (st' := [.ref a0]) rfl rfl ?_
    obtain ⟨x1, hx1, h⟩ := bd_inv h
    refine sn_gA dX10_layAside_9 foX10_22 hx1 ?_
    refine sn_blk _ kX10_layAside_2_2 (pc' := 17) (L' := [some (.ref a0), some (.ref a1), some (.int a2)]) (st' := [.int (1 + a2), .ref a1, .int a2, .ref x1]) rfl rfl ?_
    obtain ⟨x2, hx2, h⟩ := bd_inv h
    refine sn_iald dX10_layAside_17 hx2 ?_
    obtain ⟨H3, hH3, h⟩ := bd_inv h
    refine sn_iast dX10_layAside_18 hH3 ?_
    refine sn_blk _ kX10_layAside_2_3 (pc' := 2) (L' := [some (.ref a0), some (.ref a1), some (.int (a2 + 1))]) (st' := []) rfl rfl ?_
    exact hK2 _ _ _ _ h
def fX10_layAside_2  : Nat → Nat → Nat → Int32 → Hp → Option (Unit × Hp)
  | 0, _, _, _, _ => none
  | d + 1, a0, a1, a2, H => bX10_layAside_2 (fX10_layAside_2  d) a0 a1 a2 H
theorem tfX10_layAside_2 {G : GG} {r : Unit} {H' : Hp}   : ∀ (d : Nat) {a0 : Nat} {a1 : Nat} {a2 : Int32} {H : Hp}, fX10_layAside_2  d a0 a1 a2 H = some (r, H') → Sn G (T0 G none H') mX10_layAside 2 [some (.ref a0), some (.ref a1), some (.int a2)] [] H := by
  intro d
  induction d with
  | zero => intro a0 a1 a2 H h; cases h
  | succ d ih => intro a0 a1 a2 H h; exact tbX10_layAside_2 (fun a0 a1 a2 H h => ih h) h
def FX10_layAside  (a0 : Nat) (a1 : Nat) (H : Hp) : Option (Unit × Hp) :=
  fX10_layAside_2  4096 a0 a1 0 H
set_option maxHeartbeats 4000000 in
set_option maxRecDepth 100000 in
theorem tFX10_layAside {G : GG} {r : Unit} {H' : Hp}   {a0 : Nat} {a1 : Nat} {H : Hp} (h : FX10_layAside  a0 a1 H = some (r, H')) : Sn G (T0 G none H') mX10_layAside 0 [some (.ref a0), some (.ref a1), none] [] H := by
  unfold FX10_layAside at h
  refine sn_blk _ kX10_layAside_0_0 (pc' := 2) (L' := [some (.ref a0), some (.ref a1), some (.int 0)]) (st' := []) rfl rfl ?_
  exact tfX10_layAside_2  4096 h
theorem sX10_layAside {G : GG} {r : Unit} {H' : Hp} {a0 : Nat} {a1 : Nat} {H : Hp} (h : FX10_layAside a0 a1 H = some (r, H')) : SM G mX10_layAside [.ref a0, .ref a1] H none H' := tFX10_layAside h
/-! SquareFoldsModel.side([I)V -/
theorem kX10_side_0_0 : decB cX10_side 0 [(.aload_n 0, .null), (.aload_n 1, .null)] = true := by decide +kernel
theorem kX10_side_0_1 : decB cX10_side 5 [(.iconst 0, .int 0), (.istore_n 2, .null)] = true := by decide +kernel
theorem kX10_side_7_0 : decB cX10_side 7 [(.iload_n 2, .null), (.aload_n 1, .null), (.iconst 0, .int 0)] = true := by decide +kernel
theorem kX10_side_7_1 : decB cX10_side 14 [(.aload_n 1, .null), (.bipush 6, .int 6), (.aload_n 0, .null)] = true := by decide +kernel
theorem kX10_side_7_2 : decB cX10_side 21 [(.iload_n 2, .null)] = true := by decide +kernel
theorem kX10_side_7_3 : decB cX10_side 23 [(.iadd, .null), (.aload_n 0, .null)] = true := by decide +kernel
theorem kX10_side_7_4 : decB cX10_side 28 [(.iconst 5, .int 5), (.iload_n 2, .null), (.iadd, .null)] = true := by decide +kernel
theorem kX10_side_7_5 : decB cX10_side 33 [(.iinc 2 1, .int 1), (.goto (-29), .retAddr 7)] = true := by decide +kernel
theorem dX10_side_2 : decode cX10_side 2 = .ok (.invokevirtual 110, 3) := by decide +kernel
theorem dX10_side_10 : decode cX10_side 10 = .ok (.iaload, 1) := by decide +kernel
theorem dX10_side_11 : decode cX10_side 11 = .ok (.if_icmp .ge 28, 3) := by decide +kernel
theorem dX10_side_18 : decode cX10_side 18 = .ok (.getfield 22, 3) := by decide +kernel
theorem dX10_side_22 : decode cX10_side 22 = .ok (.iaload, 1) := by decide +kernel
theorem dX10_side_25 : decode cX10_side 25 = .ok (.getfield 22, 3) := by decide +kernel
theorem dX10_side_31 : decode cX10_side 31 = .ok (.iaload, 1) := by decide +kernel
theorem dX10_side_32 : decode cX10_side 32 = .ok (.iastore, 1) := by decide +kernel
theorem dX10_side_39 : decode cX10_side 39 = .ok (.return_, 1) := by decide +kernel
def bX10_side_7 (K7 : Nat → Nat → Int32 → Hp → Option (Unit × Hp)) (a0 : Nat) (a1 : Nat) (a2 : Int32) (H : Hp) : Option (Unit × Hp) :=
  bd (aI H a1 0 0) fun x1 =>
  if (x1 ≤ a2 : Prop) then
    some ((), H)
  else
    bd (gA H a0 9 5) fun x2 =>
    bd (aI H x2 0 a2) fun x3 =>
    bd (gA H a0 9 5) fun x4 =>
    bd (aI H x4 0 (5 + a2)) fun x5 =>
    bd (sI H a1 0 (6 + x3) x5) fun H6 =>
    K7 a0 a1 (a2 + 1) H6
set_option maxHeartbeats 4000000 in
set_option maxRecDepth 100000 in
theorem tbX10_side_7 {G : GG} {r : Unit} {H' : Hp} {K7 : Nat → Nat → Int32 → Hp → Option (Unit × Hp)} (hK7 : ∀ (a0 : Nat) (a1 : Nat) (a2 : Int32) (H : Hp), K7 a0 a1 a2 H = some (r, H') → Sn G (T0 G none H') mX10_side 7 [some (.ref a0), some (.ref a1), some (.int a2)] [] H) {a0 : Nat} {a1 : Nat} {a2 : Int32} {H : Hp} (h : bX10_side_7 K7 a0 a1 a2 H = some (r, H')) : Sn G (T0 G none H') mX10_side 7 [some (.ref a0), some (.ref a1), some (.int a2)] [] H := by
  unfold bX10_side_7 at h
  refine sn_blk _ kX10_side_7_0 (pc' := 10) (L' := [some (.ref a0), some (.ref a1), some (.int a2)]) (st' := [.int 0, .ref a1, .int a2]) rfl rfl ?_
  obtain ⟨x1, hx1, h⟩ := bd_inv h
  refine sn_iald dX10_side_10 hx1 ?_
  refine sn_icmp_ge (tgt := 39) dX10_side_11 (by decide) (fun c => ?_) (fun c => ?_)
  · rw [if_pos c] at h
    cases h
    exact sn_vret dX10_side_39 rfl
  · rw [if_neg c] at h
    refine sn_blk _ kX10_side_7_1 (pc' := 18) (L' := [some (.ref a0), some (.ref a1), some (.int a2)]) (st' := [.ref a0, .int 6, .ref a1]) rfl rfl ?_
    obtain ⟨x2, hx2, h⟩ := bd_inv h
    refine sn_gA dX10_side_18 foX10_22 hx2 ?_
    refine sn_blk _ kX10_side_7_2 (pc' := 22) (L' := [some (.ref a0), some (.ref a1), some (.int a2)]) (st' := [.int a2, .ref x2, .int 6, .ref a1]) rfl rfl ?_
    obtain ⟨x3, hx3, h⟩ := bd_inv h
    refine sn_iald dX10_side_22 hx3 ?_
    refine sn_blk _ kX10_side_7_3 (pc' := 25) (L' := [some (.ref a0), some (.ref a1), some (.int a2)]) (st' := [.ref a0, .int (6 + x3), .ref a1]) rfl rfl ?_
    obtain ⟨x4, hx4, h⟩ := bd_inv h
    refine sn_gA dX10_side_25 foX10_22 hx4 ?_
    refine sn_blk _ kX10_side_7_4 (pc' := 31) (L' := [some (.ref a0), some (.ref a1), some (.int a2)]) (st' := [.int (5 + a2), .ref x4, .int (6 + x3), .ref a1]) rfl rfl ?_
    obtain ⟨x5, hx5, h⟩ := bd_inv h
    refine sn_iald dX10_side_31 hx5 ?_
    obtain ⟨H6, hH6, h⟩ := bd_inv h
    refine sn_iast dX10_side_32 hH6 ?_
    refine sn_blk _ kX10_side_7_5 (pc' := 7) (L' := [some (.ref a0), some (.ref a1), some (.int (a2 + 1))]) (st' := []) rfl rfl ?_
    exact hK7 _ _ _ _ h
def fX10_side_7  : Nat → Nat → Nat → Int32 → Hp → Option (Unit × Hp)
  | 0, _, _, _, _ => none
  | d + 1, a0, a1, a2, H => bX10_side_7 (fX10_side_7  d) a0 a1 a2 H
theorem tfX10_side_7 {G : GG} {r : Unit} {H' : Hp}   : ∀ (d : Nat) {a0 : Nat} {a1 : Nat} {a2 : Int32} {H : Hp}, fX10_side_7  d a0 a1 a2 H = some (r, H') → Sn G (T0 G none H') mX10_side 7 [some (.ref a0), some (.ref a1), some (.int a2)] [] H := by
  intro d
  induction d with
  | zero => intro a0 a1 a2 H h; cases h
  | succ d ih => intro a0 a1 a2 H h; exact tbX10_side_7 (fun a0 a1 a2 H h => ih h) h
def FX10_side  (a0 : Nat) (a1 : Nat) (H : Hp) : Option (Unit × Hp) :=
  gp (isO H a0 9 = true) (
    bd2 (FX10_layAside a0 a1 H) fun _ H2 =>
    fX10_side_7  4096 a0 a1 0 H2
    )
set_option maxHeartbeats 4000000 in
set_option maxRecDepth 100000 in
theorem tFX10_side {G : GG} {r : Unit} {H' : Hp}   {a0 : Nat} {a1 : Nat} {H : Hp} (h : FX10_side  a0 a1 H = some (r, H')) : Sn G (T0 G none H') mX10_side 0 [some (.ref a0), some (.ref a1), none] [] H := by
  unfold FX10_side at h
  refine sn_blk _ kX10_side_0_0 (pc' := 2) (L' := [some (.ref a0), some (.ref a1), none]) (st' := [.ref a1, .ref a0]) rfl rfl ?_
  obtain ⟨ho, h⟩ := gp_inv h
  obtain ⟨fs, ho⟩ := isO_inv ho
  obtain ⟨x1, H2, hx1, h⟩ := bd2_inv h
  refine sn_callv (av := [.ref a1]) (st := []) (M2 := mX10_layAside) dX10_side_2 msX10_layAside mlX10_110 rfl rfl rfl rfl rfl ho (sX10_layAside hx1) ?_
  refine sn_blk _ kX10_side_0_1 (pc' := 7) (L' := [some (.ref a0), some (.ref a1), some (.int 0)]) (st' := []) rfl rfl ?_
  exact tfX10_side_7  4096 h
theorem sX10_side {G : GG} {r : Unit} {H' : Hp} {a0 : Nat} {a1 : Nat} {H : Hp} (h : FX10_side a0 a1 H = some (r, H')) : SM G mX10_side [.ref a0, .ref a1] H none H' := tFX10_side h
/-! SquareFoldsModel.upward([I)V -/
theorem kX10_upward_0_0 : decB cX10_upward 0 [(.aload_n 0, .null), (.aload_n 1, .null)] = true := by decide +kernel
theorem kX10_upward_0_1 : decB cX10_upward 5 [(.iconst 0, .int 0), (.istore_n 2, .null)] = true := by decide +kernel
theorem kX10_upward_7_0 : decB cX10_upward 7 [(.iload_n 2, .null), (.aload_n 1, .null), (.iconst 0, .int 0)] = true := by decide +kernel
theorem kX10_upward_7_1 : decB cX10_upward 14 [(.aload_n 1, .null), (.iconst 1, .int 1), (.aload_n 0, .null)] = true := by decide +kernel
theorem kX10_upward_7_2 : decB cX10_upward 20 [(.iconst 5, .int 5), (.iload_n 2, .null), (.iadd, .null)] = true := by decide +kernel
theorem kX10_upward_7_3 : decB cX10_upward 24 [(.iadd, .null), (.aload_n 0, .null)] = true := by decide +kernel
theorem kX10_upward_7_4 : decB cX10_upward 29 [(.iload_n 2, .null)] = true := by decide +kernel
theorem kX10_upward_7_5 : decB cX10_upward 32 [(.iinc 2 1, .int 1), (.goto (-28), .retAddr 7)] = true := by decide +kernel
theorem dX10_upward_2 : decode cX10_upward 2 = .ok (.invokevirtual 110, 3) := by decide +kernel
theorem dX10_upward_10 : decode cX10_upward 10 = .ok (.iaload, 1) := by decide +kernel
theorem dX10_upward_11 : decode cX10_upward 11 = .ok (.if_icmp .ge 27, 3) := by decide +kernel
theorem dX10_upward_17 : decode cX10_upward 17 = .ok (.getfield 22, 3) := by decide +kernel
theorem dX10_upward_23 : decode cX10_upward 23 = .ok (.iaload, 1) := by decide +kernel
theorem dX10_upward_26 : decode cX10_upward 26 = .ok (.getfield 22, 3) := by decide +kernel
theorem dX10_upward_30 : decode cX10_upward 30 = .ok (.iaload, 1) := by decide +kernel
theorem dX10_upward_31 : decode cX10_upward 31 = .ok (.iastore, 1) := by decide +kernel
theorem dX10_upward_38 : decode cX10_upward 38 = .ok (.return_, 1) := by decide +kernel
def bX10_upward_7 (K7 : Nat → Nat → Int32 → Hp → Option (Unit × Hp)) (a0 : Nat) (a1 : Nat) (a2 : Int32) (H : Hp) : Option (Unit × Hp) :=
  bd (aI H a1 0 0) fun x1 =>
  if (x1 ≤ a2 : Prop) then
    some ((), H)
  else
    bd (gA H a0 9 5) fun x2 =>
    bd (aI H x2 0 (5 + a2)) fun x3 =>
    bd (gA H a0 9 5) fun x4 =>
    bd (aI H x4 0 a2) fun x5 =>
    bd (sI H a1 0 (1 + x3) x5) fun H6 =>
    K7 a0 a1 (a2 + 1) H6
set_option maxHeartbeats 4000000 in
set_option maxRecDepth 100000 in
theorem tbX10_upward_7 {G : GG} {r : Unit} {H' : Hp} {K7 : Nat → Nat → Int32 → Hp → Option (Unit × Hp)} (hK7 : ∀ (a0 : Nat) (a1 : Nat) (a2 : Int32) (H : Hp), K7 a0 a1 a2 H = some (r, H') → Sn G (T0 G none H') mX10_upward 7 [some (.ref a0), some (.ref a1), some (.int a2)] [] H) {a0 : Nat} {a1 : Nat} {a2 : Int32} {H : Hp} (h : bX10_upward_7 K7 a0 a1 a2 H = some (r, H')) : Sn G (T0 G none H') mX10_upward 7 [some (.ref a0), some (.ref a1), some (.int a2)] [] H := by
  unfold bX10_upward_7 at h
  refine sn_blk _ kX10_upward_7_0 (pc' := 10) (L' := [some (.ref a0), some (.ref a1), some (.int a2)]) (st' := [.int 0, .ref a1, .int a2]) rfl rfl ?_
  obtain ⟨x1, hx1, h⟩ := bd_inv h
  refine sn_iald dX10_upward_10 hx1 ?_
  refine sn_icmp_ge (tgt := 38) dX10_upward_11 (by decide) (fun c => ?_) (fun c => ?_)
  · rw [if_pos c] at h
    cases h
    exact sn_vret dX10_upward_38 rfl
  · rw [if_neg c] at h
    refine sn_blk _ kX10_upward_7_1 (pc' := 17) (L' := [some (.ref a0), some (.ref a1), some (.int a2)]) (st' := [.ref a0, .int 1, .ref a1]) rfl rfl ?_
    obtain ⟨x2, hx2, h⟩ := bd_inv h
    refine sn_gA dX10_upward_17 foX10_22 hx2 ?_
    refine sn_blk _ kX10_upward_7_2 (pc' := 23) (L' := [some (.ref a0), some (.ref a1), some (.int a2)]) (st' := [.int (5 + a2), .ref x2, .int 1, .ref a1]) rfl rfl ?_
    obtain ⟨x3, hx3, h⟩ := bd_inv h
    refine sn_iald dX10_upward_23 hx3 ?_
    refine sn_blk _ kX10_upward_7_3 (pc' := 26) (L' := [some (.ref a0), some (.ref a1), some (.int a2)]) (st' := [.ref a0, .int (1 + x3), .ref a1]) rfl rfl ?_
    obtain ⟨x4, hx4, h⟩ := bd_inv h
    refine sn_gA dX10_upward_26 foX10_22 hx4 ?_
    refine sn_blk _ kX10_upward_7_4 (pc' := 30) (L' := [some (.ref a0), some (.ref a1), some (.int a2)]) (st' := [.int a2, .ref x4, .int (1 + x3), .ref a1]) rfl rfl ?_
    obtain ⟨x5, hx5, h⟩ := bd_inv h
    refine sn_iald dX10_upward_30 hx5 ?_
    obtain ⟨H6, hH6, h⟩ := bd_inv h
    refine sn_iast dX10_upward_31 hH6 ?_
    refine sn_blk _ kX10_upward_7_5 (pc' := 7) (L' := [some (.ref a0), some (.ref a1), some (.int (a2 + 1))]) (st' := []) rfl rfl ?_
    exact hK7 _ _ _ _ h
def fX10_upward_7  : Nat → Nat → Nat → Int32 → Hp → Option (Unit × Hp)
  | 0, _, _, _, _ => none
  | d + 1, a0, a1, a2, H => bX10_upward_7 (fX10_upward_7  d) a0 a1 a2 H
theorem tfX10_upward_7 {G : GG} {r : Unit} {H' : Hp}   : ∀ (d : Nat) {a0 : Nat} {a1 : Nat} {a2 : Int32} {H : Hp}, fX10_upward_7  d a0 a1 a2 H = some (r, H') → Sn G (T0 G none H') mX10_upward 7 [some (.ref a0), some (.ref a1), some (.int a2)] [] H := by
  intro d
  induction d with
  | zero => intro a0 a1 a2 H h; cases h
  | succ d ih => intro a0 a1 a2 H h; exact tbX10_upward_7 (fun a0 a1 a2 H h => ih h) h
def FX10_upward  (a0 : Nat) (a1 : Nat) (H : Hp) : Option (Unit × Hp) :=
  gp (isO H a0 9 = true) (
    bd2 (FX10_layAside a0 a1 H) fun _ H2 =>
    fX10_upward_7  4096 a0 a1 0 H2
    )
set_option maxHeartbeats 4000000 in
set_option maxRecDepth 100000 in
theorem tFX10_upward {G : GG} {r : Unit} {H' : Hp}   {a0 : Nat} {a1 : Nat} {H : Hp} (h : FX10_upward  a0 a1 H = some (r, H')) : Sn G (T0 G none H') mX10_upward 0 [some (.ref a0), some (.ref a1), none] [] H := by
  unfold FX10_upward at h
  refine sn_blk _ kX10_upward_0_0 (pc' := 2) (L' := [some (.ref a0), some (.ref a1), none]) (st' := [.ref a1, .ref a0]) rfl rfl ?_
  obtain ⟨ho, h⟩ := gp_inv h
  obtain ⟨fs, ho⟩ := isO_inv ho
  obtain ⟨x1, H2, hx1, h⟩ := bd2_inv h
  refine sn_callv (av := [.ref a1]) (st := []) (M2 := mX10_layAside) dX10_upward_2 msX10_layAside mlX10_110 rfl rfl rfl rfl rfl ho (sX10_layAside hx1) ?_
  refine sn_blk _ kX10_upward_0_1 (pc' := 7) (L' := [some (.ref a0), some (.ref a1), some (.int 0)]) (st' := []) rfl rfl ?_
  exact tfX10_upward_7  4096 h
theorem sX10_upward {G : GG} {r : Unit} {H' : Hp} {a0 : Nat} {a1 : Nat} {H : Hp} (h : FX10_upward a0 a1 H = some (r, H')) : SM G mX10_upward [.ref a0, .ref a1] H none H' := tFX10_upward h
/-! SquareFoldsModel.quarter([I)V -/
theorem kX10_quarter_0_0 : decB cX10_quarter 0 [(.aload_n 0, .null), (.aload_n 1, .null)] = true := by decide +kernel
theorem kX10_quarter_0_1 : decB cX10_quarter 5 [(.iconst 0, .int 0), (.istore_n 2, .null)] = true := by decide +kernel
theorem kX10_quarter_7_0 : decB cX10_quarter 7 [(.iload_n 2, .null), (.aload_n 1, .null), (.iconst 0, .int 0)] = true := by decide +kernel
theorem kX10_quarter_7_1 : decB cX10_quarter 14 [(.aload_n 1, .null), (.iconst 1, .int 1), (.aload_n 0, .null)] = true := by decide +kernel
theorem kX10_quarter_7_2 : decB cX10_quarter 20 [(.iconst 5, .int 5), (.iload_n 2, .null), (.iadd, .null)] = true := by decide +kernel
theorem kX10_quarter_7_3 : decB cX10_quarter 24 [(.iadd, .null), (.iload_n 2, .null)] = true := by decide +kernel
theorem kX10_quarter_7_4 : decB cX10_quarter 27 [(.aload_n 1, .null), (.bipush 6, .int 6), (.iload_n 2, .null), (.iadd, .null), (.aload_n 0, .null)] = true := by decide +kernel
theorem kX10_quarter_7_5 : decB cX10_quarter 36 [(.iload_n 2, .null)] = true := by decide +kernel
theorem kX10_quarter_7_6 : decB cX10_quarter 39 [(.iinc 2 1, .int 1), (.goto (-35), .retAddr 7)] = true := by decide +kernel
theorem dX10_quarter_2 : decode cX10_quarter 2 = .ok (.invokevirtual 110, 3) := by decide +kernel
theorem dX10_quarter_10 : decode cX10_quarter 10 = .ok (.iaload, 1) := by decide +kernel
theorem dX10_quarter_11 : decode cX10_quarter 11 = .ok (.if_icmp .ge 34, 3) := by decide +kernel
theorem dX10_quarter_17 : decode cX10_quarter 17 = .ok (.getfield 22, 3) := by decide +kernel
theorem dX10_quarter_23 : decode cX10_quarter 23 = .ok (.iaload, 1) := by decide +kernel
theorem dX10_quarter_26 : decode cX10_quarter 26 = .ok (.iastore, 1) := by decide +kernel
theorem dX10_quarter_33 : decode cX10_quarter 33 = .ok (.getfield 22, 3) := by decide +kernel
theorem dX10_quarter_37 : decode cX10_quarter 37 = .ok (.iaload, 1) := by decide +kernel
theorem dX10_quarter_38 : decode cX10_quarter 38 = .ok (.iastore, 1) := by decide +kernel
theorem dX10_quarter_45 : decode cX10_quarter 45 = .ok (.return_, 1) := by decide +kernel
def bX10_quarter_7 (K7 : Nat → Nat → Int32 → Hp → Option (Unit × Hp)) (a0 : Nat) (a1 : Nat) (a2 : Int32) (H : Hp) : Option (Unit × Hp) :=
  bd (aI H a1 0 0) fun x1 =>
  if (x1 ≤ a2 : Prop) then
    some ((), H)
  else
    bd (gA H a0 9 5) fun x2 =>
    bd (aI H x2 0 (5 + a2)) fun x3 =>
    bd (sI H a1 0 (1 + x3) a2) fun H4 =>
    bd (gA H4 a0 9 5) fun x5 =>
    bd (aI H4 x5 0 a2) fun x6 =>
    bd (sI H4 a1 0 (6 + a2) x6) fun H7 =>
    K7 a0 a1 (a2 + 1) H7
set_option maxHeartbeats 4000000 in
set_option maxRecDepth 100000 in
theorem tbX10_quarter_7 {G : GG} {r : Unit} {H' : Hp} {K7 : Nat → Nat → Int32 → Hp → Option (Unit × Hp)} (hK7 : ∀ (a0 : Nat) (a1 : Nat) (a2 : Int32) (H : Hp), K7 a0 a1 a2 H = some (r, H') → Sn G (T0 G none H') mX10_quarter 7 [some (.ref a0), some (.ref a1), some (.int a2)] [] H) {a0 : Nat} {a1 : Nat} {a2 : Int32} {H : Hp} (h : bX10_quarter_7 K7 a0 a1 a2 H = some (r, H')) : Sn G (T0 G none H') mX10_quarter 7 [some (.ref a0), some (.ref a1), some (.int a2)] [] H := by
  unfold bX10_quarter_7 at h
  refine sn_blk _ kX10_quarter_7_0 (pc' := 10) (L' := [some (.ref a0), some (.ref a1), some (.int a2)]) (st' := [.int 0, .ref a1, .int a2]) rfl rfl ?_
  obtain ⟨x1, hx1, h⟩ := bd_inv h
  refine sn_iald dX10_quarter_10 hx1 ?_
  refine sn_icmp_ge (tgt := 45) dX10_quarter_11 (by decide) (fun c => ?_) (fun c => ?_)
  · rw [if_pos c] at h
    cases h
    exact sn_vret dX10_quarter_45 rfl
  · rw [if_neg c] at h
    refine sn_blk _ kX10_quarter_7_1 (pc' := 17) (L' := [some (.ref a0), some (.ref a1), some (.int a2)]) (st' := [.ref a0, .int 1, .ref a1]) rfl rfl ?_
    obtain ⟨x2, hx2, h⟩ := bd_inv h
    refine sn_gA dX10_quarter_17 foX10_22 hx2 ?_
    refine sn_blk _ kX10_quarter_7_2 (pc' := 23) (L' := [some (.ref a0), some (.ref a1), some (.int a2)]) (st' := [.int (5 + a2), .ref x2, .int 1, .ref a1]) rfl rfl ?_
    obtain ⟨x3, hx3, h⟩ := bd_inv h
    refine sn_iald dX10_quarter_23 hx3 ?_
    refine sn_blk _ kX10_quarter_7_3 (pc' := 26) (L' := [some (.ref a0), some (.ref a1), some (.int a2)]) (st' := [.int a2, .int (1 + x3), .ref a1]) rfl rfl ?_
    obtain ⟨H4, hH4, h⟩ := bd_inv h
    refine sn_iast dX10_quarter_26 hH4 ?_
    refine sn_blk _ kX10_quarter_7_4 (pc' := 33) (L' := [some (.ref a0), some (.ref a1), some (.int a2)]) (st' := [.ref a0, .int (6 + a2), .ref a1]) rfl rfl ?_
    obtain ⟨x5, hx5, h⟩ := bd_inv h
    refine sn_gA dX10_quarter_33 foX10_22 hx5 ?_
    refine sn_blk _ kX10_quarter_7_5 (pc' := 37) (L' := [some (.ref a0), some (.ref a1), some (.int a2)]) (st' := [.int a2, .ref x5, .int (6 + a2), .ref a1]) rfl rfl ?_
    obtain ⟨x6, hx6, h⟩ := bd_inv h
    refine sn_iald dX10_quarter_37 hx6 ?_
    obtain ⟨H7, hH7, h⟩ := bd_inv h
    refine sn_iast dX10_quarter_38 hH7 ?_
    refine sn_blk _ kX10_quarter_7_6 (pc' := 7) (L' := [some (.ref a0), some (.ref a1), some (.int (a2 + 1))]) (st' := []) rfl rfl ?_
    exact hK7 _ _ _ _ h
def fX10_quarter_7  : Nat → Nat → Nat → Int32 → Hp → Option (Unit × Hp)
  | 0, _, _, _, _ => none
  | d + 1, a0, a1, a2, H => bX10_quarter_7 (fX10_quarter_7  d) a0 a1 a2 H
theorem tfX10_quarter_7 {G : GG} {r : Unit} {H' : Hp}   : ∀ (d : Nat) {a0 : Nat} {a1 : Nat} {a2 : Int32} {H : Hp}, fX10_quarter_7  d a0 a1 a2 H = some (r, H') → Sn G (T0 G none H') mX10_quarter 7 [some (.ref a0), some (.ref a1), some (.int a2)] [] H := by
  intro d
  induction d with
  | zero => intro a0 a1 a2 H h; cases h
  | succ d ih => intro a0 a1 a2 H h; exact tbX10_quarter_7 (fun a0 a1 a2 H h => ih h) h
def FX10_quarter  (a0 : Nat) (a1 : Nat) (H : Hp) : Option (Unit × Hp) :=
  gp (isO H a0 9 = true) (
    bd2 (FX10_layAside a0 a1 H) fun _ H2 =>
    fX10_quarter_7  4096 a0 a1 0 H2
    )
set_option maxHeartbeats 4000000 in
set_option maxRecDepth 100000 in
theorem tFX10_quarter {G : GG} {r : Unit} {H' : Hp}   {a0 : Nat} {a1 : Nat} {H : Hp} (h : FX10_quarter  a0 a1 H = some (r, H')) : Sn G (T0 G none H') mX10_quarter 0 [some (.ref a0), some (.ref a1), none] [] H := by
  unfold FX10_quarter at h
  refine sn_blk _ kX10_quarter_0_0 (pc' := 2) (L' := [some (.ref a0), some (.ref a1), none]) (st' := [.ref a1, .ref a0]) rfl rfl ?_
  obtain ⟨ho, h⟩ := gp_inv h
  obtain ⟨fs, ho⟩ := isO_inv ho
  obtain ⟨x1, H2, hx1, h⟩ := bd2_inv h
  refine sn_callv (av := [.ref a1]) (st := []) (M2 := mX10_layAside) dX10_quarter_2 msX10_layAside mlX10_110 rfl rfl rfl rfl rfl ho (sX10_layAside hx1) ?_
  refine sn_blk _ kX10_quarter_0_1 (pc' := 7) (L' := [some (.ref a0), some (.ref a1), some (.int 0)]) (st' := []) rfl rfl ?_
  exact tfX10_quarter_7  4096 h
theorem sX10_quarter {G : GG} {r : Unit} {H' : Hp} {a0 : Nat} {a1 : Nat} {H : Hp} (h : FX10_quarter a0 a1 H = some (r, H')) : SM G mX10_quarter [.ref a0, .ref a1] H none H' := tFX10_quarter h
/-! SquareFoldsModel.shearOn([II)V -/
theorem kX10_shearOn_0_0 : decB cX10_shearOn 0 [(.iload_n 2, .null)] = true := by decide +kernel
theorem kX10_shearOn_0_1 : decB cX10_shearOn 12 [(.iload_n 2, .null), (.iconst 1, .int 1)] = true := by decide +kernel
theorem kX10_shearOn_0_2 : decB cX10_shearOn 25 [(.aload_n 0, .null), (.aload_n 1, .null)] = true := by decide +kernel
theorem kX10_shearOn_0_3 : decB cX10_shearOn 17 [(.aload_n 0, .null), (.aload_n 1, .null)] = true := by decide +kernel
theorem kX10_shearOn_0_4 : decB cX10_shearOn 22 [(.goto 8, .retAddr 30)] = true := by decide +kernel
theorem kX10_shearOn_0_5 : decB cX10_shearOn 4 [(.aload_n 0, .null), (.aload_n 1, .null)] = true := by decide +kernel
theorem kX10_shearOn_0_6 : decB cX10_shearOn 9 [(.goto 21, .retAddr 30)] = true := by decide +kernel
theorem dX10_shearOn_1 : decode cX10_shearOn 1 = .ok (.ifCond .ne 11, 3) := by decide +kernel
theorem dX10_shearOn_6 : decode cX10_shearOn 6 = .ok (.invokevirtual 118, 3) := by decide +kernel
theorem dX10_shearOn_14 : decode cX10_shearOn 14 = .ok (.if_icmp .ne 11, 3) := by decide +kernel
theorem dX10_shearOn_19 : decode cX10_shearOn 19 = .ok (.invokevirtual 121, 3) := by decide +kernel
theorem dX10_shearOn_27 : decode cX10_shearOn 27 = .ok (.invokevirtual 124, 3) := by decide +kernel
theorem dX10_shearOn_30 : decode cX10_shearOn 30 = .ok (.return_, 1) := by decide +kernel
def FX10_shearOn  (a0 : Nat) (a1 : Nat) (a2 : Int32) (H : Hp) : Option (Unit × Hp) :=
  if (a2 = 0 : Prop) then
    gp (isO H a0 9 = true) (
      bd2 (FX10_side a0 a1 H) fun _ H6 =>
      some ((), H6)
      )
  else
    if (a2 = 1 : Prop) then
      gp (isO H a0 9 = true) (
        bd2 (FX10_upward a0 a1 H) fun _ H4 =>
        some ((), H4)
        )
    else
      gp (isO H a0 9 = true) (
        bd2 (FX10_quarter a0 a1 H) fun _ H2 =>
        some ((), H2)
        )
set_option maxHeartbeats 4000000 in
set_option maxRecDepth 100000 in
theorem tFX10_shearOn {G : GG} {r : Unit} {H' : Hp}   {a0 : Nat} {a1 : Nat} {a2 : Int32} {H : Hp} (h : FX10_shearOn  a0 a1 a2 H = some (r, H')) : Sn G (T0 G none H') mX10_shearOn 0 [some (.ref a0), some (.ref a1), some (.int a2)] [] H := by
  unfold FX10_shearOn at h
  refine sn_blk _ kX10_shearOn_0_0 (pc' := 1) (L' := [some (.ref a0), some (.ref a1), some (.int a2)]) (st' := [.int a2]) rfl rfl ?_
  refine sn_if_ne (tgt := 12) dX10_shearOn_1 (by decide) (fun c => ?_) (fun c => ?_)
  · rw [if_neg c] at h
    refine sn_blk _ kX10_shearOn_0_1 (pc' := 14) (L' := [some (.ref a0), some (.ref a1), some (.int a2)]) (st' := [.int 1, .int a2]) rfl rfl ?_
    refine sn_icmp_ne (tgt := 25) dX10_shearOn_14 (by decide) (fun c => ?_) (fun c => ?_)
    · rw [if_neg c] at h
      refine sn_blk _ kX10_shearOn_0_2 (pc' := 27) (L' := [some (.ref a0), some (.ref a1), some (.int a2)]) (st' := [.ref a1, .ref a0]) rfl rfl ?_
      obtain ⟨ho, h⟩ := gp_inv h
      obtain ⟨fs, ho⟩ := isO_inv ho
      obtain ⟨x1, H2, hx1, h⟩ := bd2_inv h
      refine sn_callv (av := [.ref a1]) (st := []) (M2 := mX10_quarter) dX10_shearOn_27 msX10_quarter mlX10_124 rfl rfl rfl rfl rfl ho (sX10_quarter hx1) ?_
      cases h
      exact sn_vret dX10_shearOn_30 rfl
    · rw [if_pos c] at h
      refine sn_blk _ kX10_shearOn_0_3 (pc' := 19) (L' := [some (.ref a0), some (.ref a1), some (.int a2)]) (st' := [.ref a1, .ref a0]) rfl rfl ?_
      obtain ⟨ho, h⟩ := gp_inv h
      obtain ⟨fs, ho⟩ := isO_inv ho
      obtain ⟨x3, H4, hx3, h⟩ := bd2_inv h
      refine sn_callv (av := [.ref a1]) (st := []) (M2 := mX10_upward) dX10_shearOn_19 msX10_upward mlX10_121 rfl rfl rfl rfl rfl ho (sX10_upward hx3) ?_
      refine sn_blk _ kX10_shearOn_0_4 (pc' := 30) (L' := [some (.ref a0), some (.ref a1), some (.int a2)]) (st' := []) rfl rfl ?_
      cases h
      exact sn_vret dX10_shearOn_30 rfl
  · rw [if_pos c] at h
    refine sn_blk _ kX10_shearOn_0_5 (pc' := 6) (L' := [some (.ref a0), some (.ref a1), some (.int a2)]) (st' := [.ref a1, .ref a0]) rfl rfl ?_
    obtain ⟨ho, h⟩ := gp_inv h
    obtain ⟨fs, ho⟩ := isO_inv ho
    obtain ⟨x5, H6, hx5, h⟩ := bd2_inv h
    refine sn_callv (av := [.ref a1]) (st := []) (M2 := mX10_side) dX10_shearOn_6 msX10_side mlX10_118 rfl rfl rfl rfl rfl ho (sX10_side hx5) ?_
    refine sn_blk _ kX10_shearOn_0_6 (pc' := 30) (L' := [some (.ref a0), some (.ref a1), some (.int a2)]) (st' := []) rfl rfl ?_
    cases h
    exact sn_vret dX10_shearOn_30 rfl
theorem sX10_shearOn {G : GG} {r : Unit} {H' : Hp} {a0 : Nat} {a1 : Nat} {a2 : Int32} {H : Hp} (h : FX10_shearOn a0 a1 a2 H = some (r, H')) : SM G mX10_shearOn [.ref a0, .ref a1, .int a2] H none H' := tFX10_shearOn h
/-! SquareFoldsModel.shear(I)I -/
theorem kX10_shear_0_0 : decB cX10_shear 0 [(.iload_n 1, .null), (.i2l, .null), (.lconst 0, .long 0)] = true := by decide +kernel
theorem kX10_shear_0_1 : decB cX10_shear 15 [(.aload_n 0, .null)] = true := by decide +kernel
theorem kX10_shear_0_2 : decB cX10_shear 19 [(.aload_n 0, .null), (.aload_n 0, .null)] = true := by decide +kernel
theorem kX10_shear_0_3 : decB cX10_shear 24 [(.iload_n 1, .null)] = true := by decide +kernel
theorem kX10_shear_0_4 : decB cX10_shear 28 [(.aload_n 0, .null)] = true := by decide +kernel
theorem kX10_shear_0_5 : decB cX10_shear 12 [(.bipush (-2), .int (-2))] = true := by decide +kernel
theorem dX10_shear_3 : decode cX10_shear 3 = .ok (.ldc2_w 224, 3) := by decide +kernel
theorem dX10_shear_6 : decode cX10_shear 6 = .ok (.invokestatic 127, 3) := by decide +kernel
theorem dX10_shear_9 : decode cX10_shear 9 = .ok (.ifCond .ne 6, 3) := by decide +kernel
theorem dX10_shear_14 : decode cX10_shear 14 = .ok (.ireturn, 1) := by decide +kernel
theorem dX10_shear_16 : decode cX10_shear 16 = .ok (.invokevirtual 226, 3) := by decide +kernel
theorem dX10_shear_21 : decode cX10_shear 21 = .ok (.getfield 13, 3) := by decide +kernel
theorem dX10_shear_25 : decode cX10_shear 25 = .ok (.invokevirtual 229, 3) := by decide +kernel
theorem dX10_shear_29 : decode cX10_shear 29 = .ok (.getfield 13, 3) := by decide +kernel
theorem dX10_shear_32 : decode cX10_shear 32 = .ok (.invokestatic 164, 3) := by decide +kernel
theorem dX10_shear_35 : decode cX10_shear 35 = .ok (.ireturn, 1) := by decide +kernel
def FX10_shear  (a0 : Nat) (a1 : Int32) (H : Hp) : Option (Int32 × Hp) :=
  bd2 (FX10_in (Int32.toInt64 a1) 0 2 H) fun x1 H2 =>
  if (x1 = 0 : Prop) then
    some ((-2), H2)
  else
    gp (isO H2 a0 9 = true) (
      bd2 (FX10_note a0  H2) fun _ H4 =>
      bd (gA H4 a0 9 2) fun x5 =>
      gp (isO H4 a0 9 = true) (
        bd2 (FX10_shearOn a0 x5 a1 H4) fun _ H7 =>
        bd (gA H7 a0 9 2) fun x8 =>
        bd2 (FX10_allCorners x8 H7) fun x9 H10 =>
        some (x9, H10)
        )
      )
set_option maxHeartbeats 4000000 in
set_option maxRecDepth 100000 in
theorem tFX10_shear {G : GG} {r : Int32} {H' : Hp}   {a0 : Nat} {a1 : Int32} {H : Hp} (h : FX10_shear  a0 a1 H = some (r, H')) : Sn G (T0 G (some (.int r)) H') mX10_shear 0 [some (.ref a0), some (.int a1)] [] H := by
  unfold FX10_shear at h
  refine sn_blk _ kX10_shear_0_0 (pc' := 3) (L' := [some (.ref a0), some (.int a1)]) (st' := [.long 0, .long (Int32.toInt64 a1)]) rfl rfl ?_
  refine sn_ldc2 dX10_shear_3 kcX10_224 ?_
  obtain ⟨x1, H2, hx1, h⟩ := bd2_inv h
  refine sn_calls (av := [.long (Int32.toInt64 a1), .long 0, .long 2]) (st := []) (M2 := mX10_in) dX10_shear_6 msX10_in mlX10_127 rfl rfl rfl rfl rfl (sX10_in hx1) ?_
  refine sn_if_ne (tgt := 15) dX10_shear_9 (by decide) (fun c => ?_) (fun c => ?_)
  · rw [if_neg c] at h
    refine sn_blk _ kX10_shear_0_1 (pc' := 16) (L' := [some (.ref a0), some (.int a1)]) (st' := [.ref a0]) rfl rfl ?_
    obtain ⟨ho, h⟩ := gp_inv h
    obtain ⟨fs, ho⟩ := isO_inv ho
    obtain ⟨x3, H4, hx3, h⟩ := bd2_inv h
    refine sn_callv (av := []) (st := []) (M2 := mX10_note) dX10_shear_16 msX10_note mlX10_226 rfl rfl rfl rfl rfl ho (sX10_note hx3) ?_
    refine sn_blk _ kX10_shear_0_2 (pc' := 21) (L' := [some (.ref a0), some (.int a1)]) (st' := [.ref a0, .ref a0]) rfl rfl ?_
    obtain ⟨x5, hx5, h⟩ := bd_inv h
    refine sn_gA dX10_shear_21 foX10_13 hx5 ?_
    refine sn_blk _ kX10_shear_0_3 (pc' := 25) (L' := [some (.ref a0), some (.int a1)]) (st' := [.int a1, .ref x5, .ref a0]) rfl rfl ?_
    obtain ⟨ho, h⟩ := gp_inv h
    obtain ⟨fs, ho⟩ := isO_inv ho
    obtain ⟨x6, H7, hx6, h⟩ := bd2_inv h
    refine sn_callv (av := [.ref x5, .int a1]) (st := []) (M2 := mX10_shearOn) dX10_shear_25 msX10_shearOn mlX10_229 rfl rfl rfl rfl rfl ho (sX10_shearOn hx6) ?_
    refine sn_blk _ kX10_shear_0_4 (pc' := 29) (L' := [some (.ref a0), some (.int a1)]) (st' := [.ref a0]) rfl rfl ?_
    obtain ⟨x8, hx8, h⟩ := bd_inv h
    refine sn_gA dX10_shear_29 foX10_13 hx8 ?_
    obtain ⟨x9, H10, hx9, h⟩ := bd2_inv h
    refine sn_calls (av := [.ref x8]) (st := []) (M2 := mX10_allCorners) dX10_shear_32 msX10_allCorners mlX10_164 rfl rfl rfl rfl rfl (sX10_allCorners hx9) ?_
    cases h
    exact sn_iret (ty := .int) dX10_shear_35 rfl rfl
  · rw [if_pos c] at h
    refine sn_blk _ kX10_shear_0_5 (pc' := 14) (L' := [some (.ref a0), some (.int a1)]) (st' := [.int (-2)]) rfl rfl ?_
    cases h
    exact sn_iret (ty := .int) dX10_shear_14 rfl rfl
theorem sX10_shear {G : GG} {r : Int32} {H' : Hp} {a0 : Nat} {a1 : Int32} {H : Hp} (h : FX10_shear a0 a1 H = some (r, H')) : SM G mX10_shear [.ref a0, .int a1] H (some (.int r)) H' := tFX10_shear h
/-! SquareFoldsModel.other(III)I -/
theorem kX10_other_0_0 : decB cX10_other 0 [(.iload_n 0, .null), (.iload_n 1, .null)] = true := by decide +kernel
theorem kX10_other_0_1 : decB cX10_other 9 [(.iload_n 0, .null), (.iload_n 2, .null)] = true := by decide +kernel
theorem kX10_other_0_2 : decB cX10_other 18 [(.iload_n 0, .null)] = true := by decide +kernel
theorem kX10_other_0_3 : decB cX10_other 14 [(.iload_n 1, .null), (.goto 4, .retAddr 19)] = true := by decide +kernel
theorem kX10_other_0_4 : decB cX10_other 5 [(.iload_n 2, .null), (.goto 13, .retAddr 19)] = true := by decide +kernel
theorem dX10_other_2 : decode cX10_other 2 = .ok (.if_icmp .ne 7, 3) := by decide +kernel
theorem dX10_other_11 : decode cX10_other 11 = .ok (.if_icmp .ne 7, 3) := by decide +kernel
theorem dX10_other_19 : decode cX10_other 19 = .ok (.ireturn, 1) := by decide +kernel
def FX10_other  (a0 : Int32) (a1 : Int32) (a2 : Int32) (H : Hp) : Option (Int32 × Hp) :=
  if (a0 = a1 : Prop) then
    some (a2, H)
  else
    if (a0 = a2 : Prop) then
      some (a1, H)
    else
      some (a0, H)
set_option maxHeartbeats 4000000 in
set_option maxRecDepth 100000 in
theorem tFX10_other {G : GG} {r : Int32} {H' : Hp}   {a0 : Int32} {a1 : Int32} {a2 : Int32} {H : Hp} (h : FX10_other  a0 a1 a2 H = some (r, H')) : Sn G (T0 G (some (.int r)) H') mX10_other 0 [some (.int a0), some (.int a1), some (.int a2)] [] H := by
  unfold FX10_other at h
  refine sn_blk _ kX10_other_0_0 (pc' := 2) (L' := [some (.int a0), some (.int a1), some (.int a2)]) (st' := [.int a1, .int a0]) rfl rfl ?_
  refine sn_icmp_ne (tgt := 9) dX10_other_2 (by decide) (fun c => ?_) (fun c => ?_)
  · rw [if_neg c] at h
    refine sn_blk _ kX10_other_0_1 (pc' := 11) (L' := [some (.int a0), some (.int a1), some (.int a2)]) (st' := [.int a2, .int a0]) rfl rfl ?_
    refine sn_icmp_ne (tgt := 18) dX10_other_11 (by decide) (fun c => ?_) (fun c => ?_)
    · rw [if_neg c] at h
      refine sn_blk _ kX10_other_0_2 (pc' := 19) (L' := [some (.int a0), some (.int a1), some (.int a2)]) (st' := [.int a0]) rfl rfl ?_
      cases h
      exact sn_iret (ty := .int) dX10_other_19 rfl rfl
    · rw [if_pos c] at h
      refine sn_blk _ kX10_other_0_3 (pc' := 19) (L' := [some (.int a0), some (.int a1), some (.int a2)]) (st' := [.int a1]) rfl rfl ?_
      cases h
      exact sn_iret (ty := .int) dX10_other_19 rfl rfl
  · rw [if_pos c] at h
    refine sn_blk _ kX10_other_0_4 (pc' := 19) (L' := [some (.int a0), some (.int a1), some (.int a2)]) (st' := [.int a2]) rfl rfl ?_
    cases h
    exact sn_iret (ty := .int) dX10_other_19 rfl rfl
theorem sX10_other {G : GG} {r : Int32} {H' : Hp} {a0 : Int32} {a1 : Int32} {a2 : Int32} {H : Hp} (h : FX10_other a0 a1 a2 H = some (r, H')) : SM G mX10_other [.int a0, .int a1, .int a2] H (some (.int r)) H' := tFX10_other h
/-! SquareFoldsModel.change([III)V -/
theorem kX10_change_0_0 : decB cX10_change 0 [(.aload_n 0, .null), (.aload_n 1, .null)] = true := by decide +kernel
theorem kX10_change_0_1 : decB cX10_change 5 [(.iconst 0, .int 0), (.istore 4, .null)] = true := by decide +kernel
theorem kX10_change_8_0 : decB cX10_change 8 [(.iload 4, .null), (.aload_n 1, .null), (.iconst 0, .int 0)] = true := by decide +kernel
theorem kX10_change_8_1 : decB cX10_change 16 [(.iload 4, .null), (.iload_n 2, .null), (.iload_n 3, .null)] = true := by decide +kernel
theorem kX10_change_8_2 : decB cX10_change 23 [(.istore 5, .null), (.aload_n 1, .null), (.iconst 1, .int 1), (.iload 5, .null), (.iadd, .null), (.aload_n 0, .null)] = true := by decide +kernel
theorem kX10_change_8_3 : decB cX10_change 34 [(.iload 4, .null)] = true := by decide +kernel
theorem kX10_change_8_4 : decB cX10_change 37 [(.iload_n 2, .null), (.iload_n 3, .null)] = true := by decide +kernel
theorem kX10_change_8_5 : decB cX10_change 43 [(.aload_n 1, .null), (.bipush 6, .int 6), (.iload 5, .null), (.iadd, .null), (.aload_n 0, .null)] = true := by decide +kernel
theorem kX10_change_8_6 : decB cX10_change 53 [(.iconst 5, .int 5), (.iload 4, .null), (.iadd, .null)] = true := by decide +kernel
theorem kX10_change_8_7 : decB cX10_change 58 [(.iload_n 2, .null), (.iload_n 3, .null)] = true := by decide +kernel
theorem kX10_change_8_8 : decB cX10_change 64 [(.iinc 4 1, .int 1), (.goto (-59), .retAddr 8)] = true := by decide +kernel
theorem dX10_change_2 : decode cX10_change 2 = .ok (.invokevirtual 110, 3) := by decide +kernel
theorem dX10_change_12 : decode cX10_change 12 = .ok (.iaload, 1) := by decide +kernel
theorem dX10_change_13 : decode cX10_change 13 = .ok (.if_icmp .ge 57, 3) := by decide +kernel
theorem dX10_change_20 : decode cX10_change 20 = .ok (.invokestatic 114, 3) := by decide +kernel
theorem dX10_change_31 : decode cX10_change 31 = .ok (.getfield 22, 3) := by decide +kernel
theorem dX10_change_36 : decode cX10_change 36 = .ok (.iaload, 1) := by decide +kernel
theorem dX10_change_39 : decode cX10_change 39 = .ok (.invokestatic 114, 3) := by decide +kernel
theorem dX10_change_42 : decode cX10_change 42 = .ok (.iastore, 1) := by decide +kernel
theorem dX10_change_50 : decode cX10_change 50 = .ok (.getfield 22, 3) := by decide +kernel
theorem dX10_change_57 : decode cX10_change 57 = .ok (.iaload, 1) := by decide +kernel
theorem dX10_change_60 : decode cX10_change 60 = .ok (.invokestatic 114, 3) := by decide +kernel
theorem dX10_change_63 : decode cX10_change 63 = .ok (.iastore, 1) := by decide +kernel
theorem dX10_change_70 : decode cX10_change 70 = .ok (.return_, 1) := by decide +kernel
def bX10_change_8 (K8 : Nat → Nat → Int32 → Int32 → Int32 → Hp → Option (Unit × Hp)) (a0 : Nat) (a1 : Nat) (a2 : Int32) (a3 : Int32) (a4 : Int32) (H : Hp) : Option (Unit × Hp) :=
  bd (aI H a1 0 0) fun x1 =>
  if (x1 ≤ a4 : Prop) then
    some ((), H)
  else
    bd2 (FX10_other a4 a2 a3 H) fun x2 H3 =>
    bd (gA H3 a0 9 5) fun x4 =>
    bd (aI H3 x4 0 a4) fun x5 =>
    bd2 (FX10_other x5 a2 a3 H3) fun x6 H7 =>
    bd (sI H7 a1 0 (1 + x2) x6) fun H8 =>
    bd (gA H8 a0 9 5) fun x9 =>
    bd (aI H8 x9 0 (5 + a4)) fun x10 =>
    bd2 (FX10_other x10 a2 a3 H8) fun x11 H12 =>
    bd (sI H12 a1 0 (6 + x2) x11) fun H13 =>
    K8 a0 a1 a2 a3 (a4 + 1) H13
set_option maxHeartbeats 4000000 in
set_option maxRecDepth 100000 in
theorem tbX10_change_8 {G : GG} {r : Unit} {H' : Hp} {K8 : Nat → Nat → Int32 → Int32 → Int32 → Hp → Option (Unit × Hp)} (hK8 : ∀ (a0 : Nat) (a1 : Nat) (a2 : Int32) (a3 : Int32) (a4 : Int32) (H : Hp), K8 a0 a1 a2 a3 a4 H = some (r, H') → Sn G (T0 G none H') mX10_change 8 [some (.ref a0), some (.ref a1), some (.int a2), some (.int a3), some (.int a4), none] [] H) {a0 : Nat} {a1 : Nat} {a2 : Int32} {a3 : Int32} {a4 : Int32} {H : Hp} (h : bX10_change_8 K8 a0 a1 a2 a3 a4 H = some (r, H')) : Sn G (T0 G none H') mX10_change 8 [some (.ref a0), some (.ref a1), some (.int a2), some (.int a3), some (.int a4), none] [] H := by
  unfold bX10_change_8 at h
  refine sn_blk _ kX10_change_8_0 (pc' := 12) (L' := [some (.ref a0), some (.ref a1), some (.int a2), some (.int a3), some (.int a4), none]) (st' := [.int 0, .ref a1, .int a4]) rfl rfl ?_
  obtain ⟨x1, hx1, h⟩ := bd_inv h
  refine sn_iald dX10_change_12 hx1 ?_
  refine sn_icmp_ge (tgt := 70) dX10_change_13 (by decide) (fun c => ?_) (fun c => ?_)
  · rw [if_pos c] at h
    cases h
    exact sn_vret dX10_change_70 rfl
  · rw [if_neg c] at h
    refine sn_blk _ kX10_change_8_1 (pc' := 20) (L' := [some (.ref a0), some (.ref a1), some (.int a2), some (.int a3), some (.int a4), none]) (st' := [.int a3, .int a2, .int a4]) rfl rfl ?_
    obtain ⟨x2, H3, hx2, h⟩ := bd2_inv h
    refine sn_calls (av := [.int a4, .int a2, .int a3]) (st := []) (M2 := mX10_other) dX10_change_20 msX10_other mlX10_114 rfl rfl rfl rfl rfl (sX10_other hx2) ?_
    refine sn_blk _ kX10_change_8_2 (pc' := 31) (L' := [some (.ref a0), some (.ref a1), some (.int a2), some (.int a3), some (.int a4), some (.int x2)]) (st' := [.ref a0, .int (1 + x2), .ref a1]) rfl rfl ?_
    obtain ⟨x4, hx4, h⟩ := bd_inv h
    refine sn_gA dX10_change_31 foX10_22 hx4 ?_
    refine sn_blk _ kX10_change_8_3 (pc' := 36) (L' := [some (.ref a0), some (.ref a1), some (.int a2), some (.int a3), some (.int a4), some (.int x2)]) (st' := [.int a4, .ref x4, .int (1 + x2), .ref a1]) rfl rfl ?_
    obtain ⟨x5, hx5, h⟩ := bd_inv h
    refine sn_iald dX10_change_36 hx5 ?_
    refine sn_blk _ kX10_change_8_4 (pc' := 39) (L' := [some (.ref a0), some (.ref a1), some (.int a2), some (.int a3), some (.int a4), some (.int x2)]) (st' := [.int a3, .int a2, .int x5, .int (1 + x2), .ref a1]) rfl rfl ?_
    obtain ⟨x6, H7, hx6, h⟩ := bd2_inv h
    refine sn_calls (av := [.int x5, .int a2, .int a3]) (st := [.int (1 + x2), .ref a1]) (M2 := mX10_other) dX10_change_39 msX10_other mlX10_114 rfl rfl rfl rfl rfl (sX10_other hx6) ?_
    obtain ⟨H8, hH8, h⟩ := bd_inv h
    refine sn_iast dX10_change_42 hH8 ?_
    refine sn_blk _ kX10_change_8_5 (pc' := 50) (L' := [some (.ref a0), some (.ref a1), some (.int a2), some (.int a3), some (.int a4), some (.int x2)]) (st' := [.ref a0, .int (6 + x2), .ref a1]) rfl rfl ?_
    obtain ⟨x9, hx9, h⟩ := bd_inv h
    refine sn_gA dX10_change_50 foX10_22 hx9 ?_
    refine sn_blk _ kX10_change_8_6 (pc' := 57) (L' := [some (.ref a0), some (.ref a1), some (.int a2), some (.int a3), some (.int a4), some (.int x2)]) (st' := [.int (5 + a4), .ref x9, .int (6 + x2), .ref a1]) rfl rfl ?_
    obtain ⟨x10, hx10, h⟩ := bd_inv h
    refine sn_iald dX10_change_57 hx10 ?_
    refine sn_blk _ kX10_change_8_7 (pc' := 60) (L' := [some (.ref a0), some (.ref a1), some (.int a2), some (.int a3), some (.int a4), some (.int x2)]) (st' := [.int a3, .int a2, .int x10, .int (6 + x2), .ref a1]) rfl rfl ?_
    obtain ⟨x11, H12, hx11, h⟩ := bd2_inv h
    refine sn_calls (av := [.int x10, .int a2, .int a3]) (st := [.int (6 + x2), .ref a1]) (M2 := mX10_other) dX10_change_60 msX10_other mlX10_114 rfl rfl rfl rfl rfl (sX10_other hx11) ?_
    obtain ⟨H13, hH13, h⟩ := bd_inv h
    refine sn_iast dX10_change_63 hH13 ?_
    refine sn_blk _ kX10_change_8_8 (pc' := 8) (L' := [some (.ref a0), some (.ref a1), some (.int a2), some (.int a3), some (.int (a4 + 1)), some (.int x2)]) (st' := []) rfl rfl ?_
    refine sn_msk [true, true, true, true, true, false] (L2 := [some (.ref a0), some (.ref a1), some (.int a2), some (.int a3), some (.int (a4 + 1)), none]) rfl ?_
    exact hK8 _ _ _ _ _ _ h
def fX10_change_8  : Nat → Nat → Nat → Int32 → Int32 → Int32 → Hp → Option (Unit × Hp)
  | 0, _, _, _, _, _, _ => none
  | d + 1, a0, a1, a2, a3, a4, H => bX10_change_8 (fX10_change_8  d) a0 a1 a2 a3 a4 H
theorem tfX10_change_8 {G : GG} {r : Unit} {H' : Hp}   : ∀ (d : Nat) {a0 : Nat} {a1 : Nat} {a2 : Int32} {a3 : Int32} {a4 : Int32} {H : Hp}, fX10_change_8  d a0 a1 a2 a3 a4 H = some (r, H') → Sn G (T0 G none H') mX10_change 8 [some (.ref a0), some (.ref a1), some (.int a2), some (.int a3), some (.int a4), none] [] H := by
  intro d
  induction d with
  | zero => intro a0 a1 a2 a3 a4 H h; cases h
  | succ d ih => intro a0 a1 a2 a3 a4 H h; exact tbX10_change_8 (fun a0 a1 a2 a3 a4 H h => ih h) h
def FX10_change  (a0 : Nat) (a1 : Nat) (a2 : Int32) (a3 : Int32) (H : Hp) : Option (Unit × Hp) :=
  gp (isO H a0 9 = true) (
    bd2 (FX10_layAside a0 a1 H) fun _ H2 =>
    fX10_change_8  4096 a0 a1 a2 a3 0 H2
    )
set_option maxHeartbeats 4000000 in
set_option maxRecDepth 100000 in
theorem tFX10_change {G : GG} {r : Unit} {H' : Hp}   {a0 : Nat} {a1 : Nat} {a2 : Int32} {a3 : Int32} {H : Hp} (h : FX10_change  a0 a1 a2 a3 H = some (r, H')) : Sn G (T0 G none H') mX10_change 0 [some (.ref a0), some (.ref a1), some (.int a2), some (.int a3), none, none] [] H := by
  unfold FX10_change at h
  refine sn_blk _ kX10_change_0_0 (pc' := 2) (L' := [some (.ref a0), some (.ref a1), some (.int a2), some (.int a3), none, none]) (st' := [.ref a1, .ref a0]) rfl rfl ?_
  obtain ⟨ho, h⟩ := gp_inv h
  obtain ⟨fs, ho⟩ := isO_inv ho
  obtain ⟨x1, H2, hx1, h⟩ := bd2_inv h
  refine sn_callv (av := [.ref a1]) (st := []) (M2 := mX10_layAside) dX10_change_2 msX10_layAside mlX10_110 rfl rfl rfl rfl rfl ho (sX10_layAside hx1) ?_
  refine sn_blk _ kX10_change_0_1 (pc' := 8) (L' := [some (.ref a0), some (.ref a1), some (.int a2), some (.int a3), some (.int 0), none]) (st' := []) rfl rfl ?_
  exact tfX10_change_8  4096 h
theorem sX10_change {G : GG} {r : Unit} {H' : Hp} {a0 : Nat} {a1 : Nat} {a2 : Int32} {a3 : Int32} {H : Hp} (h : FX10_change a0 a1 a2 a3 H = some (r, H')) : SM G mX10_change [.ref a0, .ref a1, .int a2, .int a3] H none H' := tFX10_change h
/-! SquareFoldsModel.trade(II)I -/
theorem kX10_trade_0_0 : decB cX10_trade 0 [(.aload_n 0, .null), (.iload_n 1, .null)] = true := by decide +kernel
theorem kX10_trade_0_1 : decB cX10_trade 16 [(.iconst (-1), .int (-1))] = true := by decide +kernel
theorem kX10_trade_0_2 : decB cX10_trade 8 [(.aload_n 0, .null), (.iload_n 2, .null)] = true := by decide +kernel
theorem kX10_trade_0_3 : decB cX10_trade 18 [(.iload_n 1, .null), (.iload_n 2, .null)] = true := by decide +kernel
theorem kX10_trade_0_4 : decB cX10_trade 26 [(.aload_n 0, .null)] = true := by decide +kernel
theorem kX10_trade_0_5 : decB cX10_trade 30 [(.aload_n 0, .null), (.aload_n 0, .null)] = true := by decide +kernel
theorem kX10_trade_0_6 : decB cX10_trade 35 [(.iload_n 1, .null), (.iload_n 2, .null)] = true := by decide +kernel
theorem kX10_trade_0_7 : decB cX10_trade 40 [(.iconst 1, .int 1)] = true := by decide +kernel
theorem kX10_trade_0_8 : decB cX10_trade 23 [(.bipush (-2), .int (-2))] = true := by decide +kernel
theorem kX10_trade_0_9 : decB cX10_trade 16 [(.iconst (-1), .int (-1))] = true := by decide +kernel
theorem dX10_trade_2 : decode cX10_trade 2 = .ok (.invokevirtual 185, 3) := by decide +kernel
theorem dX10_trade_5 : decode cX10_trade 5 = .ok (.ifCond .eq 11, 3) := by decide +kernel
theorem dX10_trade_10 : decode cX10_trade 10 = .ok (.invokevirtual 185, 3) := by decide +kernel
theorem dX10_trade_13 : decode cX10_trade 13 = .ok (.ifCond .ne 5, 3) := by decide +kernel
theorem dX10_trade_17 : decode cX10_trade 17 = .ok (.ireturn, 1) := by decide +kernel
theorem dX10_trade_20 : decode cX10_trade 20 = .ok (.if_icmp .ne 6, 3) := by decide +kernel
theorem dX10_trade_25 : decode cX10_trade 25 = .ok (.ireturn, 1) := by decide +kernel
theorem dX10_trade_27 : decode cX10_trade 27 = .ok (.invokevirtual 226, 3) := by decide +kernel
theorem dX10_trade_32 : decode cX10_trade 32 = .ok (.getfield 13, 3) := by decide +kernel
theorem dX10_trade_37 : decode cX10_trade 37 = .ok (.invokevirtual 233, 3) := by decide +kernel
theorem dX10_trade_41 : decode cX10_trade 41 = .ok (.ireturn, 1) := by decide +kernel
def FX10_trade  (a0 : Nat) (a1 : Int32) (a2 : Int32) (H : Hp) : Option (Int32 × Hp) :=
  gp (isO H a0 9 = true) (
    bd2 (FX10_isSquare a0 a1 H) fun x1 H2 =>
    if (x1 = 0 : Prop) then
      some ((-1), H2)
    else
      gp (isO H2 a0 9 = true) (
        bd2 (FX10_isSquare a0 a2 H2) fun x3 H4 =>
        if (x3 = 0 : Prop) then
          some ((-1), H4)
        else
          if (a1 = a2 : Prop) then
            some ((-2), H4)
          else
            gp (isO H4 a0 9 = true) (
              bd2 (FX10_note a0  H4) fun _ H6 =>
              bd (gA H6 a0 9 2) fun x7 =>
              gp (isO H6 a0 9 = true) (
                bd2 (FX10_change a0 x7 a1 a2 H6) fun _ H9 =>
                some (1, H9)
                )
              )
        )
    )
set_option maxHeartbeats 4000000 in
set_option maxRecDepth 100000 in
theorem tFX10_trade {G : GG} {r : Int32} {H' : Hp}   {a0 : Nat} {a1 : Int32} {a2 : Int32} {H : Hp} (h : FX10_trade  a0 a1 a2 H = some (r, H')) : Sn G (T0 G (some (.int r)) H') mX10_trade 0 [some (.ref a0), some (.int a1), some (.int a2)] [] H := by
  unfold FX10_trade at h
  refine sn_blk _ kX10_trade_0_0 (pc' := 2) (L' := [some (.ref a0), some (.int a1), some (.int a2)]) (st' := [.int a1, .ref a0]) rfl rfl ?_
  obtain ⟨ho, h⟩ := gp_inv h
  obtain ⟨fs, ho⟩ := isO_inv ho
  obtain ⟨x1, H2, hx1, h⟩ := bd2_inv h
  refine sn_callv (av := [.int a1]) (st := []) (M2 := mX10_isSquare) dX10_trade_2 msX10_isSquare mlX10_185 rfl rfl rfl rfl rfl ho (sX10_isSquare hx1) ?_
  refine sn_if_eq (tgt := 16) dX10_trade_5 (by decide) (fun c => ?_) (fun c => ?_)
  · rw [if_pos c] at h
    refine sn_blk _ kX10_trade_0_1 (pc' := 17) (L' := [some (.ref a0), some (.int a1), some (.int a2)]) (st' := [.int (-1)]) rfl rfl ?_
    cases h
    exact sn_iret (ty := .int) dX10_trade_17 rfl rfl
  · rw [if_neg c] at h
    refine sn_blk _ kX10_trade_0_2 (pc' := 10) (L' := [some (.ref a0), some (.int a1), some (.int a2)]) (st' := [.int a2, .ref a0]) rfl rfl ?_
    obtain ⟨ho, h⟩ := gp_inv h
    obtain ⟨fs, ho⟩ := isO_inv ho
    obtain ⟨x3, H4, hx3, h⟩ := bd2_inv h
    refine sn_callv (av := [.int a2]) (st := []) (M2 := mX10_isSquare) dX10_trade_10 msX10_isSquare mlX10_185 rfl rfl rfl rfl rfl ho (sX10_isSquare hx3) ?_
    refine sn_if_ne (tgt := 18) dX10_trade_13 (by decide) (fun c => ?_) (fun c => ?_)
    · rw [if_neg c] at h
      refine sn_blk _ kX10_trade_0_3 (pc' := 20) (L' := [some (.ref a0), some (.int a1), some (.int a2)]) (st' := [.int a2, .int a1]) rfl rfl ?_
      refine sn_icmp_ne (tgt := 26) dX10_trade_20 (by decide) (fun c => ?_) (fun c => ?_)
      · rw [if_neg c] at h
        refine sn_blk _ kX10_trade_0_4 (pc' := 27) (L' := [some (.ref a0), some (.int a1), some (.int a2)]) (st' := [.ref a0]) rfl rfl ?_
        obtain ⟨ho, h⟩ := gp_inv h
        obtain ⟨fs, ho⟩ := isO_inv ho
        obtain ⟨x5, H6, hx5, h⟩ := bd2_inv h
        refine sn_callv (av := []) (st := []) (M2 := mX10_note) dX10_trade_27 msX10_note mlX10_226 rfl rfl rfl rfl rfl ho (sX10_note hx5) ?_
        refine sn_blk _ kX10_trade_0_5 (pc' := 32) (L' := [some (.ref a0), some (.int a1), some (.int a2)]) (st' := [.ref a0, .ref a0]) rfl rfl ?_
        obtain ⟨x7, hx7, h⟩ := bd_inv h
        refine sn_gA dX10_trade_32 foX10_13 hx7 ?_
        refine sn_blk _ kX10_trade_0_6 (pc' := 37) (L' := [some (.ref a0), some (.int a1), some (.int a2)]) (st' := [.int a2, .int a1, .ref x7, .ref a0]) rfl rfl ?_
        obtain ⟨ho, h⟩ := gp_inv h
        obtain ⟨fs, ho⟩ := isO_inv ho
        obtain ⟨x8, H9, hx8, h⟩ := bd2_inv h
        refine sn_callv (av := [.ref x7, .int a1, .int a2]) (st := []) (M2 := mX10_change) dX10_trade_37 msX10_change mlX10_233 rfl rfl rfl rfl rfl ho (sX10_change hx8) ?_
        refine sn_blk _ kX10_trade_0_7 (pc' := 41) (L' := [some (.ref a0), some (.int a1), some (.int a2)]) (st' := [.int 1]) rfl rfl ?_
        cases h
        exact sn_iret (ty := .int) dX10_trade_41 rfl rfl
      · rw [if_pos c] at h
        refine sn_blk _ kX10_trade_0_8 (pc' := 25) (L' := [some (.ref a0), some (.int a1), some (.int a2)]) (st' := [.int (-2)]) rfl rfl ?_
        cases h
        exact sn_iret (ty := .int) dX10_trade_25 rfl rfl
    · rw [if_pos c] at h
      refine sn_blk _ kX10_trade_0_9 (pc' := 17) (L' := [some (.ref a0), some (.int a1), some (.int a2)]) (st' := [.int (-1)]) rfl rfl ?_
      cases h
      exact sn_iret (ty := .int) dX10_trade_17 rfl rfl
theorem sX10_trade {G : GG} {r : Int32} {H' : Hp} {a0 : Nat} {a1 : Int32} {a2 : Int32} {H : Hp} (h : FX10_trade a0 a1 a2 H = some (r, H')) : SM G mX10_trade [.ref a0, .int a1, .int a2] H (some (.int r)) H' := tFX10_trade h
/-! SquareFoldsModel.undo()I -/
theorem kX10_undo_0_0 : decB cX10_undo 0 [(.aload_n 0, .null)] = true := by decide +kernel
theorem kX10_undo_0_1 : decB cX10_undo 10 [(.aload_n 0, .null), (.dup, .null)] = true := by decide +kernel
theorem kX10_undo_0_2 : decB cX10_undo 15 [(.iconst 1, .int 1), (.isub, .null)] = true := by decide +kernel
theorem kX10_undo_0_3 : decB cX10_undo 20 [(.aload_n 0, .null), (.aload_n 0, .null)] = true := by decide +kernel
theorem kX10_undo_0_4 : decB cX10_undo 25 [(.bipush 14, .int 14), (.iadd, .null), (.iconst 1, .int 1), (.isub, .null), (.bipush 14, .int 14)] = true := by decide +kernel
theorem kX10_undo_0_5 : decB cX10_undo 36 [(.iconst 0, .int 0), (.istore_n 1, .null)] = true := by decide +kernel
theorem kX10_undo_0_6 : decB cX10_undo 7 [(.bipush (-3), .int (-3))] = true := by decide +kernel
theorem kX10_undo_38_0 : decB cX10_undo 38 [(.iload_n 1, .null), (.bipush 11, .int 11)] = true := by decide +kernel
theorem kX10_undo_38_1 : decB cX10_undo 70 [(.aload_n 0, .null)] = true := by decide +kernel
theorem kX10_undo_38_2 : decB cX10_undo 44 [(.aload_n 0, .null)] = true := by decide +kernel
theorem kX10_undo_38_3 : decB cX10_undo 48 [(.iload_n 1, .null), (.aload_n 0, .null)] = true := by decide +kernel
theorem kX10_undo_38_4 : decB cX10_undo 53 [(.bipush 11, .int 11), (.aload_n 0, .null)] = true := by decide +kernel
theorem kX10_undo_38_5 : decB cX10_undo 59 [(.imul, .null), (.iload_n 1, .null), (.iadd, .null)] = true := by decide +kernel
theorem kX10_undo_38_6 : decB cX10_undo 64 [(.iinc 1 1, .int 1), (.goto (-29), .retAddr 38)] = true := by decide +kernel
theorem dX10_undo_1 : decode cX10_undo 1 = .ok (.getfield 147, 3) := by decide +kernel
theorem dX10_undo_4 : decode cX10_undo 4 = .ok (.ifCond .ne 6, 3) := by decide +kernel
theorem dX10_undo_9 : decode cX10_undo 9 = .ok (.ireturn, 1) := by decide +kernel
theorem dX10_undo_12 : decode cX10_undo 12 = .ok (.getfield 147, 3) := by decide +kernel
theorem dX10_undo_17 : decode cX10_undo 17 = .ok (.putfield 147, 3) := by decide +kernel
theorem dX10_undo_22 : decode cX10_undo 22 = .ok (.getfield 221, 3) := by decide +kernel
theorem dX10_undo_32 : decode cX10_undo 32 = .ok (.irem, 1) := by decide +kernel
theorem dX10_undo_33 : decode cX10_undo 33 = .ok (.putfield 221, 3) := by decide +kernel
theorem dX10_undo_41 : decode cX10_undo 41 = .ok (.if_icmp .ge 29, 3) := by decide +kernel
theorem dX10_undo_45 : decode cX10_undo 45 = .ok (.getfield 13, 3) := by decide +kernel
theorem dX10_undo_50 : decode cX10_undo 50 = .ok (.getfield 25, 3) := by decide +kernel
theorem dX10_undo_56 : decode cX10_undo 56 = .ok (.getfield 221, 3) := by decide +kernel
theorem dX10_undo_62 : decode cX10_undo 62 = .ok (.iaload, 1) := by decide +kernel
theorem dX10_undo_63 : decode cX10_undo 63 = .ok (.iastore, 1) := by decide +kernel
theorem dX10_undo_71 : decode cX10_undo 71 = .ok (.getfield 147, 3) := by decide +kernel
theorem dX10_undo_74 : decode cX10_undo 74 = .ok (.ireturn, 1) := by decide +kernel
def bX10_undo_38 (K38 : Nat → Int32 → Hp → Option (Int32 × Hp)) (a0 : Nat) (a1 : Int32) (H : Hp) : Option (Int32 × Hp) :=
  if (11 ≤ a1 : Prop) then
    bd (gI H a0 9 7) fun x1 =>
    some (x1, H)
  else
    bd (gA H a0 9 2) fun x2 =>
    bd (gA H a0 9 6) fun x3 =>
    bd (gI H a0 9 8) fun x4 =>
    bd (aI H x3 0 ((11 * x4) + a1)) fun x5 =>
    bd (sI H x2 0 a1 x5) fun H6 =>
    K38 a0 (a1 + 1) H6
set_option maxHeartbeats 4000000 in
set_option maxRecDepth 100000 in
theorem tbX10_undo_38 {G : GG} {r : Int32} {H' : Hp} {K38 : Nat → Int32 → Hp → Option (Int32 × Hp)} (hK38 : ∀ (a0 : Nat) (a1 : Int32) (H : Hp), K38 a0 a1 H = some (r, H') → Sn G (T0 G (some (.int r)) H') mX10_undo 38 [some (.ref a0), some (.int a1)] [] H) {a0 : Nat} {a1 : Int32} {H : Hp} (h : bX10_undo_38 K38 a0 a1 H = some (r, H')) : Sn G (T0 G (some (.int r)) H') mX10_undo 38 [some (.ref a0), some (.int a1)] [] H := by
  unfold bX10_undo_38 at h
  refine sn_blk _ kX10_undo_38_0 (pc' := 41) (L' := [some (.ref a0), some (.int a1)]) (st' := [.int 11, .int a1]) rfl rfl ?_
  refine sn_icmp_ge (tgt := 70) dX10_undo_41 (by decide) (fun c => ?_) (fun c => ?_)
  · rw [if_pos c] at h
    refine sn_blk _ kX10_undo_38_1 (pc' := 71) (L' := [some (.ref a0), some (.int a1)]) (st' := [.ref a0]) rfl rfl ?_
    obtain ⟨x1, hx1, h⟩ := bd_inv h
    refine sn_gI dX10_undo_71 foX10_147 hx1 ?_
    cases h
    exact sn_iret (ty := .int) dX10_undo_74 rfl rfl
  · rw [if_neg c] at h
    refine sn_blk _ kX10_undo_38_2 (pc' := 45) (L' := [some (.ref a0), some (.int a1)]) (st' := [.ref a0]) rfl rfl ?_
    obtain ⟨x2, hx2, h⟩ := bd_inv h
    refine sn_gA dX10_undo_45 foX10_13 hx2 ?_
    refine sn_blk _ kX10_undo_38_3 (pc' := 50) (L' := [some (.ref a0), some (.int a1)]) (st' := [.ref a0, .int a1, .ref x2]) rfl rfl ?_
    obtain ⟨x3, hx3, h⟩ := bd_inv h
    refine sn_gA dX10_undo_50 foX10_25 hx3 ?_
    refine sn_blk _ kX10_undo_38_4 (pc' := 56) (L' := [some (.ref a0), some (.int a1)]) (st' := [.ref a0, .int 11, .ref x3, .int a1, .ref x2]) rfl rfl ?_
    obtain ⟨x4, hx4, h⟩ := bd_inv h
    refine sn_gI dX10_undo_56 foX10_221 hx4 ?_
    refine sn_blk _ kX10_undo_38_5 (pc' := 62) (L' := [some (.ref a0), some (.int a1)]) (st' := [.int ((11 * x4) + a1), .ref x3, .int a1, .ref x2]) rfl rfl ?_
    obtain ⟨x5, hx5, h⟩ := bd_inv h
    refine sn_iald dX10_undo_62 hx5 ?_
    obtain ⟨H6, hH6, h⟩ := bd_inv h
    refine sn_iast dX10_undo_63 hH6 ?_
    refine sn_blk _ kX10_undo_38_6 (pc' := 38) (L' := [some (.ref a0), some (.int (a1 + 1))]) (st' := []) rfl rfl ?_
    exact hK38 _ _ _ h
def fX10_undo_38  : Nat → Nat → Int32 → Hp → Option (Int32 × Hp)
  | 0, _, _, _ => none
  | d + 1, a0, a1, H => bX10_undo_38 (fX10_undo_38  d) a0 a1 H
theorem tfX10_undo_38 {G : GG} {r : Int32} {H' : Hp}   : ∀ (d : Nat) {a0 : Nat} {a1 : Int32} {H : Hp}, fX10_undo_38  d a0 a1 H = some (r, H') → Sn G (T0 G (some (.int r)) H') mX10_undo 38 [some (.ref a0), some (.int a1)] [] H := by
  intro d
  induction d with
  | zero => intro a0 a1 H h; cases h
  | succ d ih => intro a0 a1 H h; exact tbX10_undo_38 (fun a0 a1 H h => ih h) h
def FX10_undo  (a0 : Nat) (H : Hp) : Option (Int32 × Hp) :=
  bd (gI H a0 9 7) fun x1 =>
  if (x1 = 0 : Prop) then
    some ((-3), H)
  else
    bd (gI H a0 9 7) fun x2 =>
    bd (pV H a0 9 7 (.int (x2 - 1))) fun H3 =>
    bd (gI H3 a0 9 8) fun x4 =>
    bd (pV H3 a0 9 8 (.int (rI ((x4 + 14) - 1) 14))) fun H5 =>
    fX10_undo_38  4096 a0 0 H5
set_option maxHeartbeats 4000000 in
set_option maxRecDepth 100000 in
theorem tFX10_undo {G : GG} {r : Int32} {H' : Hp}   {a0 : Nat} {H : Hp} (h : FX10_undo  a0 H = some (r, H')) : Sn G (T0 G (some (.int r)) H') mX10_undo 0 [some (.ref a0), none] [] H := by
  unfold FX10_undo at h
  refine sn_blk _ kX10_undo_0_0 (pc' := 1) (L' := [some (.ref a0), none]) (st' := [.ref a0]) rfl rfl ?_
  obtain ⟨x1, hx1, h⟩ := bd_inv h
  refine sn_gI dX10_undo_1 foX10_147 hx1 ?_
  refine sn_if_ne (tgt := 10) dX10_undo_4 (by decide) (fun c => ?_) (fun c => ?_)
  · rw [if_neg c] at h
    refine sn_blk _ kX10_undo_0_1 (pc' := 12) (L' := [some (.ref a0), none]) (st' := [.ref a0, .ref a0]) rfl rfl ?_
    obtain ⟨x2, hx2, h⟩ := bd_inv h
    refine sn_gI dX10_undo_12 foX10_147 hx2 ?_
    refine sn_blk _ kX10_undo_0_2 (pc' := 17) (L' := [some (.ref a0), none]) (st' := [.int (x2 - 1), .ref a0]) rfl rfl ?_
    obtain ⟨H3, hH3, h⟩ := bd_inv h
    refine sn_pI dX10_undo_17 foX10_147 fpX10_7 hH3 ?_
    refine sn_blk _ kX10_undo_0_3 (pc' := 22) (L' := [some (.ref a0), none]) (st' := [.ref a0, .ref a0]) rfl rfl ?_
    obtain ⟨x4, hx4, h⟩ := bd_inv h
    refine sn_gI dX10_undo_22 foX10_221 hx4 ?_
    refine sn_blk _ kX10_undo_0_4 (pc' := 32) (L' := [some (.ref a0), none]) (st' := [.int 14, .int ((x4 + 14) - 1), .ref a0]) rfl rfl ?_
    refine sn_irem dX10_undo_32 (by decide) ?_
    obtain ⟨H5, hH5, h⟩ := bd_inv h
    refine sn_pI dX10_undo_33 foX10_221 fpX10_8 hH5 ?_
    refine sn_blk _ kX10_undo_0_5 (pc' := 38) (L' := [some (.ref a0), some (.int 0)]) (st' := []) rfl rfl ?_
    exact tfX10_undo_38  4096 h
  · rw [if_pos c] at h
    refine sn_blk _ kX10_undo_0_6 (pc' := 9) (L' := [some (.ref a0), none]) (st' := [.int (-3)]) rfl rfl ?_
    cases h
    exact sn_iret (ty := .int) dX10_undo_9 rfl rfl
theorem sX10_undo {G : GG} {r : Int32} {H' : Hp} {a0 : Nat} {H : Hp} (h : FX10_undo a0 H = some (r, H')) : SM G mX10_undo [.ref a0] H (some (.int r)) H' := tFX10_undo h
/-! SquareFoldsModel.placeOf(J)I -/
theorem kX10_placeOf_0_0 : decB cX10_placeOf 0 [(.bipush (-9), .int (-9)), (.istore_n 3, .null), (.iconst 0, .int 0), (.istore 4, .null)] = true := by decide +kernel
theorem kX10_placeOf_6_0 : decB cX10_placeOf 6 [(.iload 4, .null), (.aload_n 0, .null)] = true := by decide +kernel
theorem kX10_placeOf_6_1 : decB cX10_placeOf 40 [(.iload_n 3, .null)] = true := by decide +kernel
theorem kX10_placeOf_6_2 : decB cX10_placeOf 15 [(.aload_n 0, .null)] = true := by decide +kernel
theorem kX10_placeOf_6_3 : decB cX10_placeOf 19 [(.iload 4, .null)] = true := by decide +kernel
theorem kX10_placeOf_6_4 : decB cX10_placeOf 22 [(.lload_n 1, .null), (.lcmp, .null)] = true := by decide +kernel
theorem kX10_placeOf_6_5 : decB cX10_placeOf 32 [(.iload_n 3, .null), (.istore_n 3, .null), (.iinc 4 1, .int 1), (.goto (-31), .retAddr 6)] = true := by decide +kernel
theorem kX10_placeOf_6_6 : decB cX10_placeOf 27 [(.iload 4, .null), (.goto 4, .retAddr 33), (.istore_n 3, .null), (.iinc 4 1, .int 1), (.goto (-31), .retAddr 6)] = true := by decide +kernel
theorem dX10_placeOf_9 : decode cX10_placeOf 9 = .ok (.getfield 237, 3) := by decide +kernel
theorem dX10_placeOf_12 : decode cX10_placeOf 12 = .ok (.if_icmp .ge 28, 3) := by decide +kernel
theorem dX10_placeOf_16 : decode cX10_placeOf 16 = .ok (.getfield 47, 3) := by decide +kernel
theorem dX10_placeOf_21 : decode cX10_placeOf 21 = .ok (.laload, 1) := by decide +kernel
theorem dX10_placeOf_24 : decode cX10_placeOf 24 = .ok (.ifCond .ne 8, 3) := by decide +kernel
theorem dX10_placeOf_41 : decode cX10_placeOf 41 = .ok (.ireturn, 1) := by decide +kernel
def bX10_placeOf_6 (K6 : Nat → Int64 → Int32 → Int32 → Hp → Option (Int32 × Hp)) (a0 : Nat) (a1 : Int64) (a3 : Int32) (a4 : Int32) (H : Hp) : Option (Int32 × Hp) :=
  bd (gI H a0 9 19) fun x1 =>
  if (x1 ≤ a4 : Prop) then
    some (a3, H)
  else
    bd (gA H a0 9 17) fun x2 =>
    bd (aJ H x2 a4) fun x3 =>
    if ((lg_cmp x3 a1) = 0 : Prop) then
      K6 a0 a1 a4 (a4 + 1) H
    else
      K6 a0 a1 a3 (a4 + 1) H
set_option maxHeartbeats 4000000 in
set_option maxRecDepth 100000 in
theorem tbX10_placeOf_6 {G : GG} {r : Int32} {H' : Hp} {K6 : Nat → Int64 → Int32 → Int32 → Hp → Option (Int32 × Hp)} (hK6 : ∀ (a0 : Nat) (a1 : Int64) (a3 : Int32) (a4 : Int32) (H : Hp), K6 a0 a1 a3 a4 H = some (r, H') → Sn G (T0 G (some (.int r)) H') mX10_placeOf 6 [some (.ref a0), some (.long a1), none, some (.int a3), some (.int a4)] [] H) {a0 : Nat} {a1 : Int64} {a3 : Int32} {a4 : Int32} {H : Hp} (h : bX10_placeOf_6 K6 a0 a1 a3 a4 H = some (r, H')) : Sn G (T0 G (some (.int r)) H') mX10_placeOf 6 [some (.ref a0), some (.long a1), none, some (.int a3), some (.int a4)] [] H := by
  unfold bX10_placeOf_6 at h
  refine sn_blk _ kX10_placeOf_6_0 (pc' := 9) (L' := [some (.ref a0), some (.long a1), none, some (.int a3), some (.int a4)]) (st' := [.ref a0, .int a4]) rfl rfl ?_
  obtain ⟨x1, hx1, h⟩ := bd_inv h
  refine sn_gI dX10_placeOf_9 foX10_237 hx1 ?_
  refine sn_icmp_ge (tgt := 40) dX10_placeOf_12 (by decide) (fun c => ?_) (fun c => ?_)
  · rw [if_pos c] at h
    refine sn_blk _ kX10_placeOf_6_1 (pc' := 41) (L' := [some (.ref a0), some (.long a1), none, some (.int a3), some (.int a4)]) (st' := [.int a3]) rfl rfl ?_
    cases h
    exact sn_iret (ty := .int) dX10_placeOf_41 rfl rfl
  · rw [if_neg c] at h
    refine sn_blk _ kX10_placeOf_6_2 (pc' := 16) (L' := [some (.ref a0), some (.long a1), none, some (.int a3), some (.int a4)]) (st' := [.ref a0]) rfl rfl ?_
    obtain ⟨x2, hx2, h⟩ := bd_inv h
    refine sn_gA dX10_placeOf_16 foX10_47 hx2 ?_
    refine sn_blk _ kX10_placeOf_6_3 (pc' := 21) (L' := [some (.ref a0), some (.long a1), none, some (.int a3), some (.int a4)]) (st' := [.int a4, .ref x2]) rfl rfl ?_
    obtain ⟨x3, hx3, h⟩ := bd_inv h
    refine sn_lald dX10_placeOf_21 hx3 ?_
    refine sn_blk _ kX10_placeOf_6_4 (pc' := 24) (L' := [some (.ref a0), some (.long a1), none, some (.int a3), some (.int a4)]) (st' := [.int (lg_cmp x3 a1)]) rfl rfl ?_
    refine sn_if_ne (tgt := 32) dX10_placeOf_24 (by decide) (fun c => ?_) (fun c => ?_)
    · rw [if_neg c] at h
      refine sn_blk _ kX10_placeOf_6_5 (pc' := 6) (L' := [some (.ref a0), some (.long a1), none, some (.int a3), some (.int (a4 + 1))]) (st' := []) rfl rfl ?_
      exact hK6 _ _ _ _ _ h
    · rw [if_pos c] at h
      refine sn_blk _ kX10_placeOf_6_6 (pc' := 6) (L' := [some (.ref a0), some (.long a1), none, some (.int a4), some (.int (a4 + 1))]) (st' := []) rfl rfl ?_
      exact hK6 _ _ _ _ _ h
def fX10_placeOf_6  : Nat → Nat → Int64 → Int32 → Int32 → Hp → Option (Int32 × Hp)
  | 0, _, _, _, _, _ => none
  | d + 1, a0, a1, a3, a4, H => bX10_placeOf_6 (fX10_placeOf_6  d) a0 a1 a3 a4 H
theorem tfX10_placeOf_6 {G : GG} {r : Int32} {H' : Hp}   : ∀ (d : Nat) {a0 : Nat} {a1 : Int64} {a3 : Int32} {a4 : Int32} {H : Hp}, fX10_placeOf_6  d a0 a1 a3 a4 H = some (r, H') → Sn G (T0 G (some (.int r)) H') mX10_placeOf 6 [some (.ref a0), some (.long a1), none, some (.int a3), some (.int a4)] [] H := by
  intro d
  induction d with
  | zero => intro a0 a1 a3 a4 H h; cases h
  | succ d ih => intro a0 a1 a3 a4 H h; exact tbX10_placeOf_6 (fun a0 a1 a3 a4 H h => ih h) h
def FX10_placeOf  (a0 : Nat) (a1 : Int64) (H : Hp) : Option (Int32 × Hp) :=
  fX10_placeOf_6  4096 a0 a1 (-9) 0 H
set_option maxHeartbeats 4000000 in
set_option maxRecDepth 100000 in
theorem tFX10_placeOf {G : GG} {r : Int32} {H' : Hp}   {a0 : Nat} {a1 : Int64} {H : Hp} (h : FX10_placeOf  a0 a1 H = some (r, H')) : Sn G (T0 G (some (.int r)) H') mX10_placeOf 0 [some (.ref a0), some (.long a1), none, none, none] [] H := by
  unfold FX10_placeOf at h
  refine sn_blk _ kX10_placeOf_0_0 (pc' := 6) (L' := [some (.ref a0), some (.long a1), none, some (.int (-9)), some (.int 0)]) (st' := []) rfl rfl ?_
  exact tfX10_placeOf_6  4096 h
theorem sX10_placeOf {G : GG} {r : Int32} {H' : Hp} {a0 : Nat} {a1 : Int64} {H : Hp} (h : FX10_placeOf a0 a1 H = some (r, H')) : SM G mX10_placeOf [.ref a0, .long a1] H (some (.int r)) H' := tFX10_placeOf h
/-! SquareFoldsModel.enter(J)I -/
theorem kX10_enter_0_0 : decB cX10_enter 0 [(.aload_n 0, .null), (.lload_n 1, .null)] = true := by decide +kernel
theorem kX10_enter_0_1 : decB cX10_enter 5 [(.istore_n 3, .null), (.iload_n 3, .null), (.bipush (-9), .int (-9))] = true := by decide +kernel
theorem kX10_enter_0_2 : decB cX10_enter 14 [(.aload_n 0, .null)] = true := by decide +kernel
theorem kX10_enter_0_3 : decB cX10_enter 18 [(.aload_n 0, .null)] = true := by decide +kernel
theorem kX10_enter_0_4 : decB cX10_enter 22 [(.lload_n 1, .null)] = true := by decide +kernel
theorem kX10_enter_0_5 : decB cX10_enter 24 [(.aload_n 0, .null), (.dup, .null)] = true := by decide +kernel
theorem kX10_enter_0_6 : decB cX10_enter 29 [(.iconst 1, .int 1), (.iadd, .null)] = true := by decide +kernel
theorem kX10_enter_0_7 : decB cX10_enter 34 [(.aload_n 0, .null)] = true := by decide +kernel
theorem kX10_enter_0_8 : decB cX10_enter 38 [(.iconst 1, .int 1), (.isub, .null)] = true := by decide +kernel
theorem kX10_enter_0_9 : decB cX10_enter 12 [(.iload_n 3, .null)] = true := by decide +kernel
theorem dX10_enter_2 : decode cX10_enter 2 = .ok (.invokevirtual 240, 3) := by decide +kernel
theorem dX10_enter_9 : decode cX10_enter 9 = .ok (.if_icmp .eq 5, 3) := by decide +kernel
theorem dX10_enter_13 : decode cX10_enter 13 = .ok (.ireturn, 1) := by decide +kernel
theorem dX10_enter_15 : decode cX10_enter 15 = .ok (.getfield 47, 3) := by decide +kernel
theorem dX10_enter_19 : decode cX10_enter 19 = .ok (.getfield 237, 3) := by decide +kernel
theorem dX10_enter_23 : decode cX10_enter 23 = .ok (.lastore, 1) := by decide +kernel
theorem dX10_enter_26 : decode cX10_enter 26 = .ok (.getfield 237, 3) := by decide +kernel
theorem dX10_enter_31 : decode cX10_enter 31 = .ok (.putfield 237, 3) := by decide +kernel
theorem dX10_enter_35 : decode cX10_enter 35 = .ok (.getfield 237, 3) := by decide +kernel
theorem dX10_enter_40 : decode cX10_enter 40 = .ok (.ireturn, 1) := by decide +kernel
def FX10_enter  (a0 : Nat) (a1 : Int64) (H : Hp) : Option (Int32 × Hp) :=
  gp (isO H a0 9 = true) (
    bd2 (FX10_placeOf a0 a1 H) fun x1 H2 =>
    if (x1 = (-9) : Prop) then
      bd (gA H2 a0 9 17) fun x3 =>
      bd (gI H2 a0 9 19) fun x4 =>
      bd (sJ H2 x3 x4 a1) fun H5 =>
      bd (gI H5 a0 9 19) fun x6 =>
      bd (pV H5 a0 9 19 (.int (x6 + 1))) fun H7 =>
      bd (gI H7 a0 9 19) fun x8 =>
      some ((x8 - 1), H7)
    else
      some (x1, H2)
    )
set_option maxHeartbeats 4000000 in
set_option maxRecDepth 100000 in
theorem tFX10_enter {G : GG} {r : Int32} {H' : Hp}   {a0 : Nat} {a1 : Int64} {H : Hp} (h : FX10_enter  a0 a1 H = some (r, H')) : Sn G (T0 G (some (.int r)) H') mX10_enter 0 [some (.ref a0), some (.long a1), none, none] [] H := by
  unfold FX10_enter at h
  refine sn_blk _ kX10_enter_0_0 (pc' := 2) (L' := [some (.ref a0), some (.long a1), none, none]) (st' := [.long a1, .ref a0]) rfl rfl ?_
  obtain ⟨ho, h⟩ := gp_inv h
  obtain ⟨fs, ho⟩ := isO_inv ho
  obtain ⟨x1, H2, hx1, h⟩ := bd2_inv h
  refine sn_callv (av := [.long a1]) (st := []) (M2 := mX10_placeOf) dX10_enter_2 msX10_placeOf mlX10_240 rfl rfl rfl rfl rfl ho (sX10_placeOf hx1) ?_
  refine sn_blk _ kX10_enter_0_1 (pc' := 9) (L' := [some (.ref a0), some (.long a1), none, some (.int x1)]) (st' := [.int (-9), .int x1]) rfl rfl ?_
  refine sn_icmp_eq (tgt := 14) dX10_enter_9 (by decide) (fun c => ?_) (fun c => ?_)
  · rw [if_pos c] at h
    refine sn_blk _ kX10_enter_0_2 (pc' := 15) (L' := [some (.ref a0), some (.long a1), none, some (.int x1)]) (st' := [.ref a0]) rfl rfl ?_
    obtain ⟨x3, hx3, h⟩ := bd_inv h
    refine sn_gA dX10_enter_15 foX10_47 hx3 ?_
    refine sn_blk _ kX10_enter_0_3 (pc' := 19) (L' := [some (.ref a0), some (.long a1), none, some (.int x1)]) (st' := [.ref a0, .ref x3]) rfl rfl ?_
    obtain ⟨x4, hx4, h⟩ := bd_inv h
    refine sn_gI dX10_enter_19 foX10_237 hx4 ?_
    refine sn_blk _ kX10_enter_0_4 (pc' := 23) (L' := [some (.ref a0), some (.long a1), none, some (.int x1)]) (st' := [.long a1, .int x4, .ref x3]) rfl rfl ?_
    obtain ⟨H5, hH5, h⟩ := bd_inv h
    refine sn_last dX10_enter_23 hH5 ?_
    refine sn_blk _ kX10_enter_0_5 (pc' := 26) (L' := [some (.ref a0), some (.long a1), none, some (.int x1)]) (st' := [.ref a0, .ref a0]) rfl rfl ?_
    obtain ⟨x6, hx6, h⟩ := bd_inv h
    refine sn_gI dX10_enter_26 foX10_237 hx6 ?_
    refine sn_blk _ kX10_enter_0_6 (pc' := 31) (L' := [some (.ref a0), some (.long a1), none, some (.int x1)]) (st' := [.int (x6 + 1), .ref a0]) rfl rfl ?_
    obtain ⟨H7, hH7, h⟩ := bd_inv h
    refine sn_pI dX10_enter_31 foX10_237 fpX10_19 hH7 ?_
    refine sn_blk _ kX10_enter_0_7 (pc' := 35) (L' := [some (.ref a0), some (.long a1), none, some (.int x1)]) (st' := [.ref a0]) rfl rfl ?_
    obtain ⟨x8, hx8, h⟩ := bd_inv h
    refine sn_gI dX10_enter_35 foX10_237 hx8 ?_
    refine sn_blk _ kX10_enter_0_8 (pc' := 40) (L' := [some (.ref a0), some (.long a1), none, some (.int x1)]) (st' := [.int (x8 - 1)]) rfl rfl ?_
    cases h
    exact sn_iret (ty := .int) dX10_enter_40 rfl rfl
  · rw [if_neg c] at h
    refine sn_blk _ kX10_enter_0_9 (pc' := 13) (L' := [some (.ref a0), some (.long a1), none, some (.int x1)]) (st' := [.int x1]) rfl rfl ?_
    cases h
    exact sn_iret (ty := .int) dX10_enter_13 rfl rfl
theorem sX10_enter {G : GG} {r : Int32} {H' : Hp} {a0 : Nat} {a1 : Int64} {H : Hp} (h : FX10_enter a0 a1 H = some (r, H')) : SM G mX10_enter [.ref a0, .long a1] H (some (.int r)) H' := tFX10_enter h
/-! SquareFoldsModel.tellBack(JI)V -/
theorem kX10_tellBack_0_0 : decB cX10_tellBack 0 [(.aload_n 0, .null)] = true := by decide +kernel
theorem kX10_tellBack_0_1 : decB cX10_tellBack 4 [(.iconst 0, .int 0), (.iload_n 3, .null)] = true := by decide +kernel
theorem kX10_tellBack_0_2 : decB cX10_tellBack 7 [(.lload_n 1, .null), (.lstore 4, .null), (.iload_n 3, .null), (.iconst 1, .int 1), (.isub, .null), (.istore 6, .null)] = true := by decide +kernel
theorem kX10_tellBack_15_0 : decB cX10_tellBack 15 [(.iload 6, .null)] = true := by decide +kernel
theorem kX10_tellBack_15_1 : decB cX10_tellBack 51 [(.iload_n 3, .null), (.iconst 1, .int 1), (.isub, .null), (.istore 6, .null)] = true := by decide +kernel
theorem kX10_tellBack_15_2 : decB cX10_tellBack 20 [(.aload_n 0, .null)] = true := by decide +kernel
theorem kX10_tellBack_15_3 : decB cX10_tellBack 24 [(.bipush 6, .int 6), (.iload 6, .null), (.iadd, .null), (.lload 4, .null)] = true := by decide +kernel
theorem kX10_tellBack_15_4 : decB cX10_tellBack 35 [(.l2i, .null)] = true := by decide +kernel
theorem kX10_tellBack_15_5 : decB cX10_tellBack 37 [(.lload 4, .null)] = true := by decide +kernel
theorem kX10_tellBack_15_6 : decB cX10_tellBack 43 [(.lstore 4, .null), (.iinc 6 (-1), .int (-1)), (.goto (-33), .retAddr 15)] = true := by decide +kernel
theorem kX10_tellBack_56_0 : decB cX10_tellBack 56 [(.iload 6, .null)] = true := by decide +kernel
theorem kX10_tellBack_56_1 : decB cX10_tellBack 61 [(.aload_n 0, .null)] = true := by decide +kernel
theorem kX10_tellBack_56_2 : decB cX10_tellBack 65 [(.iconst 1, .int 1), (.iload 6, .null), (.iadd, .null), (.lload 4, .null)] = true := by decide +kernel
theorem kX10_tellBack_56_3 : decB cX10_tellBack 75 [(.l2i, .null)] = true := by decide +kernel
theorem kX10_tellBack_56_4 : decB cX10_tellBack 77 [(.lload 4, .null)] = true := by decide +kernel
theorem kX10_tellBack_56_5 : decB cX10_tellBack 83 [(.lstore 4, .null), (.iinc 6 (-1), .int (-1)), (.goto (-32), .retAddr 56)] = true := by decide +kernel
theorem dX10_tellBack_1 : decode cX10_tellBack 1 = .ok (.getfield 19, 3) := by decide +kernel
theorem dX10_tellBack_6 : decode cX10_tellBack 6 = .ok (.iastore, 1) := by decide +kernel
theorem dX10_tellBack_17 : decode cX10_tellBack 17 = .ok (.ifCond .lt 34, 3) := by decide +kernel
theorem dX10_tellBack_21 : decode cX10_tellBack 21 = .ok (.getfield 19, 3) := by decide +kernel
theorem dX10_tellBack_31 : decode cX10_tellBack 31 = .ok (.ldc2_w 208, 3) := by decide +kernel
theorem dX10_tellBack_34 : decode cX10_tellBack 34 = .ok (.lrem, 1) := by decide +kernel
theorem dX10_tellBack_36 : decode cX10_tellBack 36 = .ok (.iastore, 1) := by decide +kernel
theorem dX10_tellBack_39 : decode cX10_tellBack 39 = .ok (.ldc2_w 208, 3) := by decide +kernel
theorem dX10_tellBack_42 : decode cX10_tellBack 42 = .ok (.ldiv, 1) := by decide +kernel
theorem dX10_tellBack_58 : decode cX10_tellBack 58 = .ok (.ifCond .lt 33, 3) := by decide +kernel
theorem dX10_tellBack_62 : decode cX10_tellBack 62 = .ok (.getfield 19, 3) := by decide +kernel
theorem dX10_tellBack_71 : decode cX10_tellBack 71 = .ok (.ldc2_w 208, 3) := by decide +kernel
theorem dX10_tellBack_74 : decode cX10_tellBack 74 = .ok (.lrem, 1) := by decide +kernel
theorem dX10_tellBack_76 : decode cX10_tellBack 76 = .ok (.iastore, 1) := by decide +kernel
theorem dX10_tellBack_79 : decode cX10_tellBack 79 = .ok (.ldc2_w 208, 3) := by decide +kernel
theorem dX10_tellBack_82 : decode cX10_tellBack 82 = .ok (.ldiv, 1) := by decide +kernel
theorem dX10_tellBack_91 : decode cX10_tellBack 91 = .ok (.return_, 1) := by decide +kernel
def bX10_tellBack_56 (K56 : Nat → Int64 → Int32 → Hp → Option (Unit × Hp)) (a0 : Nat) (a4 : Int64) (a6 : Int32) (H : Hp) : Option (Unit × Hp) :=
  if (a6 < 0 : Prop) then
    some ((), H)
  else
    bd (gA H a0 9 4) fun x1 =>
    bd (sI H x1 0 (1 + a6) (Int64.toInt32 (rJ a4 10))) fun H2 =>
    K56 a0 (a4 / 10) (a6 + (-1)) H2
set_option maxHeartbeats 4000000 in
set_option maxRecDepth 100000 in
theorem tbX10_tellBack_56 {G : GG} {r : Unit} {H' : Hp} {K56 : Nat → Int64 → Int32 → Hp → Option (Unit × Hp)} (hK56 : ∀ (a0 : Nat) (a4 : Int64) (a6 : Int32) (H : Hp), K56 a0 a4 a6 H = some (r, H') → Sn G (T0 G none H') mX10_tellBack 56 [some (.ref a0), none, none, none, some (.long a4), none, some (.int a6)] [] H) {a0 : Nat} {a4 : Int64} {a6 : Int32} {H : Hp} (h : bX10_tellBack_56 K56 a0 a4 a6 H = some (r, H')) : Sn G (T0 G none H') mX10_tellBack 56 [some (.ref a0), none, none, none, some (.long a4), none, some (.int a6)] [] H := by
  unfold bX10_tellBack_56 at h
  refine sn_blk _ kX10_tellBack_56_0 (pc' := 58) (L' := [some (.ref a0), none, none, none, some (.long a4), none, some (.int a6)]) (st' := [.int a6]) rfl rfl ?_
  refine sn_if_lt (tgt := 91) dX10_tellBack_58 (by decide) (fun c => ?_) (fun c => ?_)
  · rw [if_pos c] at h
    cases h
    exact sn_vret dX10_tellBack_91 rfl
  · rw [if_neg c] at h
    refine sn_blk _ kX10_tellBack_56_1 (pc' := 62) (L' := [some (.ref a0), none, none, none, some (.long a4), none, some (.int a6)]) (st' := [.ref a0]) rfl rfl ?_
    obtain ⟨x1, hx1, h⟩ := bd_inv h
    refine sn_gA dX10_tellBack_62 foX10_19 hx1 ?_
    refine sn_blk _ kX10_tellBack_56_2 (pc' := 71) (L' := [some (.ref a0), none, none, none, some (.long a4), none, some (.int a6)]) (st' := [.long a4, .int (1 + a6), .ref x1]) rfl rfl ?_
    refine sn_ldc2 dX10_tellBack_71 kcX10_208 ?_
    refine sn_lrem dX10_tellBack_74 (by decide) ?_
    refine sn_blk _ kX10_tellBack_56_3 (pc' := 76) (L' := [some (.ref a0), none, none, none, some (.long a4), none, some (.int a6)]) (st' := [.int (Int64.toInt32 (rJ a4 10)), .int (1 + a6), .ref x1]) rfl rfl ?_
    obtain ⟨H2, hH2, h⟩ := bd_inv h
    refine sn_iast dX10_tellBack_76 hH2 ?_
    refine sn_blk _ kX10_tellBack_56_4 (pc' := 79) (L' := [some (.ref a0), none, none, none, some (.long a4), none, some (.int a6)]) (st' := [.long a4]) rfl rfl ?_
    refine sn_ldc2 dX10_tellBack_79 kcX10_208 ?_
    refine sn_ldiv dX10_tellBack_82 (by decide) ?_
    refine sn_blk _ kX10_tellBack_56_5 (pc' := 56) (L' := [some (.ref a0), none, none, none, some (.long (a4 / 10)), none, some (.int (a6 + (-1)))]) (st' := []) rfl rfl ?_
    exact hK56 _ _ _ _ h
def fX10_tellBack_56  : Nat → Nat → Int64 → Int32 → Hp → Option (Unit × Hp)
  | 0, _, _, _, _ => none
  | d + 1, a0, a4, a6, H => bX10_tellBack_56 (fX10_tellBack_56  d) a0 a4 a6 H
theorem tfX10_tellBack_56 {G : GG} {r : Unit} {H' : Hp}   : ∀ (d : Nat) {a0 : Nat} {a4 : Int64} {a6 : Int32} {H : Hp}, fX10_tellBack_56  d a0 a4 a6 H = some (r, H') → Sn G (T0 G none H') mX10_tellBack 56 [some (.ref a0), none, none, none, some (.long a4), none, some (.int a6)] [] H := by
  intro d
  induction d with
  | zero => intro a0 a4 a6 H h; cases h
  | succ d ih => intro a0 a4 a6 H h; exact tbX10_tellBack_56 (fun a0 a4 a6 H h => ih h) h
def bX10_tellBack_15 (K15 : Nat → Int32 → Int64 → Int32 → Hp → Option (Unit × Hp)) (a0 : Nat) (a3 : Int32) (a4 : Int64) (a6 : Int32) (H : Hp) : Option (Unit × Hp) :=
  if (a6 < 0 : Prop) then
    fX10_tellBack_56  4096 a0 a4 (a3 - 1) H
  else
    bd (gA H a0 9 4) fun x1 =>
    bd (sI H x1 0 (6 + a6) (Int64.toInt32 (rJ a4 10))) fun H2 =>
    K15 a0 a3 (a4 / 10) (a6 + (-1)) H2
set_option maxHeartbeats 4000000 in
set_option maxRecDepth 100000 in
theorem tbX10_tellBack_15 {G : GG} {r : Unit} {H' : Hp} {K15 : Nat → Int32 → Int64 → Int32 → Hp → Option (Unit × Hp)} (hK15 : ∀ (a0 : Nat) (a3 : Int32) (a4 : Int64) (a6 : Int32) (H : Hp), K15 a0 a3 a4 a6 H = some (r, H') → Sn G (T0 G none H') mX10_tellBack 15 [some (.ref a0), none, none, some (.int a3), some (.long a4), none, some (.int a6)] [] H) {a0 : Nat} {a3 : Int32} {a4 : Int64} {a6 : Int32} {H : Hp} (h : bX10_tellBack_15 K15 a0 a3 a4 a6 H = some (r, H')) : Sn G (T0 G none H') mX10_tellBack 15 [some (.ref a0), none, none, some (.int a3), some (.long a4), none, some (.int a6)] [] H := by
  unfold bX10_tellBack_15 at h
  refine sn_blk _ kX10_tellBack_15_0 (pc' := 17) (L' := [some (.ref a0), none, none, some (.int a3), some (.long a4), none, some (.int a6)]) (st' := [.int a6]) rfl rfl ?_
  refine sn_if_lt (tgt := 51) dX10_tellBack_17 (by decide) (fun c => ?_) (fun c => ?_)
  · rw [if_pos c] at h
    refine sn_blk _ kX10_tellBack_15_1 (pc' := 56) (L' := [some (.ref a0), none, none, some (.int a3), some (.long a4), none, some (.int (a3 - 1))]) (st' := []) rfl rfl ?_
    refine sn_msk [true, true, true, false, true, true, true] (L2 := [some (.ref a0), none, none, none, some (.long a4), none, some (.int (a3 - 1))]) rfl ?_
    exact tfX10_tellBack_56  4096 h
  · rw [if_neg c] at h
    refine sn_blk _ kX10_tellBack_15_2 (pc' := 21) (L' := [some (.ref a0), none, none, some (.int a3), some (.long a4), none, some (.int a6)]) (st' := [.ref a0]) rfl rfl ?_
    obtain ⟨x1, hx1, h⟩ := bd_inv h
    refine sn_gA dX10_tellBack_21 foX10_19 hx1 ?_
    refine sn_blk _ kX10_tellBack_15_3 (pc' := 31) (L' := [some (.ref a0), none, none, some (.int a3), some (.long a4), none, some (.int a6)]) (st' := [.long a4, .int (6 + a6), .ref x1]) rfl rfl ?_
    refine sn_ldc2 dX10_tellBack_31 kcX10_208 ?_
    refine sn_lrem dX10_tellBack_34 (by decide) ?_
    refine sn_blk _ kX10_tellBack_15_4 (pc' := 36) (L' := [some (.ref a0), none, none, some (.int a3), some (.long a4), none, some (.int a6)]) (st' := [.int (Int64.toInt32 (rJ a4 10)), .int (6 + a6), .ref x1]) rfl rfl ?_
    obtain ⟨H2, hH2, h⟩ := bd_inv h
    refine sn_iast dX10_tellBack_36 hH2 ?_
    refine sn_blk _ kX10_tellBack_15_5 (pc' := 39) (L' := [some (.ref a0), none, none, some (.int a3), some (.long a4), none, some (.int a6)]) (st' := [.long a4]) rfl rfl ?_
    refine sn_ldc2 dX10_tellBack_39 kcX10_208 ?_
    refine sn_ldiv dX10_tellBack_42 (by decide) ?_
    refine sn_blk _ kX10_tellBack_15_6 (pc' := 15) (L' := [some (.ref a0), none, none, some (.int a3), some (.long (a4 / 10)), none, some (.int (a6 + (-1)))]) (st' := []) rfl rfl ?_
    exact hK15 _ _ _ _ _ h
def fX10_tellBack_15  : Nat → Nat → Int32 → Int64 → Int32 → Hp → Option (Unit × Hp)
  | 0, _, _, _, _, _ => none
  | d + 1, a0, a3, a4, a6, H => bX10_tellBack_15 (fX10_tellBack_15  d) a0 a3 a4 a6 H
theorem tfX10_tellBack_15 {G : GG} {r : Unit} {H' : Hp}   : ∀ (d : Nat) {a0 : Nat} {a3 : Int32} {a4 : Int64} {a6 : Int32} {H : Hp}, fX10_tellBack_15  d a0 a3 a4 a6 H = some (r, H') → Sn G (T0 G none H') mX10_tellBack 15 [some (.ref a0), none, none, some (.int a3), some (.long a4), none, some (.int a6)] [] H := by
  intro d
  induction d with
  | zero => intro a0 a3 a4 a6 H h; cases h
  | succ d ih => intro a0 a3 a4 a6 H h; exact tbX10_tellBack_15 (fun a0 a3 a4 a6 H h => ih h) h
def FX10_tellBack  (a0 : Nat) (a1 : Int64) (a3 : Int32) (H : Hp) : Option (Unit × Hp) :=
  bd (gA H a0 9 4) fun x1 =>
  bd (sI H x1 0 0 a3) fun H2 =>
  fX10_tellBack_15  4096 a0 a3 a1 (a3 - 1) H2
set_option maxHeartbeats 4000000 in
set_option maxRecDepth 100000 in
theorem tFX10_tellBack {G : GG} {r : Unit} {H' : Hp}   {a0 : Nat} {a1 : Int64} {a3 : Int32} {H : Hp} (h : FX10_tellBack  a0 a1 a3 H = some (r, H')) : Sn G (T0 G none H') mX10_tellBack 0 [some (.ref a0), some (.long a1), none, some (.int a3), none, none, none] [] H := by
  unfold FX10_tellBack at h
  refine sn_blk _ kX10_tellBack_0_0 (pc' := 1) (L' := [some (.ref a0), some (.long a1), none, some (.int a3), none, none, none]) (st' := [.ref a0]) rfl rfl ?_
  obtain ⟨x1, hx1, h⟩ := bd_inv h
  refine sn_gA dX10_tellBack_1 foX10_19 hx1 ?_
  refine sn_blk _ kX10_tellBack_0_1 (pc' := 6) (L' := [some (.ref a0), some (.long a1), none, some (.int a3), none, none, none]) (st' := [.int a3, .int 0, .ref x1]) rfl rfl ?_
  obtain ⟨H2, hH2, h⟩ := bd_inv h
  refine sn_iast dX10_tellBack_6 hH2 ?_
  refine sn_blk _ kX10_tellBack_0_2 (pc' := 15) (L' := [some (.ref a0), some (.long a1), none, some (.int a3), some (.long a1), none, some (.int (a3 - 1))]) (st' := []) rfl rfl ?_
  refine sn_msk [true, false, true, true, true, true, true] (L2 := [some (.ref a0), none, none, some (.int a3), some (.long a1), none, some (.int (a3 - 1))]) rfl ?_
  exact tfX10_tellBack_15  4096 h
theorem sX10_tellBack {G : GG} {r : Unit} {H' : Hp} {a0 : Nat} {a1 : Int64} {a3 : Int32} {H : Hp} (h : FX10_tellBack a0 a1 a3 H = some (r, H')) : SM G mX10_tellBack [.ref a0, .long a1, .int a3] H none H' := tFX10_tellBack h
/-! SquareFoldsModel.findOrbit(I)V -/
theorem kX10_findOrbit_0_0 : decB cX10_findOrbit 0 [(.aload_n 0, .null)] = true := by decide +kernel
theorem kX10_findOrbit_0_1 : decB cX10_findOrbit 4 [(.iload_n 1, .null)] = true := by decide +kernel
theorem kX10_findOrbit_0_2 : decB cX10_findOrbit 11 [(.istore_n 2, .null), (.aload_n 0, .null), (.iconst 0, .int 0)] = true := by decide +kernel
theorem kX10_findOrbit_0_3 : decB cX10_findOrbit 17 [(.aload_n 0, .null), (.aload_n 0, .null), (.aload_n 0, .null)] = true := by decide +kernel
theorem kX10_findOrbit_0_4 : decB cX10_findOrbit 23 [(.iload_n 1, .null)] = true := by decide +kernel
theorem kX10_findOrbit_0_5 : decB cX10_findOrbit 30 [(.pop, .null), (.iconst 0, .int 0), (.istore_n 3, .null)] = true := by decide +kernel
theorem kX10_findOrbit_33_0 : decB cX10_findOrbit 33 [(.iload_n 3, .null), (.aload_n 0, .null)] = true := by decide +kernel
theorem kX10_findOrbit_33_1 : decB cX10_findOrbit 41 [(.aload_n 0, .null), (.aload_n 0, .null)] = true := by decide +kernel
theorem kX10_findOrbit_33_2 : decB cX10_findOrbit 46 [(.iload_n 3, .null)] = true := by decide +kernel
theorem kX10_findOrbit_33_3 : decB cX10_findOrbit 48 [(.iload_n 2, .null)] = true := by decide +kernel
theorem kX10_findOrbit_33_4 : decB cX10_findOrbit 52 [(.aload_n 0, .null), (.aload_n 0, .null)] = true := by decide +kernel
theorem kX10_findOrbit_33_5 : decB cX10_findOrbit 60 [(.aload_n 0, .null)] = true := by decide +kernel
theorem kX10_findOrbit_33_6 : decB cX10_findOrbit 64 [(.iload_n 3, .null), (.aload_n 0, .null), (.aload_n 0, .null), (.aload_n 0, .null)] = true := by decide +kernel
theorem kX10_findOrbit_33_7 : decB cX10_findOrbit 71 [(.iconst 0, .int 0)] = true := by decide +kernel
theorem kX10_findOrbit_33_8 : decB cX10_findOrbit 79 [(.aload_n 0, .null), (.aload_n 0, .null)] = true := by decide +kernel
theorem kX10_findOrbit_33_9 : decB cX10_findOrbit 84 [(.iload_n 3, .null)] = true := by decide +kernel
theorem kX10_findOrbit_33_10 : decB cX10_findOrbit 86 [(.iload_n 2, .null)] = true := by decide +kernel
theorem kX10_findOrbit_33_11 : decB cX10_findOrbit 90 [(.aload_n 0, .null), (.aload_n 0, .null)] = true := by decide +kernel
theorem kX10_findOrbit_33_12 : decB cX10_findOrbit 98 [(.aload_n 0, .null), (.aload_n 0, .null), (.aload_n 0, .null)] = true := by decide +kernel
theorem kX10_findOrbit_33_13 : decB cX10_findOrbit 104 [(.iconst 0, .int 0)] = true := by decide +kernel
theorem kX10_findOrbit_33_14 : decB cX10_findOrbit 111 [(.pop, .null), (.iinc 3 1, .int 1), (.goto (-82), .retAddr 33)] = true := by decide +kernel
theorem dX10_findOrbit_1 : decode cX10_findOrbit 1 = .ok (.getfield 13, 3) := by decide +kernel
theorem dX10_findOrbit_5 : decode cX10_findOrbit 5 = .ok (.invokestatic 91, 3) := by decide +kernel
theorem dX10_findOrbit_8 : decode cX10_findOrbit 8 = .ok (.invokestatic 106, 3) := by decide +kernel
theorem dX10_findOrbit_14 : decode cX10_findOrbit 14 = .ok (.putfield 237, 3) := by decide +kernel
theorem dX10_findOrbit_20 : decode cX10_findOrbit 20 = .ok (.getfield 13, 3) := by decide +kernel
theorem dX10_findOrbit_24 : decode cX10_findOrbit 24 = .ok (.invokevirtual 218, 3) := by decide +kernel
theorem dX10_findOrbit_27 : decode cX10_findOrbit 27 = .ok (.invokevirtual 244, 3) := by decide +kernel
theorem dX10_findOrbit_35 : decode cX10_findOrbit 35 = .ok (.getfield 237, 3) := by decide +kernel
theorem dX10_findOrbit_38 : decode cX10_findOrbit 38 = .ok (.if_icmp .ge 80, 3) := by decide +kernel
theorem dX10_findOrbit_43 : decode cX10_findOrbit 43 = .ok (.getfield 47, 3) := by decide +kernel
theorem dX10_findOrbit_47 : decode cX10_findOrbit 47 = .ok (.laload, 1) := by decide +kernel
theorem dX10_findOrbit_49 : decode cX10_findOrbit 49 = .ok (.invokevirtual 247, 3) := by decide +kernel
theorem dX10_findOrbit_54 : decode cX10_findOrbit 54 = .ok (.getfield 19, 3) := by decide +kernel
theorem dX10_findOrbit_57 : decode cX10_findOrbit 57 = .ok (.invokevirtual 118, 3) := by decide +kernel
theorem dX10_findOrbit_61 : decode cX10_findOrbit 61 = .ok (.getfield 51, 3) := by decide +kernel
theorem dX10_findOrbit_68 : decode cX10_findOrbit 68 = .ok (.getfield 19, 3) := by decide +kernel
theorem dX10_findOrbit_72 : decode cX10_findOrbit 72 = .ok (.invokevirtual 218, 3) := by decide +kernel
theorem dX10_findOrbit_75 : decode cX10_findOrbit 75 = .ok (.invokevirtual 244, 3) := by decide +kernel
theorem dX10_findOrbit_78 : decode cX10_findOrbit 78 = .ok (.iastore, 1) := by decide +kernel
theorem dX10_findOrbit_81 : decode cX10_findOrbit 81 = .ok (.getfield 47, 3) := by decide +kernel
theorem dX10_findOrbit_85 : decode cX10_findOrbit 85 = .ok (.laload, 1) := by decide +kernel
theorem dX10_findOrbit_87 : decode cX10_findOrbit 87 = .ok (.invokevirtual 247, 3) := by decide +kernel
theorem dX10_findOrbit_92 : decode cX10_findOrbit 92 = .ok (.getfield 19, 3) := by decide +kernel
theorem dX10_findOrbit_95 : decode cX10_findOrbit 95 = .ok (.invokevirtual 121, 3) := by decide +kernel
theorem dX10_findOrbit_101 : decode cX10_findOrbit 101 = .ok (.getfield 19, 3) := by decide +kernel
theorem dX10_findOrbit_105 : decode cX10_findOrbit 105 = .ok (.invokevirtual 218, 3) := by decide +kernel
theorem dX10_findOrbit_108 : decode cX10_findOrbit 108 = .ok (.invokevirtual 244, 3) := by decide +kernel
theorem dX10_findOrbit_118 : decode cX10_findOrbit 118 = .ok (.return_, 1) := by decide +kernel
def bX10_findOrbit_33 (K33 : Nat → Int32 → Int32 → Hp → Option (Unit × Hp)) (a0 : Nat) (a2 : Int32) (a3 : Int32) (H : Hp) : Option (Unit × Hp) :=
  bd (gI H a0 9 19) fun x1 =>
  if (x1 ≤ a3 : Prop) then
    some ((), H)
  else
    bd (gA H a0 9 17) fun x2 =>
    bd (aJ H x2 a3) fun x3 =>
    gp (isO H a0 9 = true) (
      bd2 (FX10_tellBack a0 x3 a2 H) fun _ H5 =>
      bd (gA H5 a0 9 4) fun x6 =>
      gp (isO H5 a0 9 = true) (
        bd2 (FX10_side a0 x6 H5) fun _ H8 =>
        bd (gA H8 a0 9 18) fun x9 =>
        bd (gA H8 a0 9 4) fun x10 =>
        gp (isO H8 a0 9 = true) (
          bd2 (FX10_leastName a0 x10 0 H8) fun x11 H12 =>
          gp (isO H12 a0 9 = true) (
            bd2 (FX10_enter a0 x11 H12) fun x13 H14 =>
            bd (sI H14 x9 0 a3 x13) fun H15 =>
            bd (gA H15 a0 9 17) fun x16 =>
            bd (aJ H15 x16 a3) fun x17 =>
            gp (isO H15 a0 9 = true) (
              bd2 (FX10_tellBack a0 x17 a2 H15) fun _ H19 =>
              bd (gA H19 a0 9 4) fun x20 =>
              gp (isO H19 a0 9 = true) (
                bd2 (FX10_upward a0 x20 H19) fun _ H22 =>
                bd (gA H22 a0 9 4) fun x23 =>
                gp (isO H22 a0 9 = true) (
                  bd2 (FX10_leastName a0 x23 0 H22) fun x24 H25 =>
                  gp (isO H25 a0 9 = true) (
                    bd2 (FX10_enter a0 x24 H25) fun x26 H27 =>
                    K33 a0 a2 (a3 + 1) H27
                    )
                  )
                )
              )
            )
          )
        )
      )
set_option maxHeartbeats 4000000 in
set_option maxRecDepth 100000 in
theorem tbX10_findOrbit_33 {G : GG} {r : Unit} {H' : Hp} {K33 : Nat → Int32 → Int32 → Hp → Option (Unit × Hp)} (hK33 : ∀ (a0 : Nat) (a2 : Int32) (a3 : Int32) (H : Hp), K33 a0 a2 a3 H = some (r, H') → Sn G (T0 G none H') mX10_findOrbit 33 [some (.ref a0), none, some (.int a2), some (.int a3)] [] H) {a0 : Nat} {a2 : Int32} {a3 : Int32} {H : Hp} (h : bX10_findOrbit_33 K33 a0 a2 a3 H = some (r, H')) : Sn G (T0 G none H') mX10_findOrbit 33 [some (.ref a0), none, some (.int a2), some (.int a3)] [] H := by
  unfold bX10_findOrbit_33 at h
  refine sn_blk _ kX10_findOrbit_33_0 (pc' := 35) (L' := [some (.ref a0), none, some (.int a2), some (.int a3)]) (st' := [.ref a0, .int a3]) rfl rfl ?_
  obtain ⟨x1, hx1, h⟩ := bd_inv h
  refine sn_gI dX10_findOrbit_35 foX10_237 hx1 ?_
  refine sn_icmp_ge (tgt := 118) dX10_findOrbit_38 (by decide) (fun c => ?_) (fun c => ?_)
  · rw [if_pos c] at h
    cases h
    exact sn_vret dX10_findOrbit_118 rfl
  · rw [if_neg c] at h
    refine sn_blk _ kX10_findOrbit_33_1 (pc' := 43) (L' := [some (.ref a0), none, some (.int a2), some (.int a3)]) (st' := [.ref a0, .ref a0]) rfl rfl ?_
    obtain ⟨x2, hx2, h⟩ := bd_inv h
    refine sn_gA dX10_findOrbit_43 foX10_47 hx2 ?_
    refine sn_blk _ kX10_findOrbit_33_2 (pc' := 47) (L' := [some (.ref a0), none, some (.int a2), some (.int a3)]) (st' := [.int a3, .ref x2, .ref a0]) rfl rfl ?_
    obtain ⟨x3, hx3, h⟩ := bd_inv h
    refine sn_lald dX10_findOrbit_47 hx3 ?_
    refine sn_blk _ kX10_findOrbit_33_3 (pc' := 49) (L' := [some (.ref a0), none, some (.int a2), some (.int a3)]) (st' := [.int a2, .long x3, .ref a0]) rfl rfl ?_
    obtain ⟨ho, h⟩ := gp_inv h
    obtain ⟨fs, ho⟩ := isO_inv ho
    obtain ⟨x4, H5, hx4, h⟩ := bd2_inv h
    refine sn_callv (av := [.long x3, .int a2]) (st := []) (M2 := mX10_tellBack) dX10_findOrbit_49 msX10_tellBack mlX10_247 rfl rfl rfl rfl rfl ho (sX10_tellBack hx4) ?_
    refine sn_blk _ kX10_findOrbit_33_4 (pc' := 54) (L' := [some (.ref a0), none, some (.int a2), some (.int a3)]) (st' := [.ref a0, .ref a0]) rfl rfl ?_
    obtain ⟨x6, hx6, h⟩ := bd_inv h
    refine sn_gA dX10_findOrbit_54 foX10_19 hx6 ?_
    obtain ⟨ho, h⟩ := gp_inv h
    obtain ⟨fs, ho⟩ := isO_inv ho
    obtain ⟨x7, H8, hx7, h⟩ := bd2_inv h
    refine sn_callv (av := [.ref x6]) (st := []) (M2 := mX10_side) dX10_findOrbit_57 msX10_side mlX10_118 rfl rfl rfl rfl rfl ho (sX10_side hx7) ?_
    refine sn_blk _ kX10_findOrbit_33_5 (pc' := 61) (L' := [some (.ref a0), none, some (.int a2), some (.int a3)]) (st' := [.ref a0]) rfl rfl ?_
    obtain ⟨x9, hx9, h⟩ := bd_inv h
    refine sn_gA dX10_findOrbit_61 foX10_51 hx9 ?_
    refine sn_blk _ kX10_findOrbit_33_6 (pc' := 68) (L' := [some (.ref a0), none, some (.int a2), some (.int a3)]) (st' := [.ref a0, .ref a0, .ref a0, .int a3, .ref x9]) rfl rfl ?_
    obtain ⟨x10, hx10, h⟩ := bd_inv h
    refine sn_gA dX10_findOrbit_68 foX10_19 hx10 ?_
    refine sn_blk _ kX10_findOrbit_33_7 (pc' := 72) (L' := [some (.ref a0), none, some (.int a2), some (.int a3)]) (st' := [.int 0, .ref x10, .ref a0, .ref a0, .int a3, .ref x9]) rfl rfl ?_
    obtain ⟨ho, h⟩ := gp_inv h
    obtain ⟨fs, ho⟩ := isO_inv ho
    obtain ⟨x11, H12, hx11, h⟩ := bd2_inv h
    refine sn_callv (av := [.ref x10, .int 0]) (st := [.ref a0, .int a3, .ref x9]) (M2 := mX10_leastName) dX10_findOrbit_72 msX10_leastName mlX10_218 rfl rfl rfl rfl rfl ho (sX10_leastName hx11) ?_
    obtain ⟨ho, h⟩ := gp_inv h
    obtain ⟨fs, ho⟩ := isO_inv ho
    obtain ⟨x13, H14, hx13, h⟩ := bd2_inv h
    refine sn_callv (av := [.long x11]) (st := [.int a3, .ref x9]) (M2 := mX10_enter) dX10_findOrbit_75 msX10_enter mlX10_244 rfl rfl rfl rfl rfl ho (sX10_enter hx13) ?_
    obtain ⟨H15, hH15, h⟩ := bd_inv h
    refine sn_iast dX10_findOrbit_78 hH15 ?_
    refine sn_blk _ kX10_findOrbit_33_8 (pc' := 81) (L' := [some (.ref a0), none, some (.int a2), some (.int a3)]) (st' := [.ref a0, .ref a0]) rfl rfl ?_
    obtain ⟨x16, hx16, h⟩ := bd_inv h
    refine sn_gA dX10_findOrbit_81 foX10_47 hx16 ?_
    refine sn_blk _ kX10_findOrbit_33_9 (pc' := 85) (L' := [some (.ref a0), none, some (.int a2), some (.int a3)]) (st' := [.int a3, .ref x16, .ref a0]) rfl rfl ?_
    obtain ⟨x17, hx17, h⟩ := bd_inv h
    refine sn_lald dX10_findOrbit_85 hx17 ?_
    refine sn_blk _ kX10_findOrbit_33_10 (pc' := 87) (L' := [some (.ref a0), none, some (.int a2), some (.int a3)]) (st' := [.int a2, .long x17, .ref a0]) rfl rfl ?_
    obtain ⟨ho, h⟩ := gp_inv h
    obtain ⟨fs, ho⟩ := isO_inv ho
    obtain ⟨x18, H19, hx18, h⟩ := bd2_inv h
    refine sn_callv (av := [.long x17, .int a2]) (st := []) (M2 := mX10_tellBack) dX10_findOrbit_87 msX10_tellBack mlX10_247 rfl rfl rfl rfl rfl ho (sX10_tellBack hx18) ?_
    refine sn_blk _ kX10_findOrbit_33_11 (pc' := 92) (L' := [some (.ref a0), none, some (.int a2), some (.int a3)]) (st' := [.ref a0, .ref a0]) rfl rfl ?_
    obtain ⟨x20, hx20, h⟩ := bd_inv h
    refine sn_gA dX10_findOrbit_92 foX10_19 hx20 ?_
    obtain ⟨ho, h⟩ := gp_inv h
    obtain ⟨fs, ho⟩ := isO_inv ho
    obtain ⟨x21, H22, hx21, h⟩ := bd2_inv h
    refine sn_callv (av := [.ref x20]) (st := []) (M2 := mX10_upward) dX10_findOrbit_95 msX10_upward mlX10_121 rfl rfl rfl rfl rfl ho (sX10_upward hx21) ?_
    refine sn_blk _ kX10_findOrbit_33_12 (pc' := 101) (L' := [some (.ref a0), none, some (.int a2), some (.int a3)]) (st' := [.ref a0, .ref a0, .ref a0]) rfl rfl ?_
    obtain ⟨x23, hx23, h⟩ := bd_inv h
    refine sn_gA dX10_findOrbit_101 foX10_19 hx23 ?_
    refine sn_blk _ kX10_findOrbit_33_13 (pc' := 105) (L' := [some (.ref a0), none, some (.int a2), some (.int a3)]) (st' := [.int 0, .ref x23, .ref a0, .ref a0]) rfl rfl ?_
    obtain ⟨ho, h⟩ := gp_inv h
    obtain ⟨fs, ho⟩ := isO_inv ho
    obtain ⟨x24, H25, hx24, h⟩ := bd2_inv h
    refine sn_callv (av := [.ref x23, .int 0]) (st := [.ref a0]) (M2 := mX10_leastName) dX10_findOrbit_105 msX10_leastName mlX10_218 rfl rfl rfl rfl rfl ho (sX10_leastName hx24) ?_
    obtain ⟨ho, h⟩ := gp_inv h
    obtain ⟨fs, ho⟩ := isO_inv ho
    obtain ⟨x26, H27, hx26, h⟩ := bd2_inv h
    refine sn_callv (av := [.long x24]) (st := []) (M2 := mX10_enter) dX10_findOrbit_108 msX10_enter mlX10_244 rfl rfl rfl rfl rfl ho (sX10_enter hx26) ?_
    refine sn_blk _ kX10_findOrbit_33_14 (pc' := 33) (L' := [some (.ref a0), none, some (.int a2), some (.int (a3 + 1))]) (st' := []) rfl rfl ?_
    exact hK33 _ _ _ _ h
def fX10_findOrbit_33  : Nat → Nat → Int32 → Int32 → Hp → Option (Unit × Hp)
  | 0, _, _, _, _ => none
  | d + 1, a0, a2, a3, H => bX10_findOrbit_33 (fX10_findOrbit_33  d) a0 a2 a3 H
theorem tfX10_findOrbit_33 {G : GG} {r : Unit} {H' : Hp}   : ∀ (d : Nat) {a0 : Nat} {a2 : Int32} {a3 : Int32} {H : Hp}, fX10_findOrbit_33  d a0 a2 a3 H = some (r, H') → Sn G (T0 G none H') mX10_findOrbit 33 [some (.ref a0), none, some (.int a2), some (.int a3)] [] H := by
  intro d
  induction d with
  | zero => intro a0 a2 a3 H h; cases h
  | succ d ih => intro a0 a2 a3 H h; exact tbX10_findOrbit_33 (fun a0 a2 a3 H h => ih h) h
def FX10_findOrbit  (a0 : Nat) (a1 : Int32) (H : Hp) : Option (Unit × Hp) :=
  bd (gA H a0 9 2) fun x1 =>
  bd2 (FX10_pieceOf x1 a1 H) fun x2 H3 =>
  bd2 (FX10_ones x2 H3) fun x4 H5 =>
  bd (pV H5 a0 9 19 (.int 0)) fun H6 =>
  bd (gA H6 a0 9 2) fun x7 =>
  gp (isO H6 a0 9 = true) (
    bd2 (FX10_leastName a0 x7 a1 H6) fun x8 H9 =>
    gp (isO H9 a0 9 = true) (
      bd2 (FX10_enter a0 x8 H9) fun x10 H11 =>
      fX10_findOrbit_33  4096 a0 x4 0 H11
      )
    )
set_option maxHeartbeats 4000000 in
set_option maxRecDepth 100000 in
theorem tFX10_findOrbit {G : GG} {r : Unit} {H' : Hp}   {a0 : Nat} {a1 : Int32} {H : Hp} (h : FX10_findOrbit  a0 a1 H = some (r, H')) : Sn G (T0 G none H') mX10_findOrbit 0 [some (.ref a0), some (.int a1), none, none] [] H := by
  unfold FX10_findOrbit at h
  refine sn_blk _ kX10_findOrbit_0_0 (pc' := 1) (L' := [some (.ref a0), some (.int a1), none, none]) (st' := [.ref a0]) rfl rfl ?_
  obtain ⟨x1, hx1, h⟩ := bd_inv h
  refine sn_gA dX10_findOrbit_1 foX10_13 hx1 ?_
  refine sn_blk _ kX10_findOrbit_0_1 (pc' := 5) (L' := [some (.ref a0), some (.int a1), none, none]) (st' := [.int a1, .ref x1]) rfl rfl ?_
  obtain ⟨x2, H3, hx2, h⟩ := bd2_inv h
  refine sn_calls (av := [.ref x1, .int a1]) (st := []) (M2 := mX10_pieceOf) dX10_findOrbit_5 msX10_pieceOf mlX10_91 rfl rfl rfl rfl rfl (sX10_pieceOf hx2) ?_
  obtain ⟨x4, H5, hx4, h⟩ := bd2_inv h
  refine sn_calls (av := [.int x2]) (st := []) (M2 := mX10_ones) dX10_findOrbit_8 msX10_ones mlX10_106 rfl rfl rfl rfl rfl (sX10_ones hx4) ?_
  refine sn_blk _ kX10_findOrbit_0_2 (pc' := 14) (L' := [some (.ref a0), some (.int a1), some (.int x4), none]) (st' := [.int 0, .ref a0]) rfl rfl ?_
  obtain ⟨H6, hH6, h⟩ := bd_inv h
  refine sn_pI dX10_findOrbit_14 foX10_237 fpX10_19 hH6 ?_
  refine sn_blk _ kX10_findOrbit_0_3 (pc' := 20) (L' := [some (.ref a0), some (.int a1), some (.int x4), none]) (st' := [.ref a0, .ref a0, .ref a0]) rfl rfl ?_
  obtain ⟨x7, hx7, h⟩ := bd_inv h
  refine sn_gA dX10_findOrbit_20 foX10_13 hx7 ?_
  refine sn_blk _ kX10_findOrbit_0_4 (pc' := 24) (L' := [some (.ref a0), some (.int a1), some (.int x4), none]) (st' := [.int a1, .ref x7, .ref a0, .ref a0]) rfl rfl ?_
  obtain ⟨ho, h⟩ := gp_inv h
  obtain ⟨fs, ho⟩ := isO_inv ho
  obtain ⟨x8, H9, hx8, h⟩ := bd2_inv h
  refine sn_callv (av := [.ref x7, .int a1]) (st := [.ref a0]) (M2 := mX10_leastName) dX10_findOrbit_24 msX10_leastName mlX10_218 rfl rfl rfl rfl rfl ho (sX10_leastName hx8) ?_
  obtain ⟨ho, h⟩ := gp_inv h
  obtain ⟨fs, ho⟩ := isO_inv ho
  obtain ⟨x10, H11, hx10, h⟩ := bd2_inv h
  refine sn_callv (av := [.long x8]) (st := []) (M2 := mX10_enter) dX10_findOrbit_27 msX10_enter mlX10_244 rfl rfl rfl rfl rfl ho (sX10_enter hx10) ?_
  refine sn_blk _ kX10_findOrbit_0_5 (pc' := 33) (L' := [some (.ref a0), some (.int a1), some (.int x4), some (.int 0)]) (st' := []) rfl rfl ?_
  refine sn_msk [true, false, true, true] (L2 := [some (.ref a0), none, some (.int x4), some (.int 0)]) rfl ?_
  exact tfX10_findOrbit_33  4096 h
theorem sX10_findOrbit {G : GG} {r : Unit} {H' : Hp} {a0 : Nat} {a1 : Int32} {H : Hp} (h : FX10_findOrbit a0 a1 H = some (r, H')) : SM G mX10_findOrbit [.ref a0, .int a1] H none H' := tFX10_findOrbit h
/-! SquareFoldsModel.ring(I)I -/
theorem kX10_ring_0_0 : decB cX10_ring 0 [(.iconst 1, .int 1), (.istore_n 2, .null), (.iconst 1, .int 1), (.istore_n 3, .null), (.aload_n 0, .null)] = true := by decide +kernel
theorem kX10_ring_0_1 : decB cX10_ring 8 [(.iload_n 1, .null)] = true := by decide +kernel
theorem kX10_ring_0_2 : decB cX10_ring 10 [(.istore 4, .null)] = true := by decide +kernel
theorem kX10_ring_12_0 : decB cX10_ring 12 [(.iload 4, .null), (.iload_n 1, .null)] = true := by decide +kernel
theorem kX10_ring_12_1 : decB cX10_ring 18 [(.iload_n 2, .null), (.sipush 128, .int 128)] = true := by decide +kernel
theorem kX10_ring_12_2 : decB cX10_ring 25 [(.iinc 2 1, .int 1), (.iload_n 3, .null)] = true := by decide +kernel
theorem kX10_ring_12_3 : decB cX10_ring 32 [(.iload 4, .null), (.iload_n 1, .null)] = true := by decide +kernel
theorem kX10_ring_12_4 : decB cX10_ring 38 [(.iconst 1, .int 1), (.goto 4, .retAddr 43)] = true := by decide +kernel
theorem kX10_ring_42_0 : decB cX10_ring 42 [(.iconst 0, .int 0)] = true := by decide +kernel
theorem kX10_ring_43_0 : decB cX10_ring 43 [(.istore_n 3, .null), (.aload_n 0, .null)] = true := by decide +kernel
theorem kX10_ring_43_1 : decB cX10_ring 48 [(.iload 4, .null)] = true := by decide +kernel
theorem kX10_ring_43_2 : decB cX10_ring 51 [(.istore 4, .null), (.goto (-41), .retAddr 12)] = true := by decide +kernel
theorem kX10_ring_56_0 : decB cX10_ring 56 [(.iload_n 3, .null)] = true := by decide +kernel
theorem kX10_ring_56_1 : decB cX10_ring 64 [(.iconst 0, .int 0)] = true := by decide +kernel
theorem kX10_ring_56_2 : decB cX10_ring 60 [(.iload_n 2, .null), (.goto 4, .retAddr 65)] = true := by decide +kernel
theorem dX10_ring_5 : decode cX10_ring 5 = .ok (.getfield 51, 3) := by decide +kernel
theorem dX10_ring_9 : decode cX10_ring 9 = .ok (.iaload, 1) := by decide +kernel
theorem dX10_ring_15 : decode cX10_ring 15 = .ok (.if_icmp .eq 41, 3) := by decide +kernel
theorem dX10_ring_22 : decode cX10_ring 22 = .ok (.if_icmp .ge 34, 3) := by decide +kernel
theorem dX10_ring_29 : decode cX10_ring 29 = .ok (.ifCond .eq 13, 3) := by decide +kernel
theorem dX10_ring_35 : decode cX10_ring 35 = .ok (.if_icmp .le 7, 3) := by decide +kernel
theorem dX10_ring_45 : decode cX10_ring 45 = .ok (.getfield 51, 3) := by decide +kernel
theorem dX10_ring_50 : decode cX10_ring 50 = .ok (.iaload, 1) := by decide +kernel
theorem dX10_ring_57 : decode cX10_ring 57 = .ok (.ifCond .eq 7, 3) := by decide +kernel
theorem dX10_ring_65 : decode cX10_ring 65 = .ok (.ireturn, 1) := by decide +kernel
def fX10_ring_56  (a2 : Int32) (a3 : Int32) (H : Hp) : Option (Int32 × Hp) :=
  if (a3 = 0 : Prop) then
    some (0, H)
  else
    some (a2, H)
set_option maxHeartbeats 4000000 in
set_option maxRecDepth 100000 in
theorem tfX10_ring_56 {G : GG} {r : Int32} {H' : Hp}   {a2 : Int32} {a3 : Int32} {H : Hp} (h : fX10_ring_56  a2 a3 H = some (r, H')) : Sn G (T0 G (some (.int r)) H') mX10_ring 56 [none, none, some (.int a2), some (.int a3), none] [] H := by
  unfold fX10_ring_56 at h
  refine sn_blk _ kX10_ring_56_0 (pc' := 57) (L' := [none, none, some (.int a2), some (.int a3), none]) (st' := [.int a3]) rfl rfl ?_
  refine sn_if_eq (tgt := 64) dX10_ring_57 (by decide) (fun c => ?_) (fun c => ?_)
  · rw [if_pos c] at h
    refine sn_blk _ kX10_ring_56_1 (pc' := 65) (L' := [none, none, some (.int a2), some (.int a3), none]) (st' := [.int 0]) rfl rfl ?_
    cases h
    exact sn_iret (ty := .int) dX10_ring_65 rfl rfl
  · rw [if_neg c] at h
    refine sn_blk _ kX10_ring_56_2 (pc' := 65) (L' := [none, none, some (.int a2), some (.int a3), none]) (st' := [.int a2]) rfl rfl ?_
    cases h
    exact sn_iret (ty := .int) dX10_ring_65 rfl rfl
def fX10_ring_43 (K12 : Nat → Int32 → Int32 → Int32 → Int32 → Hp → Option (Int32 × Hp)) (a0 : Nat) (a1 : Int32) (a2 : Int32) (a4 : Int32) (s0 : Int32) (H : Hp) : Option (Int32 × Hp) :=
  bd (gA H a0 9 18) fun x1 =>
  bd (aI H x1 0 a4) fun x2 =>
  K12 a0 a1 a2 s0 x2 H
set_option maxHeartbeats 4000000 in
set_option maxRecDepth 100000 in
theorem tfX10_ring_43 {G : GG} {r : Int32} {H' : Hp} {K12 : Nat → Int32 → Int32 → Int32 → Int32 → Hp → Option (Int32 × Hp)} (hK12 : ∀ (a0 : Nat) (a1 : Int32) (a2 : Int32) (a3 : Int32) (a4 : Int32) (H : Hp), K12 a0 a1 a2 a3 a4 H = some (r, H') → Sn G (T0 G (some (.int r)) H') mX10_ring 12 [some (.ref a0), some (.int a1), some (.int a2), some (.int a3), some (.int a4)] [] H) {a0 : Nat} {a1 : Int32} {a2 : Int32} {a4 : Int32} {s0 : Int32} {H : Hp} (h : fX10_ring_43 K12 a0 a1 a2 a4 s0 H = some (r, H')) : Sn G (T0 G (some (.int r)) H') mX10_ring 43 [some (.ref a0), some (.int a1), some (.int a2), none, some (.int a4)] [.int s0] H := by
  unfold fX10_ring_43 at h
  refine sn_blk _ kX10_ring_43_0 (pc' := 45) (L' := [some (.ref a0), some (.int a1), some (.int a2), some (.int s0), some (.int a4)]) (st' := [.ref a0]) rfl rfl ?_
  obtain ⟨x1, hx1, h⟩ := bd_inv h
  refine sn_gA dX10_ring_45 foX10_51 hx1 ?_
  refine sn_blk _ kX10_ring_43_1 (pc' := 50) (L' := [some (.ref a0), some (.int a1), some (.int a2), some (.int s0), some (.int a4)]) (st' := [.int a4, .ref x1]) rfl rfl ?_
  obtain ⟨x2, hx2, h⟩ := bd_inv h
  refine sn_iald dX10_ring_50 hx2 ?_
  refine sn_blk _ kX10_ring_43_2 (pc' := 12) (L' := [some (.ref a0), some (.int a1), some (.int a2), some (.int s0), some (.int x2)]) (st' := []) rfl rfl ?_
  exact hK12 _ _ _ _ _ _ h
def fX10_ring_42 (K12 : Nat → Int32 → Int32 → Int32 → Int32 → Hp → Option (Int32 × Hp)) (a0 : Nat) (a1 : Int32) (a2 : Int32) (a4 : Int32) (H : Hp) : Option (Int32 × Hp) :=
  fX10_ring_43 K12 a0 a1 a2 a4 0 H
set_option maxHeartbeats 4000000 in
set_option maxRecDepth 100000 in
theorem tfX10_ring_42 {G : GG} {r : Int32} {H' : Hp} {K12 : Nat → Int32 → Int32 → Int32 → Int32 → Hp → Option (Int32 × Hp)} (hK12 : ∀ (a0 : Nat) (a1 : Int32) (a2 : Int32) (a3 : Int32) (a4 : Int32) (H : Hp), K12 a0 a1 a2 a3 a4 H = some (r, H') → Sn G (T0 G (some (.int r)) H') mX10_ring 12 [some (.ref a0), some (.int a1), some (.int a2), some (.int a3), some (.int a4)] [] H) {a0 : Nat} {a1 : Int32} {a2 : Int32} {a4 : Int32} {H : Hp} (h : fX10_ring_42 K12 a0 a1 a2 a4 H = some (r, H')) : Sn G (T0 G (some (.int r)) H') mX10_ring 42 [some (.ref a0), some (.int a1), some (.int a2), none, some (.int a4)] [] H := by
  unfold fX10_ring_42 at h
  refine sn_blk _ kX10_ring_42_0 (pc' := 43) (L' := [some (.ref a0), some (.int a1), some (.int a2), none, some (.int a4)]) (st' := [.int 0]) rfl rfl ?_
  exact tfX10_ring_43 hK12 h
def bX10_ring_12 (K12 : Nat → Int32 → Int32 → Int32 → Int32 → Hp → Option (Int32 × Hp)) (a0 : Nat) (a1 : Int32) (a2 : Int32) (a3 : Int32) (a4 : Int32) (H : Hp) : Option (Int32 × Hp) :=
  if (a4 = a1 : Prop) then
    fX10_ring_56  a2 a3 H
  else
    if (128 ≤ a2 : Prop) then
      fX10_ring_56  a2 a3 H
    else
      if (a3 = 0 : Prop) then
        fX10_ring_42 K12 a0 a1 (a2 + 1) a4 H
      else
        if (a4 ≤ a1 : Prop) then
          fX10_ring_42 K12 a0 a1 (a2 + 1) a4 H
        else
          fX10_ring_43 K12 a0 a1 (a2 + 1) a4 1 H
set_option maxHeartbeats 4000000 in
set_option maxRecDepth 100000 in
theorem tbX10_ring_12 {G : GG} {r : Int32} {H' : Hp} {K12 : Nat → Int32 → Int32 → Int32 → Int32 → Hp → Option (Int32 × Hp)} (hK12 : ∀ (a0 : Nat) (a1 : Int32) (a2 : Int32) (a3 : Int32) (a4 : Int32) (H : Hp), K12 a0 a1 a2 a3 a4 H = some (r, H') → Sn G (T0 G (some (.int r)) H') mX10_ring 12 [some (.ref a0), some (.int a1), some (.int a2), some (.int a3), some (.int a4)] [] H) {a0 : Nat} {a1 : Int32} {a2 : Int32} {a3 : Int32} {a4 : Int32} {H : Hp} (h : bX10_ring_12 K12 a0 a1 a2 a3 a4 H = some (r, H')) : Sn G (T0 G (some (.int r)) H') mX10_ring 12 [some (.ref a0), some (.int a1), some (.int a2), some (.int a3), some (.int a4)] [] H := by
  unfold bX10_ring_12 at h
  refine sn_blk _ kX10_ring_12_0 (pc' := 15) (L' := [some (.ref a0), some (.int a1), some (.int a2), some (.int a3), some (.int a4)]) (st' := [.int a1, .int a4]) rfl rfl ?_
  refine sn_icmp_eq (tgt := 56) dX10_ring_15 (by decide) (fun c => ?_) (fun c => ?_)
  · rw [if_pos c] at h
    refine sn_msk [false, false, true, true, false] (L2 := [none, none, some (.int a2), some (.int a3), none]) rfl ?_
    exact tfX10_ring_56  h
  · rw [if_neg c] at h
    refine sn_blk _ kX10_ring_12_1 (pc' := 22) (L' := [some (.ref a0), some (.int a1), some (.int a2), some (.int a3), some (.int a4)]) (st' := [.int 128, .int a2]) rfl rfl ?_
    refine sn_icmp_ge (tgt := 56) dX10_ring_22 (by decide) (fun c => ?_) (fun c => ?_)
    · rw [if_pos c] at h
      refine sn_msk [false, false, true, true, false] (L2 := [none, none, some (.int a2), some (.int a3), none]) rfl ?_
      exact tfX10_ring_56  h
    · rw [if_neg c] at h
      refine sn_blk _ kX10_ring_12_2 (pc' := 29) (L' := [some (.ref a0), some (.int a1), some (.int (a2 + 1)), some (.int a3), some (.int a4)]) (st' := [.int a3]) rfl rfl ?_
      refine sn_if_eq (tgt := 42) dX10_ring_29 (by decide) (fun c => ?_) (fun c => ?_)
      · rw [if_pos c] at h
        refine sn_msk [true, true, true, false, true] (L2 := [some (.ref a0), some (.int a1), some (.int (a2 + 1)), none, some (.int a4)]) rfl ?_
        exact tfX10_ring_42 hK12 h
      · rw [if_neg c] at h
        refine sn_blk _ kX10_ring_12_3 (pc' := 35) (L' := [some (.ref a0), some (.int a1), some (.int (a2 + 1)), some (.int a3), some (.int a4)]) (st' := [.int a1, .int a4]) rfl rfl ?_
        refine sn_icmp_le (tgt := 42) dX10_ring_35 (by decide) (fun c => ?_) (fun c => ?_)
        · rw [if_pos c] at h
          refine sn_msk [true, true, true, false, true] (L2 := [some (.ref a0), some (.int a1), some (.int (a2 + 1)), none, some (.int a4)]) rfl ?_
          exact tfX10_ring_42 hK12 h
        · rw [if_neg c] at h
          refine sn_blk _ kX10_ring_12_4 (pc' := 43) (L' := [some (.ref a0), some (.int a1), some (.int (a2 + 1)), some (.int a3), some (.int a4)]) (st' := [.int 1]) rfl rfl ?_
          refine sn_msk [true, true, true, false, true] (L2 := [some (.ref a0), some (.int a1), some (.int (a2 + 1)), none, some (.int a4)]) rfl ?_
          exact tfX10_ring_43 hK12 h
def fX10_ring_12  : Nat → Nat → Int32 → Int32 → Int32 → Int32 → Hp → Option (Int32 × Hp)
  | 0, _, _, _, _, _, _ => none
  | d + 1, a0, a1, a2, a3, a4, H => bX10_ring_12 (fX10_ring_12  d) a0 a1 a2 a3 a4 H
theorem tfX10_ring_12 {G : GG} {r : Int32} {H' : Hp}   : ∀ (d : Nat) {a0 : Nat} {a1 : Int32} {a2 : Int32} {a3 : Int32} {a4 : Int32} {H : Hp}, fX10_ring_12  d a0 a1 a2 a3 a4 H = some (r, H') → Sn G (T0 G (some (.int r)) H') mX10_ring 12 [some (.ref a0), some (.int a1), some (.int a2), some (.int a3), some (.int a4)] [] H := by
  intro d
  induction d with
  | zero => intro a0 a1 a2 a3 a4 H h; cases h
  | succ d ih => intro a0 a1 a2 a3 a4 H h; exact tbX10_ring_12 (fun a0 a1 a2 a3 a4 H h => ih h) h
def FX10_ring  (a0 : Nat) (a1 : Int32) (H : Hp) : Option (Int32 × Hp) :=
  bd (gA H a0 9 18) fun x1 =>
  bd (aI H x1 0 a1) fun x2 =>
  fX10_ring_12  4096 a0 a1 1 1 x2 H
set_option maxHeartbeats 4000000 in
set_option maxRecDepth 100000 in
theorem tFX10_ring {G : GG} {r : Int32} {H' : Hp}   {a0 : Nat} {a1 : Int32} {H : Hp} (h : FX10_ring  a0 a1 H = some (r, H')) : Sn G (T0 G (some (.int r)) H') mX10_ring 0 [some (.ref a0), some (.int a1), none, none, none] [] H := by
  unfold FX10_ring at h
  refine sn_blk _ kX10_ring_0_0 (pc' := 5) (L' := [some (.ref a0), some (.int a1), some (.int 1), some (.int 1), none]) (st' := [.ref a0]) rfl rfl ?_
  obtain ⟨x1, hx1, h⟩ := bd_inv h
  refine sn_gA dX10_ring_5 foX10_51 hx1 ?_
  refine sn_blk _ kX10_ring_0_1 (pc' := 9) (L' := [some (.ref a0), some (.int a1), some (.int 1), some (.int 1), none]) (st' := [.int a1, .ref x1]) rfl rfl ?_
  obtain ⟨x2, hx2, h⟩ := bd_inv h
  refine sn_iald dX10_ring_9 hx2 ?_
  refine sn_blk _ kX10_ring_0_2 (pc' := 12) (L' := [some (.ref a0), some (.int a1), some (.int 1), some (.int 1), some (.int x2)]) (st' := []) rfl rfl ?_
  exact tfX10_ring_12  4096 h
theorem sX10_ring {G : GG} {r : Int32} {H' : Hp} {a0 : Nat} {a1 : Int32} {H : Hp} (h : FX10_ring a0 a1 H = some (r, H')) : SM G mX10_ring [.ref a0, .int a1] H (some (.int r)) H' := tFX10_ring h
/-! SquareFoldsModel.orbit(II)I -/
theorem kX10_orbit_0_0 : decB cX10_orbit 0 [(.aload_n 0, .null), (.iload_n 1, .null)] = true := by decide +kernel
theorem kX10_orbit_0_1 : decB cX10_orbit 10 [(.iload_n 2, .null), (.i2l, .null), (.lconst 0, .long 0)] = true := by decide +kernel
theorem kX10_orbit_0_2 : decB cX10_orbit 25 [(.aload_n 0, .null), (.iload_n 1, .null)] = true := by decide +kernel
theorem kX10_orbit_0_3 : decB cX10_orbit 30 [(.iconst 0, .int 0), (.istore_n 3, .null), (.iconst 0, .int 0), (.istore 4, .null), (.iconst 0, .int 0), (.istore 5, .null)] = true := by decide +kernel
theorem kX10_orbit_0_4 : decB cX10_orbit 22 [(.bipush (-2), .int (-2))] = true := by decide +kernel
theorem kX10_orbit_0_5 : decB cX10_orbit 8 [(.iconst (-1), .int (-1))] = true := by decide +kernel
theorem kX10_orbit_38_0 : decB cX10_orbit 38 [(.iload 5, .null), (.aload_n 0, .null)] = true := by decide +kernel
theorem kX10_orbit_38_1 : decB cX10_orbit 90 [(.iload_n 2, .null)] = true := by decide +kernel
theorem kX10_orbit_38_2 : decB cX10_orbit 101 [(.iload_n 2, .null), (.iconst 1, .int 1)] = true := by decide +kernel
theorem kX10_orbit_38_3 : decB cX10_orbit 110 [(.iload 4, .null)] = true := by decide +kernel
theorem kX10_orbit_38_4 : decB cX10_orbit 106 [(.iload_n 3, .null), (.goto 5, .retAddr 112)] = true := by decide +kernel
theorem kX10_orbit_38_5 : decB cX10_orbit 94 [(.aload_n 0, .null)] = true := by decide +kernel
theorem kX10_orbit_38_6 : decB cX10_orbit 98 [(.goto 14, .retAddr 112)] = true := by decide +kernel
theorem kX10_orbit_38_7 : decB cX10_orbit 47 [(.aload_n 0, .null), (.iload 5, .null)] = true := by decide +kernel
theorem kX10_orbit_38_8 : decB cX10_orbit 53 [(.istore 6, .null), (.iload_n 3, .null), (.iload 6, .null)] = true := by decide +kernel
theorem kX10_orbit_38_9 : decB cX10_orbit 65 [(.iconst 0, .int 0)] = true := by decide +kernel
theorem kX10_orbit_38_10 : decB cX10_orbit 61 [(.iconst 1, .int 1), (.goto 4, .retAddr 66)] = true := by decide +kernel
theorem kX10_orbit_66_0 : decB cX10_orbit 66 [(.iadd, .null), (.istore_n 3, .null), (.iload 6, .null), (.iload 4, .null)] = true := by decide +kernel
theorem kX10_orbit_66_1 : decB cX10_orbit 80 [(.iload 4, .null), (.istore 4, .null), (.iinc 5 1, .int 1), (.goto (-49), .retAddr 38)] = true := by decide +kernel
theorem kX10_orbit_66_2 : decB cX10_orbit 75 [(.iload 6, .null), (.goto 5, .retAddr 82), (.istore 4, .null), (.iinc 5 1, .int 1), (.goto (-49), .retAddr 38)] = true := by decide +kernel
theorem dX10_orbit_2 : decode cX10_orbit 2 = .ok (.invokevirtual 185, 3) := by decide +kernel
theorem dX10_orbit_5 : decode cX10_orbit 5 = .ok (.ifCond .ne 5, 3) := by decide +kernel
theorem dX10_orbit_9 : decode cX10_orbit 9 = .ok (.ireturn, 1) := by decide +kernel
theorem dX10_orbit_13 : decode cX10_orbit 13 = .ok (.ldc2_w 224, 3) := by decide +kernel
theorem dX10_orbit_16 : decode cX10_orbit 16 = .ok (.invokestatic 127, 3) := by decide +kernel
theorem dX10_orbit_19 : decode cX10_orbit 19 = .ok (.ifCond .ne 6, 3) := by decide +kernel
theorem dX10_orbit_24 : decode cX10_orbit 24 = .ok (.ireturn, 1) := by decide +kernel
theorem dX10_orbit_27 : decode cX10_orbit 27 = .ok (.invokevirtual 251, 3) := by decide +kernel
theorem dX10_orbit_41 : decode cX10_orbit 41 = .ok (.getfield 237, 3) := by decide +kernel
theorem dX10_orbit_44 : decode cX10_orbit 44 = .ok (.if_icmp .ge 46, 3) := by decide +kernel
theorem dX10_orbit_50 : decode cX10_orbit 50 = .ok (.invokevirtual 254, 3) := by decide +kernel
theorem dX10_orbit_58 : decode cX10_orbit 58 = .ok (.ifCond .le 7, 3) := by decide +kernel
theorem dX10_orbit_72 : decode cX10_orbit 72 = .ok (.if_icmp .le 8, 3) := by decide +kernel
theorem dX10_orbit_91 : decode cX10_orbit 91 = .ok (.ifCond .ne 10, 3) := by decide +kernel
theorem dX10_orbit_95 : decode cX10_orbit 95 = .ok (.getfield 237, 3) := by decide +kernel
theorem dX10_orbit_103 : decode cX10_orbit 103 = .ok (.if_icmp .ne 7, 3) := by decide +kernel
theorem dX10_orbit_112 : decode cX10_orbit 112 = .ok (.ireturn, 1) := by decide +kernel
def fX10_orbit_66 (K38 : Nat → Int32 → Int32 → Int32 → Int32 → Hp → Option (Int32 × Hp)) (a0 : Nat) (a2 : Int32) (a4 : Int32) (a5 : Int32) (a6 : Int32) (s0 : Int32) (s1 : Int32) (H : Hp) : Option (Int32 × Hp) :=
  if (a6 ≤ a4 : Prop) then
    K38 a0 a2 (s0 + s1) a4 (a5 + 1) H
  else
    K38 a0 a2 (s0 + s1) a6 (a5 + 1) H
set_option maxHeartbeats 4000000 in
set_option maxRecDepth 100000 in
theorem tfX10_orbit_66 {G : GG} {r : Int32} {H' : Hp} {K38 : Nat → Int32 → Int32 → Int32 → Int32 → Hp → Option (Int32 × Hp)} (hK38 : ∀ (a0 : Nat) (a2 : Int32) (a3 : Int32) (a4 : Int32) (a5 : Int32) (H : Hp), K38 a0 a2 a3 a4 a5 H = some (r, H') → Sn G (T0 G (some (.int r)) H') mX10_orbit 38 [some (.ref a0), none, some (.int a2), some (.int a3), some (.int a4), some (.int a5), none] [] H) {a0 : Nat} {a2 : Int32} {a4 : Int32} {a5 : Int32} {a6 : Int32} {s0 : Int32} {s1 : Int32} {H : Hp} (h : fX10_orbit_66 K38 a0 a2 a4 a5 a6 s0 s1 H = some (r, H')) : Sn G (T0 G (some (.int r)) H') mX10_orbit 66 [some (.ref a0), none, some (.int a2), none, some (.int a4), some (.int a5), some (.int a6)] [.int s1, .int s0] H := by
  unfold fX10_orbit_66 at h
  refine sn_blk _ kX10_orbit_66_0 (pc' := 72) (L' := [some (.ref a0), none, some (.int a2), some (.int (s0 + s1)), some (.int a4), some (.int a5), some (.int a6)]) (st' := [.int a4, .int a6]) rfl rfl ?_
  refine sn_icmp_le (tgt := 80) dX10_orbit_72 (by decide) (fun c => ?_) (fun c => ?_)
  · rw [if_pos c] at h
    refine sn_blk _ kX10_orbit_66_1 (pc' := 38) (L' := [some (.ref a0), none, some (.int a2), some (.int (s0 + s1)), some (.int a4), some (.int (a5 + 1)), some (.int a6)]) (st' := []) rfl rfl ?_
    refine sn_msk [true, true, true, true, true, true, false] (L2 := [some (.ref a0), none, some (.int a2), some (.int (s0 + s1)), some (.int a4), some (.int (a5 + 1)), none]) rfl ?_
    exact hK38 _ _ _ _ _ _ h
  · rw [if_neg c] at h
    refine sn_blk _ kX10_orbit_66_2 (pc' := 38) (L' := [some (.ref a0), none, some (.int a2), some (.int (s0 + s1)), some (.int a6), some (.int (a5 + 1)), some (.int a6)]) (st' := []) rfl rfl ?_
    refine sn_msk [true, true, true, true, true, true, false] (L2 := [some (.ref a0), none, some (.int a2), some (.int (s0 + s1)), some (.int a6), some (.int (a5 + 1)), none]) rfl ?_
    exact hK38 _ _ _ _ _ _ h
def bX10_orbit_38 (K38 : Nat → Int32 → Int32 → Int32 → Int32 → Hp → Option (Int32 × Hp)) (a0 : Nat) (a2 : Int32) (a3 : Int32) (a4 : Int32) (a5 : Int32) (H : Hp) : Option (Int32 × Hp) :=
  bd (gI H a0 9 19) fun x1 =>
  if (x1 ≤ a5 : Prop) then
    if (a2 = 0 : Prop) then
      bd (gI H a0 9 19) fun x2 =>
      some (x2, H)
    else
      if (a2 = 1 : Prop) then
        some (a3, H)
      else
        some (a4, H)
  else
    gp (isO H a0 9 = true) (
      bd2 (FX10_ring a0 a5 H) fun x3 H4 =>
      if (x3 ≤ 0 : Prop) then
        fX10_orbit_66 K38 a0 a2 a4 a5 x3 a3 0 H4
      else
        fX10_orbit_66 K38 a0 a2 a4 a5 x3 a3 1 H4
      )
set_option maxHeartbeats 4000000 in
set_option maxRecDepth 100000 in
theorem tbX10_orbit_38 {G : GG} {r : Int32} {H' : Hp} {K38 : Nat → Int32 → Int32 → Int32 → Int32 → Hp → Option (Int32 × Hp)} (hK38 : ∀ (a0 : Nat) (a2 : Int32) (a3 : Int32) (a4 : Int32) (a5 : Int32) (H : Hp), K38 a0 a2 a3 a4 a5 H = some (r, H') → Sn G (T0 G (some (.int r)) H') mX10_orbit 38 [some (.ref a0), none, some (.int a2), some (.int a3), some (.int a4), some (.int a5), none] [] H) {a0 : Nat} {a2 : Int32} {a3 : Int32} {a4 : Int32} {a5 : Int32} {H : Hp} (h : bX10_orbit_38 K38 a0 a2 a3 a4 a5 H = some (r, H')) : Sn G (T0 G (some (.int r)) H') mX10_orbit 38 [some (.ref a0), none, some (.int a2), some (.int a3), some (.int a4), some (.int a5), none] [] H := by
  unfold bX10_orbit_38 at h
  refine sn_blk _ kX10_orbit_38_0 (pc' := 41) (L' := [some (.ref a0), none, some (.int a2), some (.int a3), some (.int a4), some (.int a5), none]) (st' := [.ref a0, .int a5]) rfl rfl ?_
  obtain ⟨x1, hx1, h⟩ := bd_inv h
  refine sn_gI dX10_orbit_41 foX10_237 hx1 ?_
  refine sn_icmp_ge (tgt := 90) dX10_orbit_44 (by decide) (fun c => ?_) (fun c => ?_)
  · rw [if_pos c] at h
    refine sn_blk _ kX10_orbit_38_1 (pc' := 91) (L' := [some (.ref a0), none, some (.int a2), some (.int a3), some (.int a4), some (.int a5), none]) (st' := [.int a2]) rfl rfl ?_
    refine sn_if_ne (tgt := 101) dX10_orbit_91 (by decide) (fun c => ?_) (fun c => ?_)
    · rw [if_neg c] at h
      refine sn_blk _ kX10_orbit_38_2 (pc' := 103) (L' := [some (.ref a0), none, some (.int a2), some (.int a3), some (.int a4), some (.int a5), none]) (st' := [.int 1, .int a2]) rfl rfl ?_
      refine sn_icmp_ne (tgt := 110) dX10_orbit_103 (by decide) (fun c => ?_) (fun c => ?_)
      · rw [if_neg c] at h
        refine sn_blk _ kX10_orbit_38_3 (pc' := 112) (L' := [some (.ref a0), none, some (.int a2), some (.int a3), some (.int a4), some (.int a5), none]) (st' := [.int a4]) rfl rfl ?_
        cases h
        exact sn_iret (ty := .int) dX10_orbit_112 rfl rfl
      · rw [if_pos c] at h
        refine sn_blk _ kX10_orbit_38_4 (pc' := 112) (L' := [some (.ref a0), none, some (.int a2), some (.int a3), some (.int a4), some (.int a5), none]) (st' := [.int a3]) rfl rfl ?_
        cases h
        exact sn_iret (ty := .int) dX10_orbit_112 rfl rfl
    · rw [if_pos c] at h
      refine sn_blk _ kX10_orbit_38_5 (pc' := 95) (L' := [some (.ref a0), none, some (.int a2), some (.int a3), some (.int a4), some (.int a5), none]) (st' := [.ref a0]) rfl rfl ?_
      obtain ⟨x2, hx2, h⟩ := bd_inv h
      refine sn_gI dX10_orbit_95 foX10_237 hx2 ?_
      refine sn_blk _ kX10_orbit_38_6 (pc' := 112) (L' := [some (.ref a0), none, some (.int a2), some (.int a3), some (.int a4), some (.int a5), none]) (st' := [.int x2]) rfl rfl ?_
      cases h
      exact sn_iret (ty := .int) dX10_orbit_112 rfl rfl
  · rw [if_neg c] at h
    refine sn_blk _ kX10_orbit_38_7 (pc' := 50) (L' := [some (.ref a0), none, some (.int a2), some (.int a3), some (.int a4), some (.int a5), none]) (st' := [.int a5, .ref a0]) rfl rfl ?_
    obtain ⟨ho, h⟩ := gp_inv h
    obtain ⟨fs, ho⟩ := isO_inv ho
    obtain ⟨x3, H4, hx3, h⟩ := bd2_inv h
    refine sn_callv (av := [.int a5]) (st := []) (M2 := mX10_ring) dX10_orbit_50 msX10_ring mlX10_254 rfl rfl rfl rfl rfl ho (sX10_ring hx3) ?_
    refine sn_blk _ kX10_orbit_38_8 (pc' := 58) (L' := [some (.ref a0), none, some (.int a2), some (.int a3), some (.int a4), some (.int a5), some (.int x3)]) (st' := [.int x3, .int a3]) rfl rfl ?_
    refine sn_if_le (tgt := 65) dX10_orbit_58 (by decide) (fun c => ?_) (fun c => ?_)
    · rw [if_pos c] at h
      refine sn_blk _ kX10_orbit_38_9 (pc' := 66) (L' := [some (.ref a0), none, some (.int a2), some (.int a3), some (.int a4), some (.int a5), some (.int x3)]) (st' := [.int 0, .int a3]) rfl rfl ?_
      refine sn_msk [true, true, true, false, true, true, true] (L2 := [some (.ref a0), none, some (.int a2), none, some (.int a4), some (.int a5), some (.int x3)]) rfl ?_
      exact tfX10_orbit_66 hK38 h
    · rw [if_neg c] at h
      refine sn_blk _ kX10_orbit_38_10 (pc' := 66) (L' := [some (.ref a0), none, some (.int a2), some (.int a3), some (.int a4), some (.int a5), some (.int x3)]) (st' := [.int 1, .int a3]) rfl rfl ?_
      refine sn_msk [true, true, true, false, true, true, true] (L2 := [some (.ref a0), none, some (.int a2), none, some (.int a4), some (.int a5), some (.int x3)]) rfl ?_
      exact tfX10_orbit_66 hK38 h
def fX10_orbit_38  : Nat → Nat → Int32 → Int32 → Int32 → Int32 → Hp → Option (Int32 × Hp)
  | 0, _, _, _, _, _, _ => none
  | d + 1, a0, a2, a3, a4, a5, H => bX10_orbit_38 (fX10_orbit_38  d) a0 a2 a3 a4 a5 H
theorem tfX10_orbit_38 {G : GG} {r : Int32} {H' : Hp}   : ∀ (d : Nat) {a0 : Nat} {a2 : Int32} {a3 : Int32} {a4 : Int32} {a5 : Int32} {H : Hp}, fX10_orbit_38  d a0 a2 a3 a4 a5 H = some (r, H') → Sn G (T0 G (some (.int r)) H') mX10_orbit 38 [some (.ref a0), none, some (.int a2), some (.int a3), some (.int a4), some (.int a5), none] [] H := by
  intro d
  induction d with
  | zero => intro a0 a2 a3 a4 a5 H h; cases h
  | succ d ih => intro a0 a2 a3 a4 a5 H h; exact tbX10_orbit_38 (fun a0 a2 a3 a4 a5 H h => ih h) h
def FX10_orbit  (a0 : Nat) (a1 : Int32) (a2 : Int32) (H : Hp) : Option (Int32 × Hp) :=
  gp (isO H a0 9 = true) (
    bd2 (FX10_isSquare a0 a1 H) fun x1 H2 =>
    if (x1 = 0 : Prop) then
      some ((-1), H2)
    else
      bd2 (FX10_in (Int32.toInt64 a2) 0 2 H2) fun x3 H4 =>
      if (x3 = 0 : Prop) then
        some ((-2), H4)
      else
        gp (isO H4 a0 9 = true) (
          bd2 (FX10_findOrbit a0 a1 H4) fun _ H6 =>
          fX10_orbit_38  4096 a0 a2 0 0 0 H6
          )
    )
set_option maxHeartbeats 4000000 in
set_option maxRecDepth 100000 in
theorem tFX10_orbit {G : GG} {r : Int32} {H' : Hp}   {a0 : Nat} {a1 : Int32} {a2 : Int32} {H : Hp} (h : FX10_orbit  a0 a1 a2 H = some (r, H')) : Sn G (T0 G (some (.int r)) H') mX10_orbit 0 [some (.ref a0), some (.int a1), some (.int a2), none, none, none, none] [] H := by
  unfold FX10_orbit at h
  refine sn_blk _ kX10_orbit_0_0 (pc' := 2) (L' := [some (.ref a0), some (.int a1), some (.int a2), none, none, none, none]) (st' := [.int a1, .ref a0]) rfl rfl ?_
  obtain ⟨ho, h⟩ := gp_inv h
  obtain ⟨fs, ho⟩ := isO_inv ho
  obtain ⟨x1, H2, hx1, h⟩ := bd2_inv h
  refine sn_callv (av := [.int a1]) (st := []) (M2 := mX10_isSquare) dX10_orbit_2 msX10_isSquare mlX10_185 rfl rfl rfl rfl rfl ho (sX10_isSquare hx1) ?_
  refine sn_if_ne (tgt := 10) dX10_orbit_5 (by decide) (fun c => ?_) (fun c => ?_)
  · rw [if_neg c] at h
    refine sn_blk _ kX10_orbit_0_1 (pc' := 13) (L' := [some (.ref a0), some (.int a1), some (.int a2), none, none, none, none]) (st' := [.long 0, .long (Int32.toInt64 a2)]) rfl rfl ?_
    refine sn_ldc2 dX10_orbit_13 kcX10_224 ?_
    obtain ⟨x3, H4, hx3, h⟩ := bd2_inv h
    refine sn_calls (av := [.long (Int32.toInt64 a2), .long 0, .long 2]) (st := []) (M2 := mX10_in) dX10_orbit_16 msX10_in mlX10_127 rfl rfl rfl rfl rfl (sX10_in hx3) ?_
    refine sn_if_ne (tgt := 25) dX10_orbit_19 (by decide) (fun c => ?_) (fun c => ?_)
    · rw [if_neg c] at h
      refine sn_blk _ kX10_orbit_0_2 (pc' := 27) (L' := [some (.ref a0), some (.int a1), some (.int a2), none, none, none, none]) (st' := [.int a1, .ref a0]) rfl rfl ?_
      obtain ⟨ho, h⟩ := gp_inv h
      obtain ⟨fs, ho⟩ := isO_inv ho
      obtain ⟨x5, H6, hx5, h⟩ := bd2_inv h
      refine sn_callv (av := [.int a1]) (st := []) (M2 := mX10_findOrbit) dX10_orbit_27 msX10_findOrbit mlX10_251 rfl rfl rfl rfl rfl ho (sX10_findOrbit hx5) ?_
      refine sn_blk _ kX10_orbit_0_3 (pc' := 38) (L' := [some (.ref a0), some (.int a1), some (.int a2), some (.int 0), some (.int 0), some (.int 0), none]) (st' := []) rfl rfl ?_
      refine sn_msk [true, false, true, true, true, true, true] (L2 := [some (.ref a0), none, some (.int a2), some (.int 0), some (.int 0), some (.int 0), none]) rfl ?_
      exact tfX10_orbit_38  4096 h
    · rw [if_pos c] at h
      refine sn_blk _ kX10_orbit_0_4 (pc' := 24) (L' := [some (.ref a0), some (.int a1), some (.int a2), none, none, none, none]) (st' := [.int (-2)]) rfl rfl ?_
      cases h
      exact sn_iret (ty := .int) dX10_orbit_24 rfl rfl
  · rw [if_pos c] at h
    refine sn_blk _ kX10_orbit_0_5 (pc' := 9) (L' := [some (.ref a0), some (.int a1), some (.int a2), none, none, none, none]) (st' := [.int (-1)]) rfl rfl ?_
    cases h
    exact sn_iret (ty := .int) dX10_orbit_9 rfl rfl
theorem sX10_orbit {G : GG} {r : Int32} {H' : Hp} {a0 : Nat} {a1 : Int32} {a2 : Int32} {H : Hp} (h : FX10_orbit a0 a1 a2 H = some (r, H')) : SM G mX10_orbit [.ref a0, .int a1, .int a2] H (some (.int r)) H' := tFX10_orbit h
/-! SquareFoldsModel.alike(III)I -/
theorem kX10_alike_0_0 : decB cX10_alike 0 [(.aload_n 0, .null), (.iload_n 1, .null)] = true := by decide +kernel
theorem kX10_alike_0_1 : decB cX10_alike 16 [(.iconst (-1), .int (-1))] = true := by decide +kernel
theorem kX10_alike_0_2 : decB cX10_alike 8 [(.aload_n 0, .null), (.iload_n 2, .null)] = true := by decide +kernel
theorem kX10_alike_0_3 : decB cX10_alike 18 [(.iload_n 3, .null), (.i2l, .null), (.lconst 0, .long 0), (.lconst 1, .long 1)] = true := by decide +kernel
theorem kX10_alike_0_4 : decB cX10_alike 31 [(.aload_n 0, .null), (.aload_n 0, .null)] = true := by decide +kernel
theorem kX10_alike_0_5 : decB cX10_alike 36 [(.iload_n 2, .null)] = true := by decide +kernel
theorem kX10_alike_0_6 : decB cX10_alike 40 [(.lstore 4, .null), (.iload_n 3, .null)] = true := by decide +kernel
theorem kX10_alike_0_7 : decB cX10_alike 67 [(.aload_n 0, .null), (.iload_n 1, .null)] = true := by decide +kernel
theorem kX10_alike_0_8 : decB cX10_alike 72 [(.aload_n 0, .null), (.lload 4, .null)] = true := by decide +kernel
theorem kX10_alike_0_9 : decB cX10_alike 78 [(.bipush (-9), .int (-9))] = true := by decide +kernel
theorem kX10_alike_0_10 : decB cX10_alike 87 [(.iconst 1, .int 1)] = true := by decide +kernel
theorem kX10_alike_0_11 : decB cX10_alike 83 [(.iconst 0, .int 0), (.goto 4, .retAddr 88)] = true := by decide +kernel
theorem kX10_alike_0_12 : decB cX10_alike 46 [(.lload 4, .null), (.aload_n 0, .null), (.aload_n 0, .null)] = true := by decide +kernel
theorem kX10_alike_0_13 : decB cX10_alike 53 [(.iload_n 1, .null)] = true := by decide +kernel
theorem kX10_alike_0_14 : decB cX10_alike 57 [(.lcmp, .null)] = true := by decide +kernel
theorem kX10_alike_0_15 : decB cX10_alike 65 [(.iconst 0, .int 0)] = true := by decide +kernel
theorem kX10_alike_0_16 : decB cX10_alike 61 [(.iconst 1, .int 1), (.goto 4, .retAddr 66)] = true := by decide +kernel
theorem kX10_alike_0_17 : decB cX10_alike 28 [(.bipush (-2), .int (-2))] = true := by decide +kernel
theorem kX10_alike_0_18 : decB cX10_alike 16 [(.iconst (-1), .int (-1))] = true := by decide +kernel
theorem dX10_alike_2 : decode cX10_alike 2 = .ok (.invokevirtual 185, 3) := by decide +kernel
theorem dX10_alike_5 : decode cX10_alike 5 = .ok (.ifCond .eq 11, 3) := by decide +kernel
theorem dX10_alike_10 : decode cX10_alike 10 = .ok (.invokevirtual 185, 3) := by decide +kernel
theorem dX10_alike_13 : decode cX10_alike 13 = .ok (.ifCond .ne 5, 3) := by decide +kernel
theorem dX10_alike_17 : decode cX10_alike 17 = .ok (.ireturn, 1) := by decide +kernel
theorem dX10_alike_22 : decode cX10_alike 22 = .ok (.invokestatic 127, 3) := by decide +kernel
theorem dX10_alike_25 : decode cX10_alike 25 = .ok (.ifCond .ne 6, 3) := by decide +kernel
theorem dX10_alike_30 : decode cX10_alike 30 = .ok (.ireturn, 1) := by decide +kernel
theorem dX10_alike_33 : decode cX10_alike 33 = .ok (.getfield 13, 3) := by decide +kernel
theorem dX10_alike_37 : decode cX10_alike 37 = .ok (.invokevirtual 218, 3) := by decide +kernel
theorem dX10_alike_43 : decode cX10_alike 43 = .ok (.ifCond .ne 24, 3) := by decide +kernel
theorem dX10_alike_50 : decode cX10_alike 50 = .ok (.getfield 13, 3) := by decide +kernel
theorem dX10_alike_54 : decode cX10_alike 54 = .ok (.invokevirtual 218, 3) := by decide +kernel
theorem dX10_alike_58 : decode cX10_alike 58 = .ok (.ifCond .ne 7, 3) := by decide +kernel
theorem dX10_alike_66 : decode cX10_alike 66 = .ok (.ireturn, 1) := by decide +kernel
theorem dX10_alike_69 : decode cX10_alike 69 = .ok (.invokevirtual 251, 3) := by decide +kernel
theorem dX10_alike_75 : decode cX10_alike 75 = .ok (.invokevirtual 240, 3) := by decide +kernel
theorem dX10_alike_80 : decode cX10_alike 80 = .ok (.if_icmp .ne 7, 3) := by decide +kernel
theorem dX10_alike_88 : decode cX10_alike 88 = .ok (.ireturn, 1) := by decide +kernel
def FX10_alike  (a0 : Nat) (a1 : Int32) (a2 : Int32) (a3 : Int32) (H : Hp) : Option (Int32 × Hp) :=
  gp (isO H a0 9 = true) (
    bd2 (FX10_isSquare a0 a1 H) fun x1 H2 =>
    if (x1 = 0 : Prop) then
      some ((-1), H2)
    else
      gp (isO H2 a0 9 = true) (
        bd2 (FX10_isSquare a0 a2 H2) fun x3 H4 =>
        if (x3 = 0 : Prop) then
          some ((-1), H4)
        else
          bd2 (FX10_in (Int32.toInt64 a3) 0 1 H4) fun x5 H6 =>
          if (x5 = 0 : Prop) then
            some ((-2), H6)
          else
            bd (gA H6 a0 9 2) fun x7 =>
            gp (isO H6 a0 9 = true) (
              bd2 (FX10_leastName a0 x7 a2 H6) fun x8 H9 =>
              if (a3 = 0 : Prop) then
                bd (gA H9 a0 9 2) fun x14 =>
                gp (isO H9 a0 9 = true) (
                  bd2 (FX10_leastName a0 x14 a1 H9) fun x15 H16 =>
                  if ((lg_cmp x8 x15) = 0 : Prop) then
                    some (1, H16)
                  else
                    some (0, H16)
                  )
              else
                gp (isO H9 a0 9 = true) (
                  bd2 (FX10_findOrbit a0 a1 H9) fun _ H11 =>
                  gp (isO H11 a0 9 = true) (
                    bd2 (FX10_placeOf a0 x8 H11) fun x12 H13 =>
                    if (x12 = (-9) : Prop) then
                      some (0, H13)
                    else
                      some (1, H13)
                    )
                  )
              )
        )
    )
set_option maxHeartbeats 4000000 in
set_option maxRecDepth 100000 in
theorem tFX10_alike {G : GG} {r : Int32} {H' : Hp}   {a0 : Nat} {a1 : Int32} {a2 : Int32} {a3 : Int32} {H : Hp} (h : FX10_alike  a0 a1 a2 a3 H = some (r, H')) : Sn G (T0 G (some (.int r)) H') mX10_alike 0 [some (.ref a0), some (.int a1), some (.int a2), some (.int a3), none, none] [] H := by
  unfold FX10_alike at h
  refine sn_blk _ kX10_alike_0_0 (pc' := 2) (L' := [some (.ref a0), some (.int a1), some (.int a2), some (.int a3), none, none]) (st' := [.int a1, .ref a0]) rfl rfl ?_
  obtain ⟨ho, h⟩ := gp_inv h
  obtain ⟨fs, ho⟩ := isO_inv ho
  obtain ⟨x1, H2, hx1, h⟩ := bd2_inv h
  refine sn_callv (av := [.int a1]) (st := []) (M2 := mX10_isSquare) dX10_alike_2 msX10_isSquare mlX10_185 rfl rfl rfl rfl rfl ho (sX10_isSquare hx1) ?_
  refine sn_if_eq (tgt := 16) dX10_alike_5 (by decide) (fun c => ?_) (fun c => ?_)
  · rw [if_pos c] at h
    refine sn_blk _ kX10_alike_0_1 (pc' := 17) (L' := [some (.ref a0), some (.int a1), some (.int a2), some (.int a3), none, none]) (st' := [.int (-1)]) rfl rfl ?_
    cases h
    exact sn_iret (ty := .int) dX10_alike_17 rfl rfl
  · rw [if_neg c] at h
    refine sn_blk _ kX10_alike_0_2 (pc' := 10) (L' := [some (.ref a0), some (.int a1), some (.int a2), some (.int a3), none, none]) (st' := [.int a2, .ref a0]) rfl rfl ?_
    obtain ⟨ho, h⟩ := gp_inv h
    obtain ⟨fs, ho⟩ := isO_inv ho
    obtain ⟨x3, H4, hx3, h⟩ := bd2_inv h
    refine sn_callv (av := [.int a2]) (st := []) (M2 := mX10_isSquare) dX10_alike_10 msX10_isSquare mlX10_185 rfl rfl rfl rfl rfl ho (sX10_isSquare hx3) ?_
    refine sn_if_ne (tgt := 18) dX10_alike_13 (by decide) (fun c => ?_) (fun c => ?_)
    · rw [if_neg c] at h
      refine sn_blk _ kX10_alike_0_3 (pc' := 22) (L' := [some (.ref a0), some (.int a1), some (.int a2), some (.int a3), none, none]) (st' := [.long 1, .long 0, .long (Int32.toInt64 a3)]) rfl rfl ?_
      obtain ⟨x5, H6, hx5, h⟩ := bd2_inv h
      refine sn_calls (av := [.long (Int32.toInt64 a3), .long 0, .long 1]) (st := []) (M2 := mX10_in) dX10_alike_22 msX10_in mlX10_127 rfl rfl rfl rfl rfl (sX10_in hx5) ?_
      refine sn_if_ne (tgt := 31) dX10_alike_25 (by decide) (fun c => ?_) (fun c => ?_)
      · rw [if_neg c] at h
        refine sn_blk _ kX10_alike_0_4 (pc' := 33) (L' := [some (.ref a0), some (.int a1), some (.int a2), some (.int a3), none, none]) (st' := [.ref a0, .ref a0]) rfl rfl ?_
        obtain ⟨x7, hx7, h⟩ := bd_inv h
        refine sn_gA dX10_alike_33 foX10_13 hx7 ?_
        refine sn_blk _ kX10_alike_0_5 (pc' := 37) (L' := [some (.ref a0), some (.int a1), some (.int a2), some (.int a3), none, none]) (st' := [.int a2, .ref x7, .ref a0]) rfl rfl ?_
        obtain ⟨ho, h⟩ := gp_inv h
        obtain ⟨fs, ho⟩ := isO_inv ho
        obtain ⟨x8, H9, hx8, h⟩ := bd2_inv h
        refine sn_callv (av := [.ref x7, .int a2]) (st := []) (M2 := mX10_leastName) dX10_alike_37 msX10_leastName mlX10_218 rfl rfl rfl rfl rfl ho (sX10_leastName hx8) ?_
        refine sn_blk _ kX10_alike_0_6 (pc' := 43) (L' := [some (.ref a0), some (.int a1), some (.int a2), some (.int a3), some (.long x8), none]) (st' := [.int a3]) rfl rfl ?_
        refine sn_if_ne (tgt := 67) dX10_alike_43 (by decide) (fun c => ?_) (fun c => ?_)
        · rw [if_neg c] at h
          refine sn_blk _ kX10_alike_0_7 (pc' := 69) (L' := [some (.ref a0), some (.int a1), some (.int a2), some (.int a3), some (.long x8), none]) (st' := [.int a1, .ref a0]) rfl rfl ?_
          obtain ⟨ho, h⟩ := gp_inv h
          obtain ⟨fs, ho⟩ := isO_inv ho
          obtain ⟨x10, H11, hx10, h⟩ := bd2_inv h
          refine sn_callv (av := [.int a1]) (st := []) (M2 := mX10_findOrbit) dX10_alike_69 msX10_findOrbit mlX10_251 rfl rfl rfl rfl rfl ho (sX10_findOrbit hx10) ?_
          refine sn_blk _ kX10_alike_0_8 (pc' := 75) (L' := [some (.ref a0), some (.int a1), some (.int a2), some (.int a3), some (.long x8), none]) (st' := [.long x8, .ref a0]) rfl rfl ?_
          obtain ⟨ho, h⟩ := gp_inv h
          obtain ⟨fs, ho⟩ := isO_inv ho
          obtain ⟨x12, H13, hx12, h⟩ := bd2_inv h
          refine sn_callv (av := [.long x8]) (st := []) (M2 := mX10_placeOf) dX10_alike_75 msX10_placeOf mlX10_240 rfl rfl rfl rfl rfl ho (sX10_placeOf hx12) ?_
          refine sn_blk _ kX10_alike_0_9 (pc' := 80) (L' := [some (.ref a0), some (.int a1), some (.int a2), some (.int a3), some (.long x8), none]) (st' := [.int (-9), .int x12]) rfl rfl ?_
          refine sn_icmp_ne (tgt := 87) dX10_alike_80 (by decide) (fun c => ?_) (fun c => ?_)
          · rw [if_neg c] at h
            refine sn_blk _ kX10_alike_0_10 (pc' := 88) (L' := [some (.ref a0), some (.int a1), some (.int a2), some (.int a3), some (.long x8), none]) (st' := [.int 1]) rfl rfl ?_
            cases h
            exact sn_iret (ty := .int) dX10_alike_88 rfl rfl
          · rw [if_pos c] at h
            refine sn_blk _ kX10_alike_0_11 (pc' := 88) (L' := [some (.ref a0), some (.int a1), some (.int a2), some (.int a3), some (.long x8), none]) (st' := [.int 0]) rfl rfl ?_
            cases h
            exact sn_iret (ty := .int) dX10_alike_88 rfl rfl
        · rw [if_pos c] at h
          refine sn_blk _ kX10_alike_0_12 (pc' := 50) (L' := [some (.ref a0), some (.int a1), some (.int a2), some (.int a3), some (.long x8), none]) (st' := [.ref a0, .ref a0, .long x8]) rfl rfl ?_
          obtain ⟨x14, hx14, h⟩ := bd_inv h
          refine sn_gA dX10_alike_50 foX10_13 hx14 ?_
          refine sn_blk _ kX10_alike_0_13 (pc' := 54) (L' := [some (.ref a0), some (.int a1), some (.int a2), some (.int a3), some (.long x8), none]) (st' := [.int a1, .ref x14, .ref a0, .long x8]) rfl rfl ?_
          obtain ⟨ho, h⟩ := gp_inv h
          obtain ⟨fs, ho⟩ := isO_inv ho
          obtain ⟨x15, H16, hx15, h⟩ := bd2_inv h
          refine sn_callv (av := [.ref x14, .int a1]) (st := [.long x8]) (M2 := mX10_leastName) dX10_alike_54 msX10_leastName mlX10_218 rfl rfl rfl rfl rfl ho (sX10_leastName hx15) ?_
          refine sn_blk _ kX10_alike_0_14 (pc' := 58) (L' := [some (.ref a0), some (.int a1), some (.int a2), some (.int a3), some (.long x8), none]) (st' := [.int (lg_cmp x8 x15)]) rfl rfl ?_
          refine sn_if_ne (tgt := 65) dX10_alike_58 (by decide) (fun c => ?_) (fun c => ?_)
          · rw [if_neg c] at h
            refine sn_blk _ kX10_alike_0_15 (pc' := 66) (L' := [some (.ref a0), some (.int a1), some (.int a2), some (.int a3), some (.long x8), none]) (st' := [.int 0]) rfl rfl ?_
            cases h
            exact sn_iret (ty := .int) dX10_alike_66 rfl rfl
          · rw [if_pos c] at h
            refine sn_blk _ kX10_alike_0_16 (pc' := 66) (L' := [some (.ref a0), some (.int a1), some (.int a2), some (.int a3), some (.long x8), none]) (st' := [.int 1]) rfl rfl ?_
            cases h
            exact sn_iret (ty := .int) dX10_alike_66 rfl rfl
      · rw [if_pos c] at h
        refine sn_blk _ kX10_alike_0_17 (pc' := 30) (L' := [some (.ref a0), some (.int a1), some (.int a2), some (.int a3), none, none]) (st' := [.int (-2)]) rfl rfl ?_
        cases h
        exact sn_iret (ty := .int) dX10_alike_30 rfl rfl
    · rw [if_pos c] at h
      refine sn_blk _ kX10_alike_0_18 (pc' := 17) (L' := [some (.ref a0), some (.int a1), some (.int a2), some (.int a3), none, none]) (st' := [.int (-1)]) rfl rfl ?_
      cases h
      exact sn_iret (ty := .int) dX10_alike_17 rfl rfl
theorem sX10_alike {G : GG} {r : Int32} {H' : Hp} {a0 : Nat} {a1 : Int32} {a2 : Int32} {a3 : Int32} {H : Hp} (h : FX10_alike a0 a1 a2 a3 H = some (r, H')) : SM G mX10_alike [.ref a0, .int a1, .int a2, .int a3] H (some (.int r)) H' := tFX10_alike h
/-! SquareFoldsModel.tenThousands(I)J -/
theorem kX10_tenThousands_0_0 : decB cX10_tenThousands 0 [(.lconst 1, .long 1), (.lstore_n 1, .null), (.iconst 0, .int 0), (.istore_n 3, .null)] = true := by decide +kernel
theorem kX10_tenThousands_4_0 : decB cX10_tenThousands 4 [(.iload_n 3, .null), (.iload_n 0, .null)] = true := by decide +kernel
theorem kX10_tenThousands_4_1 : decB cX10_tenThousands 21 [(.lload_n 1, .null)] = true := by decide +kernel
theorem kX10_tenThousands_4_2 : decB cX10_tenThousands 9 [(.lload_n 1, .null)] = true := by decide +kernel
theorem kX10_tenThousands_4_3 : decB cX10_tenThousands 13 [(.lmul, .null), (.lstore_n 1, .null), (.iinc 3 1, .int 1), (.goto (-14), .retAddr 4)] = true := by decide +kernel
theorem dX10_tenThousands_6 : decode cX10_tenThousands 6 = .ok (.if_icmp .ge 15, 3) := by decide +kernel
theorem dX10_tenThousands_10 : decode cX10_tenThousands 10 = .ok (.ldc2_w 257, 3) := by decide +kernel
theorem dX10_tenThousands_22 : decode cX10_tenThousands 22 = .ok (.lreturn, 1) := by decide +kernel
def bX10_tenThousands_4 (K4 : Int32 → Int64 → Int32 → Hp → Option (Int64 × Hp)) (a0 : Int32) (a1 : Int64) (a3 : Int32) (H : Hp) : Option (Int64 × Hp) :=
  if (a0 ≤ a3 : Prop) then
    some (a1, H)
  else
    K4 a0 (a1 * 10000) (a3 + 1) H
set_option maxHeartbeats 4000000 in
set_option maxRecDepth 100000 in
theorem tbX10_tenThousands_4 {G : GG} {r : Int64} {H' : Hp} {K4 : Int32 → Int64 → Int32 → Hp → Option (Int64 × Hp)} (hK4 : ∀ (a0 : Int32) (a1 : Int64) (a3 : Int32) (H : Hp), K4 a0 a1 a3 H = some (r, H') → Sn G (T0 G (some (.long r)) H') mX10_tenThousands 4 [some (.int a0), some (.long a1), none, some (.int a3)] [] H) {a0 : Int32} {a1 : Int64} {a3 : Int32} {H : Hp} (h : bX10_tenThousands_4 K4 a0 a1 a3 H = some (r, H')) : Sn G (T0 G (some (.long r)) H') mX10_tenThousands 4 [some (.int a0), some (.long a1), none, some (.int a3)] [] H := by
  unfold bX10_tenThousands_4 at h
  refine sn_blk _ kX10_tenThousands_4_0 (pc' := 6) (L' := [some (.int a0), some (.long a1), none, some (.int a3)]) (st' := [.int a0, .int a3]) rfl rfl ?_
  refine sn_icmp_ge (tgt := 21) dX10_tenThousands_6 (by decide) (fun c => ?_) (fun c => ?_)
  · rw [if_pos c] at h
    refine sn_blk _ kX10_tenThousands_4_1 (pc' := 22) (L' := [some (.int a0), some (.long a1), none, some (.int a3)]) (st' := [.long a1]) rfl rfl ?_
    cases h
    exact sn_lret dX10_tenThousands_22 rfl
  · rw [if_neg c] at h
    refine sn_blk _ kX10_tenThousands_4_2 (pc' := 10) (L' := [some (.int a0), some (.long a1), none, some (.int a3)]) (st' := [.long a1]) rfl rfl ?_
    refine sn_ldc2 dX10_tenThousands_10 kcX10_257 ?_
    refine sn_blk _ kX10_tenThousands_4_3 (pc' := 4) (L' := [some (.int a0), some (.long (a1 * 10000)), none, some (.int (a3 + 1))]) (st' := []) rfl rfl ?_
    exact hK4 _ _ _ _ h
def fX10_tenThousands_4  : Nat → Int32 → Int64 → Int32 → Hp → Option (Int64 × Hp)
  | 0, _, _, _, _ => none
  | d + 1, a0, a1, a3, H => bX10_tenThousands_4 (fX10_tenThousands_4  d) a0 a1 a3 H
theorem tfX10_tenThousands_4 {G : GG} {r : Int64} {H' : Hp}   : ∀ (d : Nat) {a0 : Int32} {a1 : Int64} {a3 : Int32} {H : Hp}, fX10_tenThousands_4  d a0 a1 a3 H = some (r, H') → Sn G (T0 G (some (.long r)) H') mX10_tenThousands 4 [some (.int a0), some (.long a1), none, some (.int a3)] [] H := by
  intro d
  induction d with
  | zero => intro a0 a1 a3 H h; cases h
  | succ d ih => intro a0 a1 a3 H h; exact tbX10_tenThousands_4 (fun a0 a1 a3 H h => ih h) h
def FX10_tenThousands  (a0 : Int32) (H : Hp) : Option (Int64 × Hp) :=
  fX10_tenThousands_4  4096 a0 1 0 H
set_option maxHeartbeats 4000000 in
set_option maxRecDepth 100000 in
theorem tFX10_tenThousands {G : GG} {r : Int64} {H' : Hp}   {a0 : Int32} {H : Hp} (h : FX10_tenThousands  a0 H = some (r, H')) : Sn G (T0 G (some (.long r)) H') mX10_tenThousands 0 [some (.int a0), none, none, none] [] H := by
  unfold FX10_tenThousands at h
  refine sn_blk _ kX10_tenThousands_0_0 (pc' := 4) (L' := [some (.int a0), some (.long 1), none, some (.int 0)]) (st' := []) rfl rfl ?_
  exact tfX10_tenThousands_4  4096 h
theorem sX10_tenThousands {G : GG} {r : Int64} {H' : Hp} {a0 : Int32} {H : Hp} (h : FX10_tenThousands a0 H = some (r, H')) : SM G mX10_tenThousands [.int a0] H (some (.long r)) H' := tFX10_tenThousands h
/-! SquareFoldsModel.lay([I[I)V -/
theorem kX10_lay_0_0 : decB cX10_lay 0 [(.iconst 0, .int 0), (.istore_n 2, .null)] = true := by decide +kernel
theorem kX10_lay_2_0 : decB cX10_lay 2 [(.iload_n 2, .null), (.bipush 11, .int 11)] = true := by decide +kernel
theorem kX10_lay_2_1 : decB cX10_lay 8 [(.aload_n 0, .null), (.iload_n 2, .null), (.aload_n 1, .null), (.iload_n 2, .null)] = true := by decide +kernel
theorem kX10_lay_2_2 : decB cX10_lay 14 [(.iinc 2 1, .int 1), (.goto (-15), .retAddr 2)] = true := by decide +kernel
theorem dX10_lay_5 : decode cX10_lay 5 = .ok (.if_icmp .ge 15, 3) := by decide +kernel
theorem dX10_lay_12 : decode cX10_lay 12 = .ok (.iaload, 1) := by decide +kernel
theorem dX10_lay_13 : decode cX10_lay 13 = .ok (.iastore, 1) := by decide +kernel
theorem dX10_lay_20 : decode cX10_lay 20 = .ok (.return_, 1) := by decide +kernel
def bX10_lay_2 (K2 : Nat → Nat → Int32 → Hp → Option (Unit × Hp)) (a0 : Nat) (a1 : Nat) (a2 : Int32) (H : Hp) : Option (Unit × Hp) :=
  if (11 ≤ a2 : Prop) then
    some ((), H)
  else
    bd (aI H a1 0 a2) fun x1 =>
    bd (sI H a0 0 a2 x1) fun H2 =>
    K2 a0 a1 (a2 + 1) H2
set_option maxHeartbeats 4000000 in
set_option maxRecDepth 100000 in
theorem tbX10_lay_2 {G : GG} {r : Unit} {H' : Hp} {K2 : Nat → Nat → Int32 → Hp → Option (Unit × Hp)} (hK2 : ∀ (a0 : Nat) (a1 : Nat) (a2 : Int32) (H : Hp), K2 a0 a1 a2 H = some (r, H') → Sn G (T0 G none H') mX10_lay 2 [some (.ref a0), some (.ref a1), some (.int a2)] [] H) {a0 : Nat} {a1 : Nat} {a2 : Int32} {H : Hp} (h : bX10_lay_2 K2 a0 a1 a2 H = some (r, H')) : Sn G (T0 G none H') mX10_lay 2 [some (.ref a0), some (.ref a1), some (.int a2)] [] H := by
  unfold bX10_lay_2 at h
  refine sn_blk _ kX10_lay_2_0 (pc' := 5) (L' := [some (.ref a0), some (.ref a1), some (.int a2)]) (st' := [.int 11, .int a2]) rfl rfl ?_
  refine sn_icmp_ge (tgt := 20) dX10_lay_5 (by decide) (fun c => ?_) (fun c => ?_)
  · rw [if_pos c] at h
    cases h
    exact sn_vret dX10_lay_20 rfl
  · rw [if_neg c] at h
    refine sn_blk _ kX10_lay_2_1 (pc' := 12) (L' := [some (.ref a0), some (.ref a1), some (.int a2)]) (st' := [.int a2, .ref a1, .int a2, .ref a0]) rfl rfl ?_
    obtain ⟨x1, hx1, h⟩ := bd_inv h
    refine sn_iald dX10_lay_12 hx1 ?_
    obtain ⟨H2, hH2, h⟩ := bd_inv h
    refine sn_iast dX10_lay_13 hH2 ?_
    refine sn_blk _ kX10_lay_2_2 (pc' := 2) (L' := [some (.ref a0), some (.ref a1), some (.int (a2 + 1))]) (st' := []) rfl rfl ?_
    exact hK2 _ _ _ _ h
def fX10_lay_2  : Nat → Nat → Nat → Int32 → Hp → Option (Unit × Hp)
  | 0, _, _, _, _ => none
  | d + 1, a0, a1, a2, H => bX10_lay_2 (fX10_lay_2  d) a0 a1 a2 H
theorem tfX10_lay_2 {G : GG} {r : Unit} {H' : Hp}   : ∀ (d : Nat) {a0 : Nat} {a1 : Nat} {a2 : Int32} {H : Hp}, fX10_lay_2  d a0 a1 a2 H = some (r, H') → Sn G (T0 G none H') mX10_lay 2 [some (.ref a0), some (.ref a1), some (.int a2)] [] H := by
  intro d
  induction d with
  | zero => intro a0 a1 a2 H h; cases h
  | succ d ih => intro a0 a1 a2 H h; exact tbX10_lay_2 (fun a0 a1 a2 H h => ih h) h
def FX10_lay  (a0 : Nat) (a1 : Nat) (H : Hp) : Option (Unit × Hp) :=
  fX10_lay_2  4096 a0 a1 0 H
set_option maxHeartbeats 4000000 in
set_option maxRecDepth 100000 in
theorem tFX10_lay {G : GG} {r : Unit} {H' : Hp}   {a0 : Nat} {a1 : Nat} {H : Hp} (h : FX10_lay  a0 a1 H = some (r, H')) : Sn G (T0 G none H') mX10_lay 0 [some (.ref a0), some (.ref a1), none] [] H := by
  unfold FX10_lay at h
  refine sn_blk _ kX10_lay_0_0 (pc' := 2) (L' := [some (.ref a0), some (.ref a1), some (.int 0)]) (st' := []) rfl rfl ?_
  exact tfX10_lay_2  4096 h
theorem sX10_lay {G : GG} {r : Unit} {H' : Hp} {a0 : Nat} {a1 : Nat} {H : Hp} (h : FX10_lay a0 a1 H = some (r, H')) : SM G mX10_lay [.ref a0, .ref a1] H none H' := tFX10_lay h
/-! SquareFoldsModel.judged(IIII)Z -/
theorem kX10_judged_0_0 : decB cX10_judged 0 [(.iload_n 1, .null)] = true := by decide +kernel
theorem kX10_judged_0_1 : decB cX10_judged 68 [(.iload_n 2, .null)] = true := by decide +kernel
theorem kX10_judged_0_2 : decB cX10_judged 95 [(.iconst 0, .int 0)] = true := by decide +kernel
theorem kX10_judged_0_3 : decB cX10_judged 72 [(.iload_n 3, .null), (.iload 4, .null)] = true := by decide +kernel
theorem kX10_judged_0_4 : decB cX10_judged 95 [(.iconst 0, .int 0)] = true := by decide +kernel
theorem kX10_judged_0_5 : decB cX10_judged 78 [(.aload_n 0, .null), (.iload_n 3, .null)] = true := by decide +kernel
theorem kX10_judged_0_6 : decB cX10_judged 95 [(.iconst 0, .int 0)] = true := by decide +kernel
theorem kX10_judged_0_7 : decB cX10_judged 86 [(.aload_n 0, .null), (.iload 4, .null)] = true := by decide +kernel
theorem kX10_judged_0_8 : decB cX10_judged 97 [(.aload_n 0, .null), (.aload_n 0, .null)] = true := by decide +kernel
theorem kX10_judged_0_9 : decB cX10_judged 102 [(.iload_n 3, .null), (.iload 4, .null)] = true := by decide +kernel
theorem kX10_judged_0_10 : decB cX10_judged 108 [(.iconst 1, .int 1)] = true := by decide +kernel
theorem kX10_judged_0_11 : decB cX10_judged 95 [(.iconst 0, .int 0)] = true := by decide +kernel
theorem kX10_judged_0_12 : decB cX10_judged 110 [(.iload 4, .null)] = true := by decide +kernel
theorem kX10_judged_0_13 : decB cX10_judged 150 [(.iconst 0, .int 0)] = true := by decide +kernel
theorem kX10_judged_0_14 : decB cX10_judged 115 [(.aload_n 0, .null), (.iload_n 2, .null)] = true := by decide +kernel
theorem kX10_judged_0_15 : decB cX10_judged 150 [(.iconst 0, .int 0)] = true := by decide +kernel
theorem kX10_judged_0_16 : decB cX10_judged 123 [(.aload_n 0, .null), (.iload_n 3, .null)] = true := by decide +kernel
theorem kX10_judged_0_17 : decB cX10_judged 150 [(.iconst 0, .int 0)] = true := by decide +kernel
theorem kX10_judged_0_18 : decB cX10_judged 131 [(.aload_n 0, .null)] = true := by decide +kernel
theorem kX10_judged_0_19 : decB cX10_judged 135 [(.iload_n 2, .null)] = true := by decide +kernel
theorem kX10_judged_0_20 : decB cX10_judged 139 [(.iload_n 3, .null)] = true := by decide +kernel
theorem kX10_judged_0_21 : decB cX10_judged 150 [(.iconst 0, .int 0)] = true := by decide +kernel
theorem kX10_judged_0_22 : decB cX10_judged 146 [(.iconst 1, .int 1), (.goto 4, .retAddr 151)] = true := by decide +kernel
theorem kX10_judged_0_23 : decB cX10_judged 152 [(.iload_n 2, .null)] = true := by decide +kernel
theorem kX10_judged_0_24 : decB cX10_judged 176 [(.iconst 0, .int 0)] = true := by decide +kernel
theorem kX10_judged_0_25 : decB cX10_judged 156 [(.iload_n 3, .null)] = true := by decide +kernel
theorem kX10_judged_0_26 : decB cX10_judged 176 [(.iconst 0, .int 0)] = true := by decide +kernel
theorem kX10_judged_0_27 : decB cX10_judged 160 [(.aload_n 0, .null)] = true := by decide +kernel
theorem kX10_judged_0_28 : decB cX10_judged 167 [(.iload 4, .null)] = true := by decide +kernel
theorem kX10_judged_0_29 : decB cX10_judged 176 [(.iconst 0, .int 0)] = true := by decide +kernel
theorem kX10_judged_0_30 : decB cX10_judged 172 [(.iconst 1, .int 1), (.goto 4, .retAddr 177)] = true := by decide +kernel
theorem kX10_judged_0_31 : decB cX10_judged 178 [(.iload_n 3, .null)] = true := by decide +kernel
theorem kX10_judged_0_32 : decB cX10_judged 207 [(.iconst 0, .int 0)] = true := by decide +kernel
theorem kX10_judged_0_33 : decB cX10_judged 182 [(.aload_n 0, .null), (.iload_n 2, .null)] = true := by decide +kernel
theorem kX10_judged_0_34 : decB cX10_judged 207 [(.iconst 0, .int 0)] = true := by decide +kernel
theorem kX10_judged_0_35 : decB cX10_judged 190 [(.aload_n 0, .null)] = true := by decide +kernel
theorem kX10_judged_0_36 : decB cX10_judged 194 [(.iload_n 2, .null)] = true := by decide +kernel
theorem kX10_judged_0_37 : decB cX10_judged 198 [(.iload 4, .null)] = true := by decide +kernel
theorem kX10_judged_0_38 : decB cX10_judged 207 [(.iconst 0, .int 0)] = true := by decide +kernel
theorem kX10_judged_0_39 : decB cX10_judged 203 [(.iconst 1, .int 1), (.goto 4, .retAddr 208)] = true := by decide +kernel
theorem kX10_judged_0_40 : decB cX10_judged 209 [(.iconst 0, .int 0)] = true := by decide +kernel
theorem kX10_judged_44_0 : decB cX10_judged 44 [(.iload_n 2, .null), (.iload_n 3, .null), (.iadd, .null), (.iload 4, .null), (.iadd, .null)] = true := by decide +kernel
theorem kX10_judged_44_1 : decB cX10_judged 55 [(.aload_n 0, .null), (.aload_n 0, .null)] = true := by decide +kernel
theorem kX10_judged_44_2 : decB cX10_judged 60 [(.iload_n 1, .null), (.iconst 1, .int 1), (.isub, .null)] = true := by decide +kernel
theorem kX10_judged_44_3 : decB cX10_judged 66 [(.iconst 1, .int 1)] = true := by decide +kernel
theorem kX10_judged_44_4 : decB cX10_judged 53 [(.iconst 0, .int 0)] = true := by decide +kernel
theorem dX10_judged_1 : decode cX10_judged 1 = .ok (.tableswitch 208 1 7 #[43, 43, 43, 67, 109, 151, 177], 43) := by decide +kernel
theorem dX10_judged_50 : decode cX10_judged 50 = .ok (.ifCond .eq 5, 3) := by decide +kernel
theorem dX10_judged_54 : decode cX10_judged 54 = .ok (.ireturn, 1) := by decide +kernel
theorem dX10_judged_57 : decode cX10_judged 57 = .ok (.getfield 16, 3) := by decide +kernel
theorem dX10_judged_63 : decode cX10_judged 63 = .ok (.invokevirtual 229, 3) := by decide +kernel
theorem dX10_judged_67 : decode cX10_judged 67 = .ok (.ireturn, 1) := by decide +kernel
theorem dX10_judged_69 : decode cX10_judged 69 = .ok (.ifCond .ne 26, 3) := by decide +kernel
theorem dX10_judged_75 : decode cX10_judged 75 = .ok (.if_icmp .eq 20, 3) := by decide +kernel
theorem dX10_judged_80 : decode cX10_judged 80 = .ok (.invokevirtual 185, 3) := by decide +kernel
theorem dX10_judged_83 : decode cX10_judged 83 = .ok (.ifCond .eq 12, 3) := by decide +kernel
theorem dX10_judged_89 : decode cX10_judged 89 = .ok (.invokevirtual 185, 3) := by decide +kernel
theorem dX10_judged_92 : decode cX10_judged 92 = .ok (.ifCond .ne 5, 3) := by decide +kernel
theorem dX10_judged_96 : decode cX10_judged 96 = .ok (.ireturn, 1) := by decide +kernel
theorem dX10_judged_99 : decode cX10_judged 99 = .ok (.getfield 16, 3) := by decide +kernel
theorem dX10_judged_105 : decode cX10_judged 105 = .ok (.invokevirtual 233, 3) := by decide +kernel
theorem dX10_judged_109 : decode cX10_judged 109 = .ok (.ireturn, 1) := by decide +kernel
theorem dX10_judged_112 : decode cX10_judged 112 = .ok (.ifCond .ne 38, 3) := by decide +kernel
theorem dX10_judged_117 : decode cX10_judged 117 = .ok (.invokevirtual 185, 3) := by decide +kernel
theorem dX10_judged_120 : decode cX10_judged 120 = .ok (.ifCond .eq 30, 3) := by decide +kernel
theorem dX10_judged_125 : decode cX10_judged 125 = .ok (.invokevirtual 185, 3) := by decide +kernel
theorem dX10_judged_128 : decode cX10_judged 128 = .ok (.ifCond .eq 22, 3) := by decide +kernel
theorem dX10_judged_132 : decode cX10_judged 132 = .ok (.getfield 16, 3) := by decide +kernel
theorem dX10_judged_136 : decode cX10_judged 136 = .ok (.invokestatic 91, 3) := by decide +kernel
theorem dX10_judged_140 : decode cX10_judged 140 = .ok (.invokestatic 80, 3) := by decide +kernel
theorem dX10_judged_143 : decode cX10_judged 143 = .ok (.ifCond .eq 7, 3) := by decide +kernel
theorem dX10_judged_151 : decode cX10_judged 151 = .ok (.ireturn, 1) := by decide +kernel
theorem dX10_judged_153 : decode cX10_judged 153 = .ok (.ifCond .ne 23, 3) := by decide +kernel
theorem dX10_judged_157 : decode cX10_judged 157 = .ok (.ifCond .ne 19, 3) := by decide +kernel
theorem dX10_judged_161 : decode cX10_judged 161 = .ok (.getfield 16, 3) := by decide +kernel
theorem dX10_judged_164 : decode cX10_judged 164 = .ok (.invokestatic 167, 3) := by decide +kernel
theorem dX10_judged_169 : decode cX10_judged 169 = .ok (.if_icmp .lt 7, 3) := by decide +kernel
theorem dX10_judged_177 : decode cX10_judged 177 = .ok (.ireturn, 1) := by decide +kernel
theorem dX10_judged_179 : decode cX10_judged 179 = .ok (.ifCond .ne 28, 3) := by decide +kernel
theorem dX10_judged_184 : decode cX10_judged 184 = .ok (.invokevirtual 185, 3) := by decide +kernel
theorem dX10_judged_187 : decode cX10_judged 187 = .ok (.ifCond .eq 20, 3) := by decide +kernel
theorem dX10_judged_191 : decode cX10_judged 191 = .ok (.getfield 16, 3) := by decide +kernel
theorem dX10_judged_195 : decode cX10_judged 195 = .ok (.invokestatic 198, 3) := by decide +kernel
theorem dX10_judged_200 : decode cX10_judged 200 = .ok (.if_icmp .ne 7, 3) := by decide +kernel
theorem dX10_judged_208 : decode cX10_judged 208 = .ok (.ireturn, 1) := by decide +kernel
theorem dX10_judged_210 : decode cX10_judged 210 = .ok (.ireturn, 1) := by decide +kernel
def fX10_judged_44  (a0 : Nat) (a1 : Int32) (a2 : Int32) (a3 : Int32) (a4 : Int32) (H : Hp) : Option (Int32 × Hp) :=
  if (((a2 + a3) + a4) = 0 : Prop) then
    bd (gA H a0 9 3) fun x1 =>
    gp (isO H a0 9 = true) (
      bd2 (FX10_shearOn a0 x1 (a1 - 1) H) fun _ H3 =>
      some (1, H3)
      )
  else
    some (0, H)
set_option maxHeartbeats 4000000 in
set_option maxRecDepth 100000 in
theorem tfX10_judged_44 {G : GG} {r : Int32} {H' : Hp}   {a0 : Nat} {a1 : Int32} {a2 : Int32} {a3 : Int32} {a4 : Int32} {H : Hp} (h : fX10_judged_44  a0 a1 a2 a3 a4 H = some (r, H')) : Sn G (T0 G (some (.int r)) H') mX10_judged 44 [some (.ref a0), some (.int a1), some (.int a2), some (.int a3), some (.int a4)] [] H := by
  unfold fX10_judged_44 at h
  refine sn_blk _ kX10_judged_44_0 (pc' := 50) (L' := [some (.ref a0), some (.int a1), some (.int a2), some (.int a3), some (.int a4)]) (st' := [.int ((a2 + a3) + a4)]) rfl rfl ?_
  refine sn_if_eq (tgt := 55) dX10_judged_50 (by decide) (fun c => ?_) (fun c => ?_)
  · rw [if_pos c] at h
    refine sn_blk _ kX10_judged_44_1 (pc' := 57) (L' := [some (.ref a0), some (.int a1), some (.int a2), some (.int a3), some (.int a4)]) (st' := [.ref a0, .ref a0]) rfl rfl ?_
    obtain ⟨x1, hx1, h⟩ := bd_inv h
    refine sn_gA dX10_judged_57 foX10_16 hx1 ?_
    refine sn_blk _ kX10_judged_44_2 (pc' := 63) (L' := [some (.ref a0), some (.int a1), some (.int a2), some (.int a3), some (.int a4)]) (st' := [.int (a1 - 1), .ref x1, .ref a0]) rfl rfl ?_
    obtain ⟨ho, h⟩ := gp_inv h
    obtain ⟨fs, ho⟩ := isO_inv ho
    obtain ⟨x2, H3, hx2, h⟩ := bd2_inv h
    refine sn_callv (av := [.ref x1, .int (a1 - 1)]) (st := []) (M2 := mX10_shearOn) dX10_judged_63 msX10_shearOn mlX10_229 rfl rfl rfl rfl rfl ho (sX10_shearOn hx2) ?_
    refine sn_blk _ kX10_judged_44_3 (pc' := 67) (L' := [some (.ref a0), some (.int a1), some (.int a2), some (.int a3), some (.int a4)]) (st' := [.int 1]) rfl rfl ?_
    cases h
    exact sn_iret (ty := .boolean) dX10_judged_67 rfl rfl
  · rw [if_neg c] at h
    refine sn_blk _ kX10_judged_44_4 (pc' := 54) (L' := [some (.ref a0), some (.int a1), some (.int a2), some (.int a3), some (.int a4)]) (st' := [.int 0]) rfl rfl ?_
    cases h
    exact sn_iret (ty := .boolean) dX10_judged_54 rfl rfl
def FX10_judged  (a0 : Nat) (a1 : Int32) (a2 : Int32) (a3 : Int32) (a4 : Int32) (H : Hp) : Option (Int32 × Hp) :=
  if a1 = (1 : Int32) then
    fX10_judged_44  a0 a1 a2 a3 a4 H
  else
    if a1 = (2 : Int32) then
      fX10_judged_44  a0 a1 a2 a3 a4 H
    else
      if a1 = (3 : Int32) then
        fX10_judged_44  a0 a1 a2 a3 a4 H
      else
        if a1 = (4 : Int32) then
          if (a2 = 0 : Prop) then
            if (a3 = a4 : Prop) then
              some (0, H)
            else
              gp (isO H a0 9 = true) (
                bd2 (FX10_isSquare a0 a3 H) fun x1 H2 =>
                if (x1 = 0 : Prop) then
                  some (0, H2)
                else
                  gp (isO H2 a0 9 = true) (
                    bd2 (FX10_isSquare a0 a4 H2) fun x3 H4 =>
                    if (x3 = 0 : Prop) then
                      some (0, H4)
                    else
                      bd (gA H4 a0 9 3) fun x5 =>
                      gp (isO H4 a0 9 = true) (
                        bd2 (FX10_change a0 x5 a3 a4 H4) fun _ H7 =>
                        some (1, H7)
                        )
                    )
                )
          else
            some (0, H)
        else
          if a1 = (5 : Int32) then
            if (a4 = 0 : Prop) then
              gp (isO H a0 9 = true) (
                bd2 (FX10_isSquare a0 a2 H) fun x8 H9 =>
                if (x8 = 0 : Prop) then
                  some (0, H9)
                else
                  gp (isO H9 a0 9 = true) (
                    bd2 (FX10_isSquare a0 a3 H9) fun x10 H11 =>
                    if (x10 = 0 : Prop) then
                      some (0, H11)
                    else
                      bd (gA H11 a0 9 3) fun x12 =>
                      bd2 (FX10_pieceOf x12 a2 H11) fun x13 H14 =>
                      bd2 (FX10_has x13 a3 H14) fun x15 H16 =>
                      if (x15 = 0 : Prop) then
                        some (0, H16)
                      else
                        some (1, H16)
                    )
                )
            else
              some (0, H)
          else
            if a1 = (6 : Int32) then
              if (a2 = 0 : Prop) then
                if (a3 = 0 : Prop) then
                  bd (gA H a0 9 3) fun x17 =>
                  bd2 (FX10_ordinary x17 H) fun x18 H19 =>
                  if (x18 < a4 : Prop) then
                    some (0, H19)
                  else
                    some (1, H19)
                else
                  some (0, H)
              else
                some (0, H)
            else
              if a1 = (7 : Int32) then
                if (a3 = 0 : Prop) then
                  gp (isO H a0 9 = true) (
                    bd2 (FX10_isSquare a0 a2 H) fun x20 H21 =>
                    if (x20 = 0 : Prop) then
                      some (0, H21)
                    else
                      bd (gA H21 a0 9 3) fun x22 =>
                      bd2 (FX10_holes x22 a2 H21) fun x23 H24 =>
                      if (x23 = a4 : Prop) then
                        some (1, H24)
                      else
                        some (0, H24)
                    )
                else
                  some (0, H)
              else
                some (0, H)
set_option maxHeartbeats 4000000 in
set_option maxRecDepth 100000 in
theorem tFX10_judged {G : GG} {r : Int32} {H' : Hp}   {a0 : Nat} {a1 : Int32} {a2 : Int32} {a3 : Int32} {a4 : Int32} {H : Hp} (h : FX10_judged  a0 a1 a2 a3 a4 H = some (r, H')) : Sn G (T0 G (some (.int r)) H') mX10_judged 0 [some (.ref a0), some (.int a1), some (.int a2), some (.int a3), some (.int a4)] [] H := by
  unfold FX10_judged at h
  refine sn_blk _ kX10_judged_0_0 (pc' := 1) (L' := [some (.ref a0), some (.int a1), some (.int a2), some (.int a3), some (.int a4)]) (st' := [.int a1]) rfl rfl ?_
  by_cases c1_1 : a1 = (1 : Int32)
  · rw [if_pos c1_1] at h
    refine sn_tblIn (off := 43) (tgt := 44) dX10_judged_1 (by rw [c1_1]; decide) (by rw [c1_1]; decide) (by rw [c1_1]; decide +kernel) (by decide) ?_
    exact tfX10_judged_44  h
  · rw [if_neg c1_1] at h
    by_cases c1_2 : a1 = (2 : Int32)
    · rw [if_pos c1_2] at h
      refine sn_tblIn (off := 43) (tgt := 44) dX10_judged_1 (by rw [c1_2]; decide) (by rw [c1_2]; decide) (by rw [c1_2]; decide +kernel) (by decide) ?_
      exact tfX10_judged_44  h
    · rw [if_neg c1_2] at h
      by_cases c1_3 : a1 = (3 : Int32)
      · rw [if_pos c1_3] at h
        refine sn_tblIn (off := 43) (tgt := 44) dX10_judged_1 (by rw [c1_3]; decide) (by rw [c1_3]; decide) (by rw [c1_3]; decide +kernel) (by decide) ?_
        exact tfX10_judged_44  h
      · rw [if_neg c1_3] at h
        by_cases c1_4 : a1 = (4 : Int32)
        · rw [if_pos c1_4] at h
          refine sn_tblIn (off := 67) (tgt := 68) dX10_judged_1 (by rw [c1_4]; decide) (by rw [c1_4]; decide) (by rw [c1_4]; decide +kernel) (by decide) ?_
          refine sn_blk _ kX10_judged_0_1 (pc' := 69) (L' := [some (.ref a0), some (.int a1), some (.int a2), some (.int a3), some (.int a4)]) (st' := [.int a2]) rfl rfl ?_
          refine sn_if_ne (tgt := 95) dX10_judged_69 (by decide) (fun c => ?_) (fun c => ?_)
          · rw [if_neg c] at h
            refine sn_blk _ kX10_judged_0_2 (pc' := 96) (L' := [some (.ref a0), some (.int a1), some (.int a2), some (.int a3), some (.int a4)]) (st' := [.int 0]) rfl rfl ?_
            cases h
            exact sn_iret (ty := .boolean) dX10_judged_96 rfl rfl
          · rw [if_pos c] at h
            refine sn_blk _ kX10_judged_0_3 (pc' := 75) (L' := [some (.ref a0), some (.int a1), some (.int a2), some (.int a3), some (.int a4)]) (st' := [.int a4, .int a3]) rfl rfl ?_
            refine sn_icmp_eq (tgt := 95) dX10_judged_75 (by decide) (fun c => ?_) (fun c => ?_)
            · rw [if_pos c] at h
              refine sn_blk _ kX10_judged_0_4 (pc' := 96) (L' := [some (.ref a0), some (.int a1), some (.int a2), some (.int a3), some (.int a4)]) (st' := [.int 0]) rfl rfl ?_
              cases h
              exact sn_iret (ty := .boolean) dX10_judged_96 rfl rfl
            · rw [if_neg c] at h
              refine sn_blk _ kX10_judged_0_5 (pc' := 80) (L' := [some (.ref a0), some (.int a1), some (.int a2), some (.int a3), some (.int a4)]) (st' := [.int a3, .ref a0]) rfl rfl ?_
              obtain ⟨ho, h⟩ := gp_inv h
              obtain ⟨fs, ho⟩ := isO_inv ho
              obtain ⟨x1, H2, hx1, h⟩ := bd2_inv h
              refine sn_callv (av := [.int a3]) (st := []) (M2 := mX10_isSquare) dX10_judged_80 msX10_isSquare mlX10_185 rfl rfl rfl rfl rfl ho (sX10_isSquare hx1) ?_
              refine sn_if_eq (tgt := 95) dX10_judged_83 (by decide) (fun c => ?_) (fun c => ?_)
              · rw [if_pos c] at h
                refine sn_blk _ kX10_judged_0_6 (pc' := 96) (L' := [some (.ref a0), some (.int a1), some (.int a2), some (.int a3), some (.int a4)]) (st' := [.int 0]) rfl rfl ?_
                cases h
                exact sn_iret (ty := .boolean) dX10_judged_96 rfl rfl
              · rw [if_neg c] at h
                refine sn_blk _ kX10_judged_0_7 (pc' := 89) (L' := [some (.ref a0), some (.int a1), some (.int a2), some (.int a3), some (.int a4)]) (st' := [.int a4, .ref a0]) rfl rfl ?_
                obtain ⟨ho, h⟩ := gp_inv h
                obtain ⟨fs, ho⟩ := isO_inv ho
                obtain ⟨x3, H4, hx3, h⟩ := bd2_inv h
                refine sn_callv (av := [.int a4]) (st := []) (M2 := mX10_isSquare) dX10_judged_89 msX10_isSquare mlX10_185 rfl rfl rfl rfl rfl ho (sX10_isSquare hx3) ?_
                refine sn_if_ne (tgt := 97) dX10_judged_92 (by decide) (fun c => ?_) (fun c => ?_)
                · rw [if_neg c] at h
                  refine sn_blk _ kX10_judged_0_8 (pc' := 99) (L' := [some (.ref a0), some (.int a1), some (.int a2), some (.int a3), some (.int a4)]) (st' := [.ref a0, .ref a0]) rfl rfl ?_
                  obtain ⟨x5, hx5, h⟩ := bd_inv h
                  refine sn_gA dX10_judged_99 foX10_16 hx5 ?_
                  refine sn_blk _ kX10_judged_0_9 (pc' := 105) (L' := [some (.ref a0), some (.int a1), some (.int a2), some (.int a3), some (.int a4)]) (st' := [.int a4, .int a3, .ref x5, .ref a0]) rfl rfl ?_
                  obtain ⟨ho, h⟩ := gp_inv h
                  obtain ⟨fs, ho⟩ := isO_inv ho
                  obtain ⟨x6, H7, hx6, h⟩ := bd2_inv h
                  refine sn_callv (av := [.ref x5, .int a3, .int a4]) (st := []) (M2 := mX10_change) dX10_judged_105 msX10_change mlX10_233 rfl rfl rfl rfl rfl ho (sX10_change hx6) ?_
                  refine sn_blk _ kX10_judged_0_10 (pc' := 109) (L' := [some (.ref a0), some (.int a1), some (.int a2), some (.int a3), some (.int a4)]) (st' := [.int 1]) rfl rfl ?_
                  cases h
                  exact sn_iret (ty := .boolean) dX10_judged_109 rfl rfl
                · rw [if_pos c] at h
                  refine sn_blk _ kX10_judged_0_11 (pc' := 96) (L' := [some (.ref a0), some (.int a1), some (.int a2), some (.int a3), some (.int a4)]) (st' := [.int 0]) rfl rfl ?_
                  cases h
                  exact sn_iret (ty := .boolean) dX10_judged_96 rfl rfl
        · rw [if_neg c1_4] at h
          by_cases c1_5 : a1 = (5 : Int32)
          · rw [if_pos c1_5] at h
            refine sn_tblIn (off := 109) (tgt := 110) dX10_judged_1 (by rw [c1_5]; decide) (by rw [c1_5]; decide) (by rw [c1_5]; decide +kernel) (by decide) ?_
            refine sn_blk _ kX10_judged_0_12 (pc' := 112) (L' := [some (.ref a0), some (.int a1), some (.int a2), some (.int a3), some (.int a4)]) (st' := [.int a4]) rfl rfl ?_
            refine sn_if_ne (tgt := 150) dX10_judged_112 (by decide) (fun c => ?_) (fun c => ?_)
            · rw [if_neg c] at h
              refine sn_blk _ kX10_judged_0_13 (pc' := 151) (L' := [some (.ref a0), some (.int a1), some (.int a2), some (.int a3), some (.int a4)]) (st' := [.int 0]) rfl rfl ?_
              cases h
              exact sn_iret (ty := .boolean) dX10_judged_151 rfl rfl
            · rw [if_pos c] at h
              refine sn_blk _ kX10_judged_0_14 (pc' := 117) (L' := [some (.ref a0), some (.int a1), some (.int a2), some (.int a3), some (.int a4)]) (st' := [.int a2, .ref a0]) rfl rfl ?_
              obtain ⟨ho, h⟩ := gp_inv h
              obtain ⟨fs, ho⟩ := isO_inv ho
              obtain ⟨x8, H9, hx8, h⟩ := bd2_inv h
              refine sn_callv (av := [.int a2]) (st := []) (M2 := mX10_isSquare) dX10_judged_117 msX10_isSquare mlX10_185 rfl rfl rfl rfl rfl ho (sX10_isSquare hx8) ?_
              refine sn_if_eq (tgt := 150) dX10_judged_120 (by decide) (fun c => ?_) (fun c => ?_)
              · rw [if_pos c] at h
                refine sn_blk _ kX10_judged_0_15 (pc' := 151) (L' := [some (.ref a0), some (.int a1), some (.int a2), some (.int a3), some (.int a4)]) (st' := [.int 0]) rfl rfl ?_
                cases h
                exact sn_iret (ty := .boolean) dX10_judged_151 rfl rfl
              · rw [if_neg c] at h
                refine sn_blk _ kX10_judged_0_16 (pc' := 125) (L' := [some (.ref a0), some (.int a1), some (.int a2), some (.int a3), some (.int a4)]) (st' := [.int a3, .ref a0]) rfl rfl ?_
                obtain ⟨ho, h⟩ := gp_inv h
                obtain ⟨fs, ho⟩ := isO_inv ho
                obtain ⟨x10, H11, hx10, h⟩ := bd2_inv h
                refine sn_callv (av := [.int a3]) (st := []) (M2 := mX10_isSquare) dX10_judged_125 msX10_isSquare mlX10_185 rfl rfl rfl rfl rfl ho (sX10_isSquare hx10) ?_
                refine sn_if_eq (tgt := 150) dX10_judged_128 (by decide) (fun c => ?_) (fun c => ?_)
                · rw [if_pos c] at h
                  refine sn_blk _ kX10_judged_0_17 (pc' := 151) (L' := [some (.ref a0), some (.int a1), some (.int a2), some (.int a3), some (.int a4)]) (st' := [.int 0]) rfl rfl ?_
                  cases h
                  exact sn_iret (ty := .boolean) dX10_judged_151 rfl rfl
                · rw [if_neg c] at h
                  refine sn_blk _ kX10_judged_0_18 (pc' := 132) (L' := [some (.ref a0), some (.int a1), some (.int a2), some (.int a3), some (.int a4)]) (st' := [.ref a0]) rfl rfl ?_
                  obtain ⟨x12, hx12, h⟩ := bd_inv h
                  refine sn_gA dX10_judged_132 foX10_16 hx12 ?_
                  refine sn_blk _ kX10_judged_0_19 (pc' := 136) (L' := [some (.ref a0), some (.int a1), some (.int a2), some (.int a3), some (.int a4)]) (st' := [.int a2, .ref x12]) rfl rfl ?_
                  obtain ⟨x13, H14, hx13, h⟩ := bd2_inv h
                  refine sn_calls (av := [.ref x12, .int a2]) (st := []) (M2 := mX10_pieceOf) dX10_judged_136 msX10_pieceOf mlX10_91 rfl rfl rfl rfl rfl (sX10_pieceOf hx13) ?_
                  refine sn_blk _ kX10_judged_0_20 (pc' := 140) (L' := [some (.ref a0), some (.int a1), some (.int a2), some (.int a3), some (.int a4)]) (st' := [.int a3, .int x13]) rfl rfl ?_
                  obtain ⟨x15, H16, hx15, h⟩ := bd2_inv h
                  refine sn_calls (av := [.int x13, .int a3]) (st := []) (M2 := mX10_has) dX10_judged_140 msX10_has mlX10_80 rfl rfl rfl rfl rfl (sX10_has hx15) ?_
                  refine sn_if_eq (tgt := 150) dX10_judged_143 (by decide) (fun c => ?_) (fun c => ?_)
                  · rw [if_pos c] at h
                    refine sn_blk _ kX10_judged_0_21 (pc' := 151) (L' := [some (.ref a0), some (.int a1), some (.int a2), some (.int a3), some (.int a4)]) (st' := [.int 0]) rfl rfl ?_
                    cases h
                    exact sn_iret (ty := .boolean) dX10_judged_151 rfl rfl
                  · rw [if_neg c] at h
                    refine sn_blk _ kX10_judged_0_22 (pc' := 151) (L' := [some (.ref a0), some (.int a1), some (.int a2), some (.int a3), some (.int a4)]) (st' := [.int 1]) rfl rfl ?_
                    cases h
                    exact sn_iret (ty := .boolean) dX10_judged_151 rfl rfl
          · rw [if_neg c1_5] at h
            by_cases c1_6 : a1 = (6 : Int32)
            · rw [if_pos c1_6] at h
              refine sn_tblIn (off := 151) (tgt := 152) dX10_judged_1 (by rw [c1_6]; decide) (by rw [c1_6]; decide) (by rw [c1_6]; decide +kernel) (by decide) ?_
              refine sn_blk _ kX10_judged_0_23 (pc' := 153) (L' := [some (.ref a0), some (.int a1), some (.int a2), some (.int a3), some (.int a4)]) (st' := [.int a2]) rfl rfl ?_
              refine sn_if_ne (tgt := 176) dX10_judged_153 (by decide) (fun c => ?_) (fun c => ?_)
              · rw [if_neg c] at h
                refine sn_blk _ kX10_judged_0_24 (pc' := 177) (L' := [some (.ref a0), some (.int a1), some (.int a2), some (.int a3), some (.int a4)]) (st' := [.int 0]) rfl rfl ?_
                cases h
                exact sn_iret (ty := .boolean) dX10_judged_177 rfl rfl
              · rw [if_pos c] at h
                refine sn_blk _ kX10_judged_0_25 (pc' := 157) (L' := [some (.ref a0), some (.int a1), some (.int a2), some (.int a3), some (.int a4)]) (st' := [.int a3]) rfl rfl ?_
                refine sn_if_ne (tgt := 176) dX10_judged_157 (by decide) (fun c => ?_) (fun c => ?_)
                · rw [if_neg c] at h
                  refine sn_blk _ kX10_judged_0_26 (pc' := 177) (L' := [some (.ref a0), some (.int a1), some (.int a2), some (.int a3), some (.int a4)]) (st' := [.int 0]) rfl rfl ?_
                  cases h
                  exact sn_iret (ty := .boolean) dX10_judged_177 rfl rfl
                · rw [if_pos c] at h
                  refine sn_blk _ kX10_judged_0_27 (pc' := 161) (L' := [some (.ref a0), some (.int a1), some (.int a2), some (.int a3), some (.int a4)]) (st' := [.ref a0]) rfl rfl ?_
                  obtain ⟨x17, hx17, h⟩ := bd_inv h
                  refine sn_gA dX10_judged_161 foX10_16 hx17 ?_
                  obtain ⟨x18, H19, hx18, h⟩ := bd2_inv h
                  refine sn_calls (av := [.ref x17]) (st := []) (M2 := mX10_ordinary) dX10_judged_164 msX10_ordinary mlX10_167 rfl rfl rfl rfl rfl (sX10_ordinary hx18) ?_
                  refine sn_blk _ kX10_judged_0_28 (pc' := 169) (L' := [some (.ref a0), some (.int a1), some (.int a2), some (.int a3), some (.int a4)]) (st' := [.int a4, .int x18]) rfl rfl ?_
                  refine sn_icmp_lt (tgt := 176) dX10_judged_169 (by decide) (fun c => ?_) (fun c => ?_)
                  · rw [if_pos c] at h
                    refine sn_blk _ kX10_judged_0_29 (pc' := 177) (L' := [some (.ref a0), some (.int a1), some (.int a2), some (.int a3), some (.int a4)]) (st' := [.int 0]) rfl rfl ?_
                    cases h
                    exact sn_iret (ty := .boolean) dX10_judged_177 rfl rfl
                  · rw [if_neg c] at h
                    refine sn_blk _ kX10_judged_0_30 (pc' := 177) (L' := [some (.ref a0), some (.int a1), some (.int a2), some (.int a3), some (.int a4)]) (st' := [.int 1]) rfl rfl ?_
                    cases h
                    exact sn_iret (ty := .boolean) dX10_judged_177 rfl rfl
            · rw [if_neg c1_6] at h
              by_cases c1_7 : a1 = (7 : Int32)
              · rw [if_pos c1_7] at h
                refine sn_tblIn (off := 177) (tgt := 178) dX10_judged_1 (by rw [c1_7]; decide) (by rw [c1_7]; decide) (by rw [c1_7]; decide +kernel) (by decide) ?_
                refine sn_blk _ kX10_judged_0_31 (pc' := 179) (L' := [some (.ref a0), some (.int a1), some (.int a2), some (.int a3), some (.int a4)]) (st' := [.int a3]) rfl rfl ?_
                refine sn_if_ne (tgt := 207) dX10_judged_179 (by decide) (fun c => ?_) (fun c => ?_)
                · rw [if_neg c] at h
                  refine sn_blk _ kX10_judged_0_32 (pc' := 208) (L' := [some (.ref a0), some (.int a1), some (.int a2), some (.int a3), some (.int a4)]) (st' := [.int 0]) rfl rfl ?_
                  cases h
                  exact sn_iret (ty := .boolean) dX10_judged_208 rfl rfl
                · rw [if_pos c] at h
                  refine sn_blk _ kX10_judged_0_33 (pc' := 184) (L' := [some (.ref a0), some (.int a1), some (.int a2), some (.int a3), some (.int a4)]) (st' := [.int a2, .ref a0]) rfl rfl ?_
                  obtain ⟨ho, h⟩ := gp_inv h
                  obtain ⟨fs, ho⟩ := isO_inv ho
                  obtain ⟨x20, H21, hx20, h⟩ := bd2_inv h
                  refine sn_callv (av := [.int a2]) (st := []) (M2 := mX10_isSquare) dX10_judged_184 msX10_isSquare mlX10_185 rfl rfl rfl rfl rfl ho (sX10_isSquare hx20) ?_
                  refine sn_if_eq (tgt := 207) dX10_judged_187 (by decide) (fun c => ?_) (fun c => ?_)
                  · rw [if_pos c] at h
                    refine sn_blk _ kX10_judged_0_34 (pc' := 208) (L' := [some (.ref a0), some (.int a1), some (.int a2), some (.int a3), some (.int a4)]) (st' := [.int 0]) rfl rfl ?_
                    cases h
                    exact sn_iret (ty := .boolean) dX10_judged_208 rfl rfl
                  · rw [if_neg c] at h
                    refine sn_blk _ kX10_judged_0_35 (pc' := 191) (L' := [some (.ref a0), some (.int a1), some (.int a2), some (.int a3), some (.int a4)]) (st' := [.ref a0]) rfl rfl ?_
                    obtain ⟨x22, hx22, h⟩ := bd_inv h
                    refine sn_gA dX10_judged_191 foX10_16 hx22 ?_
                    refine sn_blk _ kX10_judged_0_36 (pc' := 195) (L' := [some (.ref a0), some (.int a1), some (.int a2), some (.int a3), some (.int a4)]) (st' := [.int a2, .ref x22]) rfl rfl ?_
                    obtain ⟨x23, H24, hx23, h⟩ := bd2_inv h
                    refine sn_calls (av := [.ref x22, .int a2]) (st := []) (M2 := mX10_holes) dX10_judged_195 msX10_holes mlX10_198 rfl rfl rfl rfl rfl (sX10_holes hx23) ?_
                    refine sn_blk _ kX10_judged_0_37 (pc' := 200) (L' := [some (.ref a0), some (.int a1), some (.int a2), some (.int a3), some (.int a4)]) (st' := [.int a4, .int x23]) rfl rfl ?_
                    refine sn_icmp_ne (tgt := 207) dX10_judged_200 (by decide) (fun c => ?_) (fun c => ?_)
                    · rw [if_neg c] at h
                      refine sn_blk _ kX10_judged_0_38 (pc' := 208) (L' := [some (.ref a0), some (.int a1), some (.int a2), some (.int a3), some (.int a4)]) (st' := [.int 0]) rfl rfl ?_
                      cases h
                      exact sn_iret (ty := .boolean) dX10_judged_208 rfl rfl
                    · rw [if_pos c] at h
                      refine sn_blk _ kX10_judged_0_39 (pc' := 208) (L' := [some (.ref a0), some (.int a1), some (.int a2), some (.int a3), some (.int a4)]) (st' := [.int 1]) rfl rfl ?_
                      cases h
                      exact sn_iret (ty := .boolean) dX10_judged_208 rfl rfl
              · rw [if_neg c1_7] at h
                refine sn_tblOut (tgt := 209) dX10_judged_1 (sw_out (fun k h1 h2 e => ?_)) (by decide) ?_
                · rcases (show k = 1 ∨ k = 2 ∨ k = 3 ∨ k = 4 ∨ k = 5 ∨ k = 6 ∨ k = 7 by omega) with rfl | rfl | rfl | rfl | rfl | rfl | rfl
                  · exact c1_1 (Int32.toInt_inj.mp e)
                  · exact c1_2 (Int32.toInt_inj.mp e)
                  · exact c1_3 (Int32.toInt_inj.mp e)
                  · exact c1_4 (Int32.toInt_inj.mp e)
                  · exact c1_5 (Int32.toInt_inj.mp e)
                  · exact c1_6 (Int32.toInt_inj.mp e)
                  · exact c1_7 (Int32.toInt_inj.mp e)
                · refine sn_blk _ kX10_judged_0_40 (pc' := 210) (L' := [some (.ref a0), some (.int a1), some (.int a2), some (.int a3), some (.int a4)]) (st' := [.int 0]) rfl rfl ?_
                  cases h
                  exact sn_iret (ty := .boolean) dX10_judged_210 rfl rfl
theorem sX10_judged {G : GG} {r : Int32} {H' : Hp} {a0 : Nat} {a1 : Int32} {a2 : Int32} {a3 : Int32} {a4 : Int32} {H : Hp} (h : FX10_judged a0 a1 a2 a3 a4 H = some (r, H')) : SM G mX10_judged [.ref a0, .int a1, .int a2, .int a3, .int a4] H (some (.int r)) H' := tFX10_judged h
/-! SquareFoldsModel.judge(IJ)I -/
theorem kX10_judge_0_0 : decB cX10_judge 0 [(.iload_n 1, .null), (.i2l, .null), (.lconst 1, .long 1)] = true := by decide +kernel
theorem kX10_judge_0_1 : decB cX10_judge 26 [(.bipush (-2), .int (-2))] = true := by decide +kernel
theorem kX10_judge_0_2 : decB cX10_judge 12 [(.lload_n 2, .null), (.lconst 0, .long 0), (.iload_n 1, .null)] = true := by decide +kernel
theorem kX10_judge_0_3 : decB cX10_judge 18 [(.lconst 1, .long 1), (.lsub, .null)] = true := by decide +kernel
theorem kX10_judge_0_4 : decB cX10_judge 29 [(.aload_n 0, .null)] = true := by decide +kernel
theorem kX10_judge_0_5 : decB cX10_judge 33 [(.aload_n 0, .null)] = true := by decide +kernel
theorem kX10_judge_0_6 : decB cX10_judge 40 [(.iconst 0, .int 0), (.istore 4, .null)] = true := by decide +kernel
theorem kX10_judge_0_7 : decB cX10_judge 26 [(.bipush (-2), .int (-2))] = true := by decide +kernel
theorem kX10_judge_43_0 : decB cX10_judge 43 [(.iload 4, .null), (.iload_n 1, .null)] = true := by decide +kernel
theorem kX10_judge_43_1 : decB cX10_judge 110 [(.bipush (-9), .int (-9))] = true := by decide +kernel
theorem kX10_judge_43_2 : decB cX10_judge 49 [(.lload_n 2, .null), (.iload_n 1, .null), (.iconst 1, .int 1), (.isub, .null), (.iload 4, .null), (.isub, .null)] = true := by decide +kernel
theorem kX10_judge_43_3 : decB cX10_judge 64 [(.l2i, .null), (.istore 5, .null), (.aload_n 0, .null), (.iload 5, .null), (.sipush 1000, .int 1000)] = true := by decide +kernel
theorem kX10_judge_43_4 : decB cX10_judge 74 [(.iload 5, .null), (.bipush 100, .int 100)] = true := by decide +kernel
theorem kX10_judge_43_5 : decB cX10_judge 79 [(.bipush 10, .int 10)] = true := by decide +kernel
theorem kX10_judge_43_6 : decB cX10_judge 82 [(.iload 5, .null), (.bipush 10, .int 10)] = true := by decide +kernel
theorem kX10_judge_43_7 : decB cX10_judge 87 [(.bipush 10, .int 10)] = true := by decide +kernel
theorem kX10_judge_43_8 : decB cX10_judge 90 [(.iload 5, .null), (.bipush 10, .int 10)] = true := by decide +kernel
theorem kX10_judge_43_9 : decB cX10_judge 104 [(.iinc 4 1, .int 1), (.goto (-64), .retAddr 43)] = true := by decide +kernel
theorem kX10_judge_43_10 : decB cX10_judge 101 [(.iload 4, .null)] = true := by decide +kernel
theorem dX10_judge_3 : decode cX10_judge 3 = .ok (.ldc2_w 188, 3) := by decide +kernel
theorem dX10_judge_6 : decode cX10_judge 6 = .ok (.invokestatic 127, 3) := by decide +kernel
theorem dX10_judge_9 : decode cX10_judge 9 = .ok (.ifCond .eq 17, 3) := by decide +kernel
theorem dX10_judge_15 : decode cX10_judge 15 = .ok (.invokestatic 259, 3) := by decide +kernel
theorem dX10_judge_20 : decode cX10_judge 20 = .ok (.invokestatic 127, 3) := by decide +kernel
theorem dX10_judge_23 : decode cX10_judge 23 = .ok (.ifCond .ne 6, 3) := by decide +kernel
theorem dX10_judge_28 : decode cX10_judge 28 = .ok (.ireturn, 1) := by decide +kernel
theorem dX10_judge_30 : decode cX10_judge 30 = .ok (.getfield 16, 3) := by decide +kernel
theorem dX10_judge_34 : decode cX10_judge 34 = .ok (.getfield 13, 3) := by decide +kernel
theorem dX10_judge_37 : decode cX10_judge 37 = .ok (.invokestatic 263, 3) := by decide +kernel
theorem dX10_judge_46 : decode cX10_judge 46 = .ok (.if_icmp .ge 64, 3) := by decide +kernel
theorem dX10_judge_56 : decode cX10_judge 56 = .ok (.invokestatic 259, 3) := by decide +kernel
theorem dX10_judge_59 : decode cX10_judge 59 = .ok (.ldiv, 1) := by decide +kernel
theorem dX10_judge_60 : decode cX10_judge 60 = .ok (.ldc2_w 257, 3) := by decide +kernel
theorem dX10_judge_63 : decode cX10_judge 63 = .ok (.lrem, 1) := by decide +kernel
theorem dX10_judge_73 : decode cX10_judge 73 = .ok (.idiv, 1) := by decide +kernel
theorem dX10_judge_78 : decode cX10_judge 78 = .ok (.idiv, 1) := by decide +kernel
theorem dX10_judge_81 : decode cX10_judge 81 = .ok (.irem, 1) := by decide +kernel
theorem dX10_judge_86 : decode cX10_judge 86 = .ok (.idiv, 1) := by decide +kernel
theorem dX10_judge_89 : decode cX10_judge 89 = .ok (.irem, 1) := by decide +kernel
theorem dX10_judge_94 : decode cX10_judge 94 = .ok (.irem, 1) := by decide +kernel
theorem dX10_judge_95 : decode cX10_judge 95 = .ok (.invokevirtual 267, 3) := by decide +kernel
theorem dX10_judge_98 : decode cX10_judge 98 = .ok (.ifCond .ne 6, 3) := by decide +kernel
theorem dX10_judge_103 : decode cX10_judge 103 = .ok (.ireturn, 1) := by decide +kernel
theorem dX10_judge_112 : decode cX10_judge 112 = .ok (.ireturn, 1) := by decide +kernel
def bX10_judge_43 (K43 : Nat → Int32 → Int64 → Int32 → Hp → Option (Int32 × Hp)) (a0 : Nat) (a1 : Int32) (a2 : Int64) (a4 : Int32) (H : Hp) : Option (Int32 × Hp) :=
  if (a1 ≤ a4 : Prop) then
    some ((-9), H)
  else
    bd2 (FX10_tenThousands ((a1 - 1) - a4) H) fun x1 H2 =>
    gp (¬ x1 = 0) (
      gp (isO H2 a0 9 = true) (
        bd2 (FX10_judged a0 ((Int64.toInt32 (rJ (a2 / x1) 10000)) / 1000) (rI ((Int64.toInt32 (rJ (a2 / x1) 10000)) / 100) 10) (rI ((Int64.toInt32 (rJ (a2 / x1) 10000)) / 10) 10) (rI (Int64.toInt32 (rJ (a2 / x1) 10000)) 10) H2) fun x3 H4 =>
        if (x3 = 0 : Prop) then
          some (a4, H4)
        else
          K43 a0 a1 a2 (a4 + 1) H4
        )
      )
set_option maxHeartbeats 4000000 in
set_option maxRecDepth 100000 in
theorem tbX10_judge_43 {G : GG} {r : Int32} {H' : Hp} {K43 : Nat → Int32 → Int64 → Int32 → Hp → Option (Int32 × Hp)} (hK43 : ∀ (a0 : Nat) (a1 : Int32) (a2 : Int64) (a4 : Int32) (H : Hp), K43 a0 a1 a2 a4 H = some (r, H') → Sn G (T0 G (some (.int r)) H') mX10_judge 43 [some (.ref a0), some (.int a1), some (.long a2), none, some (.int a4), none] [] H) {a0 : Nat} {a1 : Int32} {a2 : Int64} {a4 : Int32} {H : Hp} (h : bX10_judge_43 K43 a0 a1 a2 a4 H = some (r, H')) : Sn G (T0 G (some (.int r)) H') mX10_judge 43 [some (.ref a0), some (.int a1), some (.long a2), none, some (.int a4), none] [] H := by
  unfold bX10_judge_43 at h
  refine sn_blk _ kX10_judge_43_0 (pc' := 46) (L' := [some (.ref a0), some (.int a1), some (.long a2), none, some (.int a4), none]) (st' := [.int a1, .int a4]) rfl rfl ?_
  refine sn_icmp_ge (tgt := 110) dX10_judge_46 (by decide) (fun c => ?_) (fun c => ?_)
  · rw [if_pos c] at h
    refine sn_blk _ kX10_judge_43_1 (pc' := 112) (L' := [some (.ref a0), some (.int a1), some (.long a2), none, some (.int a4), none]) (st' := [.int (-9)]) rfl rfl ?_
    cases h
    exact sn_iret (ty := .int) dX10_judge_112 rfl rfl
  · rw [if_neg c] at h
    refine sn_blk _ kX10_judge_43_2 (pc' := 56) (L' := [some (.ref a0), some (.int a1), some (.long a2), none, some (.int a4), none]) (st' := [.int ((a1 - 1) - a4), .long a2]) rfl rfl ?_
    obtain ⟨x1, H2, hx1, h⟩ := bd2_inv h
    refine sn_calls (av := [.int ((a1 - 1) - a4)]) (st := [.long a2]) (M2 := mX10_tenThousands) dX10_judge_56 msX10_tenThousands mlX10_259 rfl rfl rfl rfl rfl (sX10_tenThousands hx1) ?_
    obtain ⟨hy, h⟩ := gp_inv h
    refine sn_ldiv dX10_judge_59 hy ?_
    refine sn_ldc2 dX10_judge_60 kcX10_257 ?_
    refine sn_lrem dX10_judge_63 (by decide) ?_
    refine sn_blk _ kX10_judge_43_3 (pc' := 73) (L' := [some (.ref a0), some (.int a1), some (.long a2), none, some (.int a4), some (.int (Int64.toInt32 (rJ (a2 / x1) 10000)))]) (st' := [.int 1000, .int (Int64.toInt32 (rJ (a2 / x1) 10000)), .ref a0]) rfl rfl ?_
    refine sn_idiv dX10_judge_73 (by decide) ?_
    refine sn_blk _ kX10_judge_43_4 (pc' := 78) (L' := [some (.ref a0), some (.int a1), some (.long a2), none, some (.int a4), some (.int (Int64.toInt32 (rJ (a2 / x1) 10000)))]) (st' := [.int 100, .int (Int64.toInt32 (rJ (a2 / x1) 10000)), .int ((Int64.toInt32 (rJ (a2 / x1) 10000)) / 1000), .ref a0]) rfl rfl ?_
    refine sn_idiv dX10_judge_78 (by decide) ?_
    refine sn_blk _ kX10_judge_43_5 (pc' := 81) (L' := [some (.ref a0), some (.int a1), some (.long a2), none, some (.int a4), some (.int (Int64.toInt32 (rJ (a2 / x1) 10000)))]) (st' := [.int 10, .int ((Int64.toInt32 (rJ (a2 / x1) 10000)) / 100), .int ((Int64.toInt32 (rJ (a2 / x1) 10000)) / 1000), .ref a0]) rfl rfl ?_
    refine sn_irem dX10_judge_81 (by decide) ?_
    refine sn_blk _ kX10_judge_43_6 (pc' := 86) (L' := [some (.ref a0), some (.int a1), some (.long a2), none, some (.int a4), some (.int (Int64.toInt32 (rJ (a2 / x1) 10000)))]) (st' := [.int 10, .int (Int64.toInt32 (rJ (a2 / x1) 10000)), .int (rI ((Int64.toInt32 (rJ (a2 / x1) 10000)) / 100) 10), .int ((Int64.toInt32 (rJ (a2 / x1) 10000)) / 1000), .ref a0]) rfl rfl ?_
    refine sn_idiv dX10_judge_86 (by decide) ?_
    refine sn_blk _ kX10_judge_43_7 (pc' := 89) (L' := [some (.ref a0), some (.int a1), some (.long a2), none, some (.int a4), some (.int (Int64.toInt32 (rJ (a2 / x1) 10000)))]) (st' := [.int 10, .int ((Int64.toInt32 (rJ (a2 / x1) 10000)) / 10), .int (rI ((Int64.toInt32 (rJ (a2 / x1) 10000)) / 100) 10), .int ((Int64.toInt32 (rJ (a2 / x1) 10000)) / 1000), .ref a0]) rfl rfl ?_
    refine sn_irem dX10_judge_89 (by decide) ?_
    refine sn_blk _ kX10_judge_43_8 (pc' := 94) (L' := [some (.ref a0), some (.int a1), some (.long a2), none, some (.int a4), some (.int (Int64.toInt32 (rJ (a2 / x1) 10000)))]) (st' := [.int 10, .int (Int64.toInt32 (rJ (a2 / x1) 10000)), .int (rI ((Int64.toInt32 (rJ (a2 / x1) 10000)) / 10) 10), .int (rI ((Int64.toInt32 (rJ (a2 / x1) 10000)) / 100) 10), .int ((Int64.toInt32 (rJ (a2 / x1) 10000)) / 1000), .ref a0]) rfl rfl ?_
    refine sn_irem dX10_judge_94 (by decide) ?_
    obtain ⟨ho, h⟩ := gp_inv h
    obtain ⟨fs, ho⟩ := isO_inv ho
    obtain ⟨x3, H4, hx3, h⟩ := bd2_inv h
    refine sn_callv (av := [.int ((Int64.toInt32 (rJ (a2 / x1) 10000)) / 1000), .int (rI ((Int64.toInt32 (rJ (a2 / x1) 10000)) / 100) 10), .int (rI ((Int64.toInt32 (rJ (a2 / x1) 10000)) / 10) 10), .int (rI (Int64.toInt32 (rJ (a2 / x1) 10000)) 10)]) (st := []) (M2 := mX10_judged) dX10_judge_95 msX10_judged mlX10_267 rfl rfl rfl rfl rfl ho (sX10_judged hx3) ?_
    refine sn_if_ne (tgt := 104) dX10_judge_98 (by decide) (fun c => ?_) (fun c => ?_)
    · rw [if_neg c] at h
      refine sn_blk _ kX10_judge_43_9 (pc' := 43) (L' := [some (.ref a0), some (.int a1), some (.long a2), none, some (.int (a4 + 1)), some (.int (Int64.toInt32 (rJ (a2 / x1) 10000)))]) (st' := []) rfl rfl ?_
      refine sn_msk [true, true, true, true, true, false] (L2 := [some (.ref a0), some (.int a1), some (.long a2), none, some (.int (a4 + 1)), none]) rfl ?_
      exact hK43 _ _ _ _ _ h
    · rw [if_pos c] at h
      refine sn_blk _ kX10_judge_43_10 (pc' := 103) (L' := [some (.ref a0), some (.int a1), some (.long a2), none, some (.int a4), some (.int (Int64.toInt32 (rJ (a2 / x1) 10000)))]) (st' := [.int a4]) rfl rfl ?_
      cases h
      exact sn_iret (ty := .int) dX10_judge_103 rfl rfl
def fX10_judge_43  : Nat → Nat → Int32 → Int64 → Int32 → Hp → Option (Int32 × Hp)
  | 0, _, _, _, _, _ => none
  | d + 1, a0, a1, a2, a4, H => bX10_judge_43 (fX10_judge_43  d) a0 a1 a2 a4 H
theorem tfX10_judge_43 {G : GG} {r : Int32} {H' : Hp}   : ∀ (d : Nat) {a0 : Nat} {a1 : Int32} {a2 : Int64} {a4 : Int32} {H : Hp}, fX10_judge_43  d a0 a1 a2 a4 H = some (r, H') → Sn G (T0 G (some (.int r)) H') mX10_judge 43 [some (.ref a0), some (.int a1), some (.long a2), none, some (.int a4), none] [] H := by
  intro d
  induction d with
  | zero => intro a0 a1 a2 a4 H h; cases h
  | succ d ih => intro a0 a1 a2 a4 H h; exact tbX10_judge_43 (fun a0 a1 a2 a4 H h => ih h) h
def FX10_judge  (a0 : Nat) (a1 : Int32) (a2 : Int64) (H : Hp) : Option (Int32 × Hp) :=
  bd2 (FX10_in (Int32.toInt64 a1) 1 4 H) fun x1 H2 =>
  if (x1 = 0 : Prop) then
    some ((-2), H2)
  else
    bd2 (FX10_tenThousands a1 H2) fun x3 H4 =>
    bd2 (FX10_in a2 0 (x3 - 1) H4) fun x5 H6 =>
    if (x5 = 0 : Prop) then
      some ((-2), H6)
    else
      bd (gA H6 a0 9 3) fun x7 =>
      bd (gA H6 a0 9 2) fun x8 =>
      bd2 (FX10_lay x7 x8 H6) fun _ H10 =>
      fX10_judge_43  4096 a0 a1 a2 0 H10
set_option maxHeartbeats 4000000 in
set_option maxRecDepth 100000 in
theorem tFX10_judge {G : GG} {r : Int32} {H' : Hp}   {a0 : Nat} {a1 : Int32} {a2 : Int64} {H : Hp} (h : FX10_judge  a0 a1 a2 H = some (r, H')) : Sn G (T0 G (some (.int r)) H') mX10_judge 0 [some (.ref a0), some (.int a1), some (.long a2), none, none, none] [] H := by
  unfold FX10_judge at h
  refine sn_blk _ kX10_judge_0_0 (pc' := 3) (L' := [some (.ref a0), some (.int a1), some (.long a2), none, none, none]) (st' := [.long 1, .long (Int32.toInt64 a1)]) rfl rfl ?_
  refine sn_ldc2 dX10_judge_3 kcX10_188 ?_
  obtain ⟨x1, H2, hx1, h⟩ := bd2_inv h
  refine sn_calls (av := [.long (Int32.toInt64 a1), .long 1, .long 4]) (st := []) (M2 := mX10_in) dX10_judge_6 msX10_in mlX10_127 rfl rfl rfl rfl rfl (sX10_in hx1) ?_
  refine sn_if_eq (tgt := 26) dX10_judge_9 (by decide) (fun c => ?_) (fun c => ?_)
  · rw [if_pos c] at h
    refine sn_blk _ kX10_judge_0_1 (pc' := 28) (L' := [some (.ref a0), some (.int a1), some (.long a2), none, none, none]) (st' := [.int (-2)]) rfl rfl ?_
    cases h
    exact sn_iret (ty := .int) dX10_judge_28 rfl rfl
  · rw [if_neg c] at h
    refine sn_blk _ kX10_judge_0_2 (pc' := 15) (L' := [some (.ref a0), some (.int a1), some (.long a2), none, none, none]) (st' := [.int a1, .long 0, .long a2]) rfl rfl ?_
    obtain ⟨x3, H4, hx3, h⟩ := bd2_inv h
    refine sn_calls (av := [.int a1]) (st := [.long 0, .long a2]) (M2 := mX10_tenThousands) dX10_judge_15 msX10_tenThousands mlX10_259 rfl rfl rfl rfl rfl (sX10_tenThousands hx3) ?_
    refine sn_blk _ kX10_judge_0_3 (pc' := 20) (L' := [some (.ref a0), some (.int a1), some (.long a2), none, none, none]) (st' := [.long (x3 - 1), .long 0, .long a2]) rfl rfl ?_
    obtain ⟨x5, H6, hx5, h⟩ := bd2_inv h
    refine sn_calls (av := [.long a2, .long 0, .long (x3 - 1)]) (st := []) (M2 := mX10_in) dX10_judge_20 msX10_in mlX10_127 rfl rfl rfl rfl rfl (sX10_in hx5) ?_
    refine sn_if_ne (tgt := 29) dX10_judge_23 (by decide) (fun c => ?_) (fun c => ?_)
    · rw [if_neg c] at h
      refine sn_blk _ kX10_judge_0_4 (pc' := 30) (L' := [some (.ref a0), some (.int a1), some (.long a2), none, none, none]) (st' := [.ref a0]) rfl rfl ?_
      obtain ⟨x7, hx7, h⟩ := bd_inv h
      refine sn_gA dX10_judge_30 foX10_16 hx7 ?_
      refine sn_blk _ kX10_judge_0_5 (pc' := 34) (L' := [some (.ref a0), some (.int a1), some (.long a2), none, none, none]) (st' := [.ref a0, .ref x7]) rfl rfl ?_
      obtain ⟨x8, hx8, h⟩ := bd_inv h
      refine sn_gA dX10_judge_34 foX10_13 hx8 ?_
      obtain ⟨x9, H10, hx9, h⟩ := bd2_inv h
      refine sn_calls (av := [.ref x7, .ref x8]) (st := []) (M2 := mX10_lay) dX10_judge_37 msX10_lay mlX10_263 rfl rfl rfl rfl rfl (sX10_lay hx9) ?_
      refine sn_blk _ kX10_judge_0_6 (pc' := 43) (L' := [some (.ref a0), some (.int a1), some (.long a2), none, some (.int 0), none]) (st' := []) rfl rfl ?_
      exact tfX10_judge_43  4096 h
    · rw [if_pos c] at h
      refine sn_blk _ kX10_judge_0_7 (pc' := 28) (L' := [some (.ref a0), some (.int a1), some (.long a2), none, none, none]) (st' := [.int (-2)]) rfl rfl ?_
      cases h
      exact sn_iret (ty := .int) dX10_judge_28 rfl rfl
theorem sX10_judge {G : GG} {r : Int32} {H' : Hp} {a0 : Nat} {a1 : Int32} {a2 : Int64} {H : Hp} (h : FX10_judge a0 a1 a2 H = some (r, H')) : SM G mX10_judge [.ref a0, .int a1, .long a2] H (some (.int r)) H' := tFX10_judge h
/-! SquareFoldsModel.hanging([IIII)I -/
theorem kX10_hanging_0_0 : decB cX10_hanging 0 [(.iconst 1, .int 1), (.iload_n 1, .null), (.ishl, .null), (.istore 4, .null), (.iconst 0, .int 0), (.istore 5, .null)] = true := by decide +kernel
theorem kX10_hanging_8_0 : decB cX10_hanging 8 [(.iload 5, .null), (.iconst 5, .int 5)] = true := by decide +kernel
theorem kX10_hanging_8_1 : decB cX10_hanging 132 [(.iload 4, .null)] = true := by decide +kernel
theorem kX10_hanging_8_2 : decB cX10_hanging 14 [(.iconst 0, .int 0), (.istore 6, .null)] = true := by decide +kernel
theorem kX10_hanging_17_0 : decB cX10_hanging 17 [(.iload 6, .null), (.aload_n 0, .null), (.iconst 0, .int 0)] = true := by decide +kernel
theorem kX10_hanging_17_1 : decB cX10_hanging 126 [(.iinc 5 1, .int 1), (.goto (-121), .retAddr 8)] = true := by decide +kernel
theorem kX10_hanging_17_2 : decB cX10_hanging 25 [(.iconst 1, .int 1), (.iload 6, .null), (.ishl, .null), (.iconst 1, .int 1), (.aload_n 0, .null), (.iload 6, .null)] = true := by decide +kernel
theorem kX10_hanging_17_3 : decB cX10_hanging 36 [(.ishl, .null), (.ior, .null), (.istore 7, .null), (.iconst 1, .int 1), (.iload 6, .null), (.ishl, .null), (.iconst 1, .int 1), (.aload_n 0, .null), (.iload 6, .null)] = true := by decide +kernel
theorem kX10_hanging_17_4 : decB cX10_hanging 51 [(.ishl, .null), (.ior, .null), (.istore 8, .null), (.iload 4, .null), (.iload_n 3, .null), (.iload 6, .null)] = true := by decide +kernel
theorem kX10_hanging_17_5 : decB cX10_hanging 66 [(.iload 7, .null), (.iload_n 2, .null), (.iconst (-1), .int (-1)), (.ixor, .null), (.iand, .null)] = true := by decide +kernel
theorem kX10_hanging_17_6 : decB cX10_hanging 75 [(.iload 4, .null), (.iload 7, .null), (.iand, .null)] = true := by decide +kernel
theorem kX10_hanging_17_7 : decB cX10_hanging 83 [(.iload 7, .null), (.goto 4, .retAddr 89)] = true := by decide +kernel
theorem kX10_hanging_88_0 : decB cX10_hanging 88 [(.iconst 0, .int 0)] = true := by decide +kernel
theorem kX10_hanging_89_0 : decB cX10_hanging 89 [(.ior, .null), (.istore 4, .null), (.iload 4, .null), (.iload 8, .null), (.iload_n 2, .null), (.iconst (-1), .int (-1)), (.ixor, .null), (.iand, .null)] = true := by decide +kernel
theorem kX10_hanging_89_1 : decB cX10_hanging 103 [(.iload 4, .null), (.iload 8, .null), (.iand, .null)] = true := by decide +kernel
theorem kX10_hanging_89_2 : decB cX10_hanging 111 [(.iload 8, .null), (.goto 4, .retAddr 117), (.ior, .null), (.istore 4, .null), (.iinc 6 1, .int 1), (.goto (-106), .retAddr 17)] = true := by decide +kernel
theorem kX10_hanging_116_0 : decB cX10_hanging 116 [(.iconst 0, .int 0), (.ior, .null), (.istore 4, .null), (.iinc 6 1, .int 1), (.goto (-106), .retAddr 17)] = true := by decide +kernel
theorem dX10_hanging_11 : decode cX10_hanging 11 = .ok (.if_icmp .ge 121, 3) := by decide +kernel
theorem dX10_hanging_21 : decode cX10_hanging 21 = .ok (.iaload, 1) := by decide +kernel
theorem dX10_hanging_22 : decode cX10_hanging 22 = .ok (.if_icmp .ge 104, 3) := by decide +kernel
theorem dX10_hanging_33 : decode cX10_hanging 33 = .ok (.invokestatic 64, 3) := by decide +kernel
theorem dX10_hanging_48 : decode cX10_hanging 48 = .ok (.invokestatic 71, 3) := by decide +kernel
theorem dX10_hanging_60 : decode cX10_hanging 60 = .ok (.invokestatic 80, 3) := by decide +kernel
theorem dX10_hanging_63 : decode cX10_hanging 63 = .ok (.ifCond .ne 25, 3) := by decide +kernel
theorem dX10_hanging_72 : decode cX10_hanging 72 = .ok (.ifCond .ne 16, 3) := by decide +kernel
theorem dX10_hanging_80 : decode cX10_hanging 80 = .ok (.ifCond .eq 8, 3) := by decide +kernel
theorem dX10_hanging_100 : decode cX10_hanging 100 = .ok (.ifCond .ne 16, 3) := by decide +kernel
theorem dX10_hanging_108 : decode cX10_hanging 108 = .ok (.ifCond .eq 8, 3) := by decide +kernel
theorem dX10_hanging_134 : decode cX10_hanging 134 = .ok (.ireturn, 1) := by decide +kernel
def fX10_hanging_116 (K8 : Nat → Int32 → Int32 → Int32 → Int32 → Hp → Option (Int32 × Hp)) (K17 : Nat → Int32 → Int32 → Int32 → Int32 → Int32 → Hp → Option (Int32 × Hp)) (a0 : Nat) (a2 : Int32) (a3 : Int32) (a5 : Int32) (a6 : Int32) (s0 : Int32) (H : Hp) : Option (Int32 × Hp) :=
  K17 a0 a2 a3 (s0 ||| 0) a5 (a6 + 1) H
set_option maxHeartbeats 4000000 in
set_option maxRecDepth 100000 in
theorem tfX10_hanging_116 {G : GG} {r : Int32} {H' : Hp} {K8 : Nat → Int32 → Int32 → Int32 → Int32 → Hp → Option (Int32 × Hp)} {K17 : Nat → Int32 → Int32 → Int32 → Int32 → Int32 → Hp → Option (Int32 × Hp)} (hK8 : ∀ (a0 : Nat) (a2 : Int32) (a3 : Int32) (a4 : Int32) (a5 : Int32) (H : Hp), K8 a0 a2 a3 a4 a5 H = some (r, H') → Sn G (T0 G (some (.int r)) H') mX10_hanging 8 [some (.ref a0), none, some (.int a2), some (.int a3), some (.int a4), some (.int a5), none, none, none] [] H) (hK17 : ∀ (a0 : Nat) (a2 : Int32) (a3 : Int32) (a4 : Int32) (a5 : Int32) (a6 : Int32) (H : Hp), K17 a0 a2 a3 a4 a5 a6 H = some (r, H') → Sn G (T0 G (some (.int r)) H') mX10_hanging 17 [some (.ref a0), none, some (.int a2), some (.int a3), some (.int a4), some (.int a5), some (.int a6), none, none] [] H) {a0 : Nat} {a2 : Int32} {a3 : Int32} {a5 : Int32} {a6 : Int32} {s0 : Int32} {H : Hp} (h : fX10_hanging_116 K8 K17 a0 a2 a3 a5 a6 s0 H = some (r, H')) : Sn G (T0 G (some (.int r)) H') mX10_hanging 116 [some (.ref a0), none, some (.int a2), some (.int a3), none, some (.int a5), some (.int a6), none, none] [.int s0] H := by
  unfold fX10_hanging_116 at h
  refine sn_blk _ kX10_hanging_116_0 (pc' := 17) (L' := [some (.ref a0), none, some (.int a2), some (.int a3), some (.int (s0 ||| 0)), some (.int a5), some (.int (a6 + 1)), none, none]) (st' := []) rfl rfl ?_
  exact hK17 _ _ _ _ _ _ _ h
def fX10_hanging_89 (K8 : Nat → Int32 → Int32 → Int32 → Int32 → Hp → Option (Int32 × Hp)) (K17 : Nat → Int32 → Int32 → Int32 → Int32 → Int32 → Hp → Option (Int32 × Hp)) (a0 : Nat) (a2 : Int32) (a3 : Int32) (a5 : Int32) (a6 : Int32) (a8 : Int32) (s0 : Int32) (s1 : Int32) (H : Hp) : Option (Int32 × Hp) :=
  if ((a8 &&& (a2 ^^^ (-1))) = 0 : Prop) then
    if (((s0 ||| s1) &&& a8) = 0 : Prop) then
      fX10_hanging_116 K8 K17 a0 a2 a3 a5 a6 (s0 ||| s1) H
    else
      K17 a0 a2 a3 ((s0 ||| s1) ||| a8) a5 (a6 + 1) H
  else
    fX10_hanging_116 K8 K17 a0 a2 a3 a5 a6 (s0 ||| s1) H
set_option maxHeartbeats 4000000 in
set_option maxRecDepth 100000 in
theorem tfX10_hanging_89 {G : GG} {r : Int32} {H' : Hp} {K8 : Nat → Int32 → Int32 → Int32 → Int32 → Hp → Option (Int32 × Hp)} {K17 : Nat → Int32 → Int32 → Int32 → Int32 → Int32 → Hp → Option (Int32 × Hp)} (hK8 : ∀ (a0 : Nat) (a2 : Int32) (a3 : Int32) (a4 : Int32) (a5 : Int32) (H : Hp), K8 a0 a2 a3 a4 a5 H = some (r, H') → Sn G (T0 G (some (.int r)) H') mX10_hanging 8 [some (.ref a0), none, some (.int a2), some (.int a3), some (.int a4), some (.int a5), none, none, none] [] H) (hK17 : ∀ (a0 : Nat) (a2 : Int32) (a3 : Int32) (a4 : Int32) (a5 : Int32) (a6 : Int32) (H : Hp), K17 a0 a2 a3 a4 a5 a6 H = some (r, H') → Sn G (T0 G (some (.int r)) H') mX10_hanging 17 [some (.ref a0), none, some (.int a2), some (.int a3), some (.int a4), some (.int a5), some (.int a6), none, none] [] H) {a0 : Nat} {a2 : Int32} {a3 : Int32} {a5 : Int32} {a6 : Int32} {a8 : Int32} {s0 : Int32} {s1 : Int32} {H : Hp} (h : fX10_hanging_89 K8 K17 a0 a2 a3 a5 a6 a8 s0 s1 H = some (r, H')) : Sn G (T0 G (some (.int r)) H') mX10_hanging 89 [some (.ref a0), none, some (.int a2), some (.int a3), none, some (.int a5), some (.int a6), none, some (.int a8)] [.int s1, .int s0] H := by
  unfold fX10_hanging_89 at h
  refine sn_blk _ kX10_hanging_89_0 (pc' := 100) (L' := [some (.ref a0), none, some (.int a2), some (.int a3), some (.int (s0 ||| s1)), some (.int a5), some (.int a6), none, some (.int a8)]) (st' := [.int (a8 &&& (a2 ^^^ (-1))), .int (s0 ||| s1)]) rfl rfl ?_
  refine sn_if_ne (tgt := 116) dX10_hanging_100 (by decide) (fun c => ?_) (fun c => ?_)
  · rw [if_neg c] at h
    refine sn_msk [true, true, true, true, false, true, true, true, false] (L2 := [some (.ref a0), none, some (.int a2), some (.int a3), none, some (.int a5), some (.int a6), none, none]) rfl ?_
    exact tfX10_hanging_116 hK8 hK17 h
  · rw [if_pos c] at h
    refine sn_blk _ kX10_hanging_89_1 (pc' := 108) (L' := [some (.ref a0), none, some (.int a2), some (.int a3), some (.int (s0 ||| s1)), some (.int a5), some (.int a6), none, some (.int a8)]) (st' := [.int ((s0 ||| s1) &&& a8), .int (s0 ||| s1)]) rfl rfl ?_
    refine sn_if_eq (tgt := 116) dX10_hanging_108 (by decide) (fun c => ?_) (fun c => ?_)
    · rw [if_pos c] at h
      refine sn_msk [true, true, true, true, false, true, true, true, false] (L2 := [some (.ref a0), none, some (.int a2), some (.int a3), none, some (.int a5), some (.int a6), none, none]) rfl ?_
      exact tfX10_hanging_116 hK8 hK17 h
    · rw [if_neg c] at h
      refine sn_blk _ kX10_hanging_89_2 (pc' := 17) (L' := [some (.ref a0), none, some (.int a2), some (.int a3), some (.int ((s0 ||| s1) ||| a8)), some (.int a5), some (.int (a6 + 1)), none, some (.int a8)]) (st' := []) rfl rfl ?_
      refine sn_msk [true, true, true, true, true, true, true, true, false] (L2 := [some (.ref a0), none, some (.int a2), some (.int a3), some (.int ((s0 ||| s1) ||| a8)), some (.int a5), some (.int (a6 + 1)), none, none]) rfl ?_
      exact hK17 _ _ _ _ _ _ _ h
def fX10_hanging_88 (K8 : Nat → Int32 → Int32 → Int32 → Int32 → Hp → Option (Int32 × Hp)) (K17 : Nat → Int32 → Int32 → Int32 → Int32 → Int32 → Hp → Option (Int32 × Hp)) (a0 : Nat) (a2 : Int32) (a3 : Int32) (a5 : Int32) (a6 : Int32) (a8 : Int32) (s0 : Int32) (H : Hp) : Option (Int32 × Hp) :=
  fX10_hanging_89 K8 K17 a0 a2 a3 a5 a6 a8 s0 0 H
set_option maxHeartbeats 4000000 in
set_option maxRecDepth 100000 in
theorem tfX10_hanging_88 {G : GG} {r : Int32} {H' : Hp} {K8 : Nat → Int32 → Int32 → Int32 → Int32 → Hp → Option (Int32 × Hp)} {K17 : Nat → Int32 → Int32 → Int32 → Int32 → Int32 → Hp → Option (Int32 × Hp)} (hK8 : ∀ (a0 : Nat) (a2 : Int32) (a3 : Int32) (a4 : Int32) (a5 : Int32) (H : Hp), K8 a0 a2 a3 a4 a5 H = some (r, H') → Sn G (T0 G (some (.int r)) H') mX10_hanging 8 [some (.ref a0), none, some (.int a2), some (.int a3), some (.int a4), some (.int a5), none, none, none] [] H) (hK17 : ∀ (a0 : Nat) (a2 : Int32) (a3 : Int32) (a4 : Int32) (a5 : Int32) (a6 : Int32) (H : Hp), K17 a0 a2 a3 a4 a5 a6 H = some (r, H') → Sn G (T0 G (some (.int r)) H') mX10_hanging 17 [some (.ref a0), none, some (.int a2), some (.int a3), some (.int a4), some (.int a5), some (.int a6), none, none] [] H) {a0 : Nat} {a2 : Int32} {a3 : Int32} {a5 : Int32} {a6 : Int32} {a8 : Int32} {s0 : Int32} {H : Hp} (h : fX10_hanging_88 K8 K17 a0 a2 a3 a5 a6 a8 s0 H = some (r, H')) : Sn G (T0 G (some (.int r)) H') mX10_hanging 88 [some (.ref a0), none, some (.int a2), some (.int a3), none, some (.int a5), some (.int a6), none, some (.int a8)] [.int s0] H := by
  unfold fX10_hanging_88 at h
  refine sn_blk _ kX10_hanging_88_0 (pc' := 89) (L' := [some (.ref a0), none, some (.int a2), some (.int a3), none, some (.int a5), some (.int a6), none, some (.int a8)]) (st' := [.int 0, .int s0]) rfl rfl ?_
  exact tfX10_hanging_89 hK8 hK17 h
def bX10_hanging_17 (K8 : Nat → Int32 → Int32 → Int32 → Int32 → Hp → Option (Int32 × Hp)) (K17 : Nat → Int32 → Int32 → Int32 → Int32 → Int32 → Hp → Option (Int32 × Hp)) (a0 : Nat) (a2 : Int32) (a3 : Int32) (a4 : Int32) (a5 : Int32) (a6 : Int32) (H : Hp) : Option (Int32 × Hp) :=
  bd (aI H a0 0 0) fun x1 =>
  if (x1 ≤ a6 : Prop) then
    K8 a0 a2 a3 a4 (a5 + 1) H
  else
    bd2 (FX10_right a0 a6 H) fun x2 H3 =>
    bd2 (FX10_up a0 a6 H3) fun x4 H5 =>
    bd2 (FX10_has a3 a6 H5) fun x6 H7 =>
    if (x6 = 0 : Prop) then
      if ((((1 <<< (a6 &&& 31)) ||| (1 <<< (x2 &&& 31))) &&& (a2 ^^^ (-1))) = 0 : Prop) then
        if ((a4 &&& ((1 <<< (a6 &&& 31)) ||| (1 <<< (x2 &&& 31)))) = 0 : Prop) then
          fX10_hanging_88 K8 K17 a0 a2 a3 a5 a6 ((1 <<< (a6 &&& 31)) ||| (1 <<< (x4 &&& 31))) a4 H7
        else
          fX10_hanging_89 K8 K17 a0 a2 a3 a5 a6 ((1 <<< (a6 &&& 31)) ||| (1 <<< (x4 &&& 31))) a4 ((1 <<< (a6 &&& 31)) ||| (1 <<< (x2 &&& 31))) H7
      else
        fX10_hanging_88 K8 K17 a0 a2 a3 a5 a6 ((1 <<< (a6 &&& 31)) ||| (1 <<< (x4 &&& 31))) a4 H7
    else
      fX10_hanging_88 K8 K17 a0 a2 a3 a5 a6 ((1 <<< (a6 &&& 31)) ||| (1 <<< (x4 &&& 31))) a4 H7
set_option maxHeartbeats 4000000 in
set_option maxRecDepth 100000 in
theorem tbX10_hanging_17 {G : GG} {r : Int32} {H' : Hp} {K8 : Nat → Int32 → Int32 → Int32 → Int32 → Hp → Option (Int32 × Hp)} {K17 : Nat → Int32 → Int32 → Int32 → Int32 → Int32 → Hp → Option (Int32 × Hp)} (hK8 : ∀ (a0 : Nat) (a2 : Int32) (a3 : Int32) (a4 : Int32) (a5 : Int32) (H : Hp), K8 a0 a2 a3 a4 a5 H = some (r, H') → Sn G (T0 G (some (.int r)) H') mX10_hanging 8 [some (.ref a0), none, some (.int a2), some (.int a3), some (.int a4), some (.int a5), none, none, none] [] H) (hK17 : ∀ (a0 : Nat) (a2 : Int32) (a3 : Int32) (a4 : Int32) (a5 : Int32) (a6 : Int32) (H : Hp), K17 a0 a2 a3 a4 a5 a6 H = some (r, H') → Sn G (T0 G (some (.int r)) H') mX10_hanging 17 [some (.ref a0), none, some (.int a2), some (.int a3), some (.int a4), some (.int a5), some (.int a6), none, none] [] H) {a0 : Nat} {a2 : Int32} {a3 : Int32} {a4 : Int32} {a5 : Int32} {a6 : Int32} {H : Hp} (h : bX10_hanging_17 K8 K17 a0 a2 a3 a4 a5 a6 H = some (r, H')) : Sn G (T0 G (some (.int r)) H') mX10_hanging 17 [some (.ref a0), none, some (.int a2), some (.int a3), some (.int a4), some (.int a5), some (.int a6), none, none] [] H := by
  unfold bX10_hanging_17 at h
  refine sn_blk _ kX10_hanging_17_0 (pc' := 21) (L' := [some (.ref a0), none, some (.int a2), some (.int a3), some (.int a4), some (.int a5), some (.int a6), none, none]) (st' := [.int 0, .ref a0, .int a6]) rfl rfl ?_
  obtain ⟨x1, hx1, h⟩ := bd_inv h
  refine sn_iald dX10_hanging_21 hx1 ?_
  refine sn_icmp_ge (tgt := 126) dX10_hanging_22 (by decide) (fun c => ?_) (fun c => ?_)
  · rw [if_pos c] at h
    refine sn_blk _ kX10_hanging_17_1 (pc' := 8) (L' := [some (.ref a0), none, some (.int a2), some (.int a3), some (.int a4), some (.int (a5 + 1)), some (.int a6), none, none]) (st' := []) rfl rfl ?_
    refine sn_msk [true, true, true, true, true, true, false, true, true] (L2 := [some (.ref a0), none, some (.int a2), some (.int a3), some (.int a4), some (.int (a5 + 1)), none, none, none]) rfl ?_
    exact hK8 _ _ _ _ _ _ h
  · rw [if_neg c] at h
    refine sn_blk _ kX10_hanging_17_2 (pc' := 33) (L' := [some (.ref a0), none, some (.int a2), some (.int a3), some (.int a4), some (.int a5), some (.int a6), none, none]) (st' := [.int a6, .ref a0, .int 1, .int (1 <<< (a6 &&& 31))]) rfl rfl ?_
    obtain ⟨x2, H3, hx2, h⟩ := bd2_inv h
    refine sn_calls (av := [.ref a0, .int a6]) (st := [.int 1, .int (1 <<< (a6 &&& 31))]) (M2 := mX10_right) dX10_hanging_33 msX10_right mlX10_64 rfl rfl rfl rfl rfl (sX10_right hx2) ?_
    refine sn_blk _ kX10_hanging_17_3 (pc' := 48) (L' := [some (.ref a0), none, some (.int a2), some (.int a3), some (.int a4), some (.int a5), some (.int a6), some (.int ((1 <<< (a6 &&& 31)) ||| (1 <<< (x2 &&& 31)))), none]) (st' := [.int a6, .ref a0, .int 1, .int (1 <<< (a6 &&& 31))]) rfl rfl ?_
    obtain ⟨x4, H5, hx4, h⟩ := bd2_inv h
    refine sn_calls (av := [.ref a0, .int a6]) (st := [.int 1, .int (1 <<< (a6 &&& 31))]) (M2 := mX10_up) dX10_hanging_48 msX10_up mlX10_71 rfl rfl rfl rfl rfl (sX10_up hx4) ?_
    refine sn_blk _ kX10_hanging_17_4 (pc' := 60) (L' := [some (.ref a0), none, some (.int a2), some (.int a3), some (.int a4), some (.int a5), some (.int a6), some (.int ((1 <<< (a6 &&& 31)) ||| (1 <<< (x2 &&& 31)))), some (.int ((1 <<< (a6 &&& 31)) ||| (1 <<< (x4 &&& 31))))]) (st' := [.int a6, .int a3, .int a4]) rfl rfl ?_
    obtain ⟨x6, H7, hx6, h⟩ := bd2_inv h
    refine sn_calls (av := [.int a3, .int a6]) (st := [.int a4]) (M2 := mX10_has) dX10_hanging_60 msX10_has mlX10_80 rfl rfl rfl rfl rfl (sX10_has hx6) ?_
    refine sn_if_ne (tgt := 88) dX10_hanging_63 (by decide) (fun c => ?_) (fun c => ?_)
    · rw [if_neg c] at h
      refine sn_msk [true, true, true, true, false, true, true, false, true] (L2 := [some (.ref a0), none, some (.int a2), some (.int a3), none, some (.int a5), some (.int a6), none, some (.int ((1 <<< (a6 &&& 31)) ||| (1 <<< (x4 &&& 31))))]) rfl ?_
      exact tfX10_hanging_88 hK8 hK17 h
    · rw [if_pos c] at h
      refine sn_blk _ kX10_hanging_17_5 (pc' := 72) (L' := [some (.ref a0), none, some (.int a2), some (.int a3), some (.int a4), some (.int a5), some (.int a6), some (.int ((1 <<< (a6 &&& 31)) ||| (1 <<< (x2 &&& 31)))), some (.int ((1 <<< (a6 &&& 31)) ||| (1 <<< (x4 &&& 31))))]) (st' := [.int (((1 <<< (a6 &&& 31)) ||| (1 <<< (x2 &&& 31))) &&& (a2 ^^^ (-1))), .int a4]) rfl rfl ?_
      refine sn_if_ne (tgt := 88) dX10_hanging_72 (by decide) (fun c => ?_) (fun c => ?_)
      · rw [if_neg c] at h
        refine sn_msk [true, true, true, true, false, true, true, false, true] (L2 := [some (.ref a0), none, some (.int a2), some (.int a3), none, some (.int a5), some (.int a6), none, some (.int ((1 <<< (a6 &&& 31)) ||| (1 <<< (x4 &&& 31))))]) rfl ?_
        exact tfX10_hanging_88 hK8 hK17 h
      · rw [if_pos c] at h
        refine sn_blk _ kX10_hanging_17_6 (pc' := 80) (L' := [some (.ref a0), none, some (.int a2), some (.int a3), some (.int a4), some (.int a5), some (.int a6), some (.int ((1 <<< (a6 &&& 31)) ||| (1 <<< (x2 &&& 31)))), some (.int ((1 <<< (a6 &&& 31)) ||| (1 <<< (x4 &&& 31))))]) (st' := [.int (a4 &&& ((1 <<< (a6 &&& 31)) ||| (1 <<< (x2 &&& 31)))), .int a4]) rfl rfl ?_
        refine sn_if_eq (tgt := 88) dX10_hanging_80 (by decide) (fun c => ?_) (fun c => ?_)
        · rw [if_pos c] at h
          refine sn_msk [true, true, true, true, false, true, true, false, true] (L2 := [some (.ref a0), none, some (.int a2), some (.int a3), none, some (.int a5), some (.int a6), none, some (.int ((1 <<< (a6 &&& 31)) ||| (1 <<< (x4 &&& 31))))]) rfl ?_
          exact tfX10_hanging_88 hK8 hK17 h
        · rw [if_neg c] at h
          refine sn_blk _ kX10_hanging_17_7 (pc' := 89) (L' := [some (.ref a0), none, some (.int a2), some (.int a3), some (.int a4), some (.int a5), some (.int a6), some (.int ((1 <<< (a6 &&& 31)) ||| (1 <<< (x2 &&& 31)))), some (.int ((1 <<< (a6 &&& 31)) ||| (1 <<< (x4 &&& 31))))]) (st' := [.int ((1 <<< (a6 &&& 31)) ||| (1 <<< (x2 &&& 31))), .int a4]) rfl rfl ?_
          refine sn_msk [true, true, true, true, false, true, true, false, true] (L2 := [some (.ref a0), none, some (.int a2), some (.int a3), none, some (.int a5), some (.int a6), none, some (.int ((1 <<< (a6 &&& 31)) ||| (1 <<< (x4 &&& 31))))]) rfl ?_
          exact tfX10_hanging_89 hK8 hK17 h
def fX10_hanging_17 (K8 : Nat → Int32 → Int32 → Int32 → Int32 → Hp → Option (Int32 × Hp)) : Nat → Nat → Int32 → Int32 → Int32 → Int32 → Int32 → Hp → Option (Int32 × Hp)
  | 0, _, _, _, _, _, _, _ => none
  | d + 1, a0, a2, a3, a4, a5, a6, H => bX10_hanging_17 K8 (fX10_hanging_17 K8 d) a0 a2 a3 a4 a5 a6 H
theorem tfX10_hanging_17 {G : GG} {r : Int32} {H' : Hp} {K8 : Nat → Int32 → Int32 → Int32 → Int32 → Hp → Option (Int32 × Hp)} (hK8 : ∀ (a0 : Nat) (a2 : Int32) (a3 : Int32) (a4 : Int32) (a5 : Int32) (H : Hp), K8 a0 a2 a3 a4 a5 H = some (r, H') → Sn G (T0 G (some (.int r)) H') mX10_hanging 8 [some (.ref a0), none, some (.int a2), some (.int a3), some (.int a4), some (.int a5), none, none, none] [] H) : ∀ (d : Nat) {a0 : Nat} {a2 : Int32} {a3 : Int32} {a4 : Int32} {a5 : Int32} {a6 : Int32} {H : Hp}, fX10_hanging_17 K8 d a0 a2 a3 a4 a5 a6 H = some (r, H') → Sn G (T0 G (some (.int r)) H') mX10_hanging 17 [some (.ref a0), none, some (.int a2), some (.int a3), some (.int a4), some (.int a5), some (.int a6), none, none] [] H := by
  intro d
  induction d with
  | zero => intro a0 a2 a3 a4 a5 a6 H h; cases h
  | succ d ih => intro a0 a2 a3 a4 a5 a6 H h; exact tbX10_hanging_17 hK8 (fun a0 a2 a3 a4 a5 a6 H h => ih h) h
def bX10_hanging_8 (K8 : Nat → Int32 → Int32 → Int32 → Int32 → Hp → Option (Int32 × Hp)) (a0 : Nat) (a2 : Int32) (a3 : Int32) (a4 : Int32) (a5 : Int32) (H : Hp) : Option (Int32 × Hp) :=
  if (5 ≤ a5 : Prop) then
    some (a4, H)
  else
    fX10_hanging_17 K8 4096 a0 a2 a3 a4 a5 0 H
set_option maxHeartbeats 4000000 in
set_option maxRecDepth 100000 in
theorem tbX10_hanging_8 {G : GG} {r : Int32} {H' : Hp} {K8 : Nat → Int32 → Int32 → Int32 → Int32 → Hp → Option (Int32 × Hp)} (hK8 : ∀ (a0 : Nat) (a2 : Int32) (a3 : Int32) (a4 : Int32) (a5 : Int32) (H : Hp), K8 a0 a2 a3 a4 a5 H = some (r, H') → Sn G (T0 G (some (.int r)) H') mX10_hanging 8 [some (.ref a0), none, some (.int a2), some (.int a3), some (.int a4), some (.int a5), none, none, none] [] H) {a0 : Nat} {a2 : Int32} {a3 : Int32} {a4 : Int32} {a5 : Int32} {H : Hp} (h : bX10_hanging_8 K8 a0 a2 a3 a4 a5 H = some (r, H')) : Sn G (T0 G (some (.int r)) H') mX10_hanging 8 [some (.ref a0), none, some (.int a2), some (.int a3), some (.int a4), some (.int a5), none, none, none] [] H := by
  unfold bX10_hanging_8 at h
  refine sn_blk _ kX10_hanging_8_0 (pc' := 11) (L' := [some (.ref a0), none, some (.int a2), some (.int a3), some (.int a4), some (.int a5), none, none, none]) (st' := [.int 5, .int a5]) rfl rfl ?_
  refine sn_icmp_ge (tgt := 132) dX10_hanging_11 (by decide) (fun c => ?_) (fun c => ?_)
  · rw [if_pos c] at h
    refine sn_blk _ kX10_hanging_8_1 (pc' := 134) (L' := [some (.ref a0), none, some (.int a2), some (.int a3), some (.int a4), some (.int a5), none, none, none]) (st' := [.int a4]) rfl rfl ?_
    cases h
    exact sn_iret (ty := .int) dX10_hanging_134 rfl rfl
  · rw [if_neg c] at h
    refine sn_blk _ kX10_hanging_8_2 (pc' := 17) (L' := [some (.ref a0), none, some (.int a2), some (.int a3), some (.int a4), some (.int a5), some (.int 0), none, none]) (st' := []) rfl rfl ?_
    exact tfX10_hanging_17 hK8 4096 h
def fX10_hanging_8  : Nat → Nat → Int32 → Int32 → Int32 → Int32 → Hp → Option (Int32 × Hp)
  | 0, _, _, _, _, _, _ => none
  | d + 1, a0, a2, a3, a4, a5, H => bX10_hanging_8 (fX10_hanging_8  d) a0 a2 a3 a4 a5 H
theorem tfX10_hanging_8 {G : GG} {r : Int32} {H' : Hp}   : ∀ (d : Nat) {a0 : Nat} {a2 : Int32} {a3 : Int32} {a4 : Int32} {a5 : Int32} {H : Hp}, fX10_hanging_8  d a0 a2 a3 a4 a5 H = some (r, H') → Sn G (T0 G (some (.int r)) H') mX10_hanging 8 [some (.ref a0), none, some (.int a2), some (.int a3), some (.int a4), some (.int a5), none, none, none] [] H := by
  intro d
  induction d with
  | zero => intro a0 a2 a3 a4 a5 H h; cases h
  | succ d ih => intro a0 a2 a3 a4 a5 H h; exact tbX10_hanging_8 (fun a0 a2 a3 a4 a5 H h => ih h) h
def FX10_hanging  (a0 : Nat) (a1 : Int32) (a2 : Int32) (a3 : Int32) (H : Hp) : Option (Int32 × Hp) :=
  fX10_hanging_8  4096 a0 a2 a3 (1 <<< (a1 &&& 31)) 0 H
set_option maxHeartbeats 4000000 in
set_option maxRecDepth 100000 in
theorem tFX10_hanging {G : GG} {r : Int32} {H' : Hp}   {a0 : Nat} {a1 : Int32} {a2 : Int32} {a3 : Int32} {H : Hp} (h : FX10_hanging  a0 a1 a2 a3 H = some (r, H')) : Sn G (T0 G (some (.int r)) H') mX10_hanging 0 [some (.ref a0), some (.int a1), some (.int a2), some (.int a3), none, none, none, none, none] [] H := by
  unfold FX10_hanging at h
  refine sn_blk _ kX10_hanging_0_0 (pc' := 8) (L' := [some (.ref a0), some (.int a1), some (.int a2), some (.int a3), some (.int (1 <<< (a1 &&& 31))), some (.int 0), none, none, none]) (st' := []) rfl rfl ?_
  refine sn_msk [true, false, true, true, true, true, true, true, true] (L2 := [some (.ref a0), none, some (.int a2), some (.int a3), some (.int (1 <<< (a1 &&& 31))), some (.int 0), none, none, none]) rfl ?_
  exact tfX10_hanging_8  4096 h
theorem sX10_hanging {G : GG} {r : Int32} {H' : Hp} {a0 : Nat} {a1 : Int32} {a2 : Int32} {a3 : Int32} {H : Hp} (h : FX10_hanging a0 a1 a2 a3 H = some (r, H')) : SM G mX10_hanging [.ref a0, .int a1, .int a2, .int a3] H (some (.int r)) H' := tFX10_hanging h
/-! SquareFoldsModel.fallen([III)I -/
theorem kX10_fallen_0_0 : decB cX10_fallen 0 [(.iload_n 1, .null), (.istore_n 3, .null), (.iconst 0, .int 0), (.istore 4, .null), (.iconst 0, .int 0), (.istore 5, .null)] = true := by decide +kernel
theorem kX10_fallen_8_0 : decB cX10_fallen 8 [(.iload 5, .null), (.aload_n 0, .null), (.iconst 0, .int 0)] = true := by decide +kernel
theorem kX10_fallen_8_1 : decB cX10_fallen 47 [(.iload 4, .null)] = true := by decide +kernel
theorem kX10_fallen_8_2 : decB cX10_fallen 16 [(.iload_n 3, .null), (.iload 5, .null)] = true := by decide +kernel
theorem kX10_fallen_8_3 : decB cX10_fallen 41 [(.iinc 5 1, .int 1), (.goto (-36), .retAddr 8)] = true := by decide +kernel
theorem kX10_fallen_8_4 : decB cX10_fallen 25 [(.iload_n 3, .null), (.aload_n 0, .null), (.iload 5, .null), (.iload_n 1, .null), (.iload_n 2, .null)] = true := by decide +kernel
theorem kX10_fallen_8_5 : decB cX10_fallen 34 [(.iconst (-1), .int (-1)), (.ixor, .null), (.iand, .null), (.istore_n 3, .null), (.iinc 4 1, .int 1), (.iinc 5 1, .int 1), (.goto (-36), .retAddr 8)] = true := by decide +kernel
theorem dX10_fallen_12 : decode cX10_fallen 12 = .ok (.iaload, 1) := by decide +kernel
theorem dX10_fallen_13 : decode cX10_fallen 13 = .ok (.if_icmp .ge 34, 3) := by decide +kernel
theorem dX10_fallen_19 : decode cX10_fallen 19 = .ok (.invokestatic 80, 3) := by decide +kernel
theorem dX10_fallen_22 : decode cX10_fallen 22 = .ok (.ifCond .eq 19, 3) := by decide +kernel
theorem dX10_fallen_31 : decode cX10_fallen 31 = .ok (.invokestatic 271, 3) := by decide +kernel
theorem dX10_fallen_49 : decode cX10_fallen 49 = .ok (.ireturn, 1) := by decide +kernel
def bX10_fallen_8 (K8 : Nat → Int32 → Int32 → Int32 → Int32 → Int32 → Hp → Option (Int32 × Hp)) (a0 : Nat) (a1 : Int32) (a2 : Int32) (a3 : Int32) (a4 : Int32) (a5 : Int32) (H : Hp) : Option (Int32 × Hp) :=
  bd (aI H a0 0 0) fun x1 =>
  if (x1 ≤ a5 : Prop) then
    some (a4, H)
  else
    bd2 (FX10_has a3 a5 H) fun x2 H3 =>
    if (x2 = 0 : Prop) then
      K8 a0 a1 a2 a3 a4 (a5 + 1) H3
    else
      bd2 (FX10_hanging a0 a5 a1 a2 H3) fun x4 H5 =>
      K8 a0 a1 a2 (a3 &&& (x4 ^^^ (-1))) (a4 + 1) (a5 + 1) H5
set_option maxHeartbeats 4000000 in
set_option maxRecDepth 100000 in
theorem tbX10_fallen_8 {G : GG} {r : Int32} {H' : Hp} {K8 : Nat → Int32 → Int32 → Int32 → Int32 → Int32 → Hp → Option (Int32 × Hp)} (hK8 : ∀ (a0 : Nat) (a1 : Int32) (a2 : Int32) (a3 : Int32) (a4 : Int32) (a5 : Int32) (H : Hp), K8 a0 a1 a2 a3 a4 a5 H = some (r, H') → Sn G (T0 G (some (.int r)) H') mX10_fallen 8 [some (.ref a0), some (.int a1), some (.int a2), some (.int a3), some (.int a4), some (.int a5)] [] H) {a0 : Nat} {a1 : Int32} {a2 : Int32} {a3 : Int32} {a4 : Int32} {a5 : Int32} {H : Hp} (h : bX10_fallen_8 K8 a0 a1 a2 a3 a4 a5 H = some (r, H')) : Sn G (T0 G (some (.int r)) H') mX10_fallen 8 [some (.ref a0), some (.int a1), some (.int a2), some (.int a3), some (.int a4), some (.int a5)] [] H := by
  unfold bX10_fallen_8 at h
  refine sn_blk _ kX10_fallen_8_0 (pc' := 12) (L' := [some (.ref a0), some (.int a1), some (.int a2), some (.int a3), some (.int a4), some (.int a5)]) (st' := [.int 0, .ref a0, .int a5]) rfl rfl ?_
  obtain ⟨x1, hx1, h⟩ := bd_inv h
  refine sn_iald dX10_fallen_12 hx1 ?_
  refine sn_icmp_ge (tgt := 47) dX10_fallen_13 (by decide) (fun c => ?_) (fun c => ?_)
  · rw [if_pos c] at h
    refine sn_blk _ kX10_fallen_8_1 (pc' := 49) (L' := [some (.ref a0), some (.int a1), some (.int a2), some (.int a3), some (.int a4), some (.int a5)]) (st' := [.int a4]) rfl rfl ?_
    cases h
    exact sn_iret (ty := .int) dX10_fallen_49 rfl rfl
  · rw [if_neg c] at h
    refine sn_blk _ kX10_fallen_8_2 (pc' := 19) (L' := [some (.ref a0), some (.int a1), some (.int a2), some (.int a3), some (.int a4), some (.int a5)]) (st' := [.int a5, .int a3]) rfl rfl ?_
    obtain ⟨x2, H3, hx2, h⟩ := bd2_inv h
    refine sn_calls (av := [.int a3, .int a5]) (st := []) (M2 := mX10_has) dX10_fallen_19 msX10_has mlX10_80 rfl rfl rfl rfl rfl (sX10_has hx2) ?_
    refine sn_if_eq (tgt := 41) dX10_fallen_22 (by decide) (fun c => ?_) (fun c => ?_)
    · rw [if_pos c] at h
      refine sn_blk _ kX10_fallen_8_3 (pc' := 8) (L' := [some (.ref a0), some (.int a1), some (.int a2), some (.int a3), some (.int a4), some (.int (a5 + 1))]) (st' := []) rfl rfl ?_
      exact hK8 _ _ _ _ _ _ _ h
    · rw [if_neg c] at h
      refine sn_blk _ kX10_fallen_8_4 (pc' := 31) (L' := [some (.ref a0), some (.int a1), some (.int a2), some (.int a3), some (.int a4), some (.int a5)]) (st' := [.int a2, .int a1, .int a5, .ref a0, .int a3]) rfl rfl ?_
      obtain ⟨x4, H5, hx4, h⟩ := bd2_inv h
      refine sn_calls (av := [.ref a0, .int a5, .int a1, .int a2]) (st := [.int a3]) (M2 := mX10_hanging) dX10_fallen_31 msX10_hanging mlX10_271 rfl rfl rfl rfl rfl (sX10_hanging hx4) ?_
      refine sn_blk _ kX10_fallen_8_5 (pc' := 8) (L' := [some (.ref a0), some (.int a1), some (.int a2), some (.int (a3 &&& (x4 ^^^ (-1)))), some (.int (a4 + 1)), some (.int (a5 + 1))]) (st' := []) rfl rfl ?_
      exact hK8 _ _ _ _ _ _ _ h
def fX10_fallen_8  : Nat → Nat → Int32 → Int32 → Int32 → Int32 → Int32 → Hp → Option (Int32 × Hp)
  | 0, _, _, _, _, _, _, _ => none
  | d + 1, a0, a1, a2, a3, a4, a5, H => bX10_fallen_8 (fX10_fallen_8  d) a0 a1 a2 a3 a4 a5 H
theorem tfX10_fallen_8 {G : GG} {r : Int32} {H' : Hp}   : ∀ (d : Nat) {a0 : Nat} {a1 : Int32} {a2 : Int32} {a3 : Int32} {a4 : Int32} {a5 : Int32} {H : Hp}, fX10_fallen_8  d a0 a1 a2 a3 a4 a5 H = some (r, H') → Sn G (T0 G (some (.int r)) H') mX10_fallen 8 [some (.ref a0), some (.int a1), some (.int a2), some (.int a3), some (.int a4), some (.int a5)] [] H := by
  intro d
  induction d with
  | zero => intro a0 a1 a2 a3 a4 a5 H h; cases h
  | succ d ih => intro a0 a1 a2 a3 a4 a5 H h; exact tbX10_fallen_8 (fun a0 a1 a2 a3 a4 a5 H h => ih h) h
def FX10_fallen  (a0 : Nat) (a1 : Int32) (a2 : Int32) (H : Hp) : Option (Int32 × Hp) :=
  fX10_fallen_8  4096 a0 a1 a2 a1 0 0 H
set_option maxHeartbeats 4000000 in
set_option maxRecDepth 100000 in
theorem tFX10_fallen {G : GG} {r : Int32} {H' : Hp}   {a0 : Nat} {a1 : Int32} {a2 : Int32} {H : Hp} (h : FX10_fallen  a0 a1 a2 H = some (r, H')) : Sn G (T0 G (some (.int r)) H') mX10_fallen 0 [some (.ref a0), some (.int a1), some (.int a2), none, none, none] [] H := by
  unfold FX10_fallen at h
  refine sn_blk _ kX10_fallen_0_0 (pc' := 8) (L' := [some (.ref a0), some (.int a1), some (.int a2), some (.int a1), some (.int 0), some (.int 0)]) (st' := []) rfl rfl ?_
  exact tfX10_fallen_8  4096 h
theorem sX10_fallen {G : GG} {r : Int32} {H' : Hp} {a0 : Nat} {a1 : Int32} {a2 : Int32} {H : Hp} (h : FX10_fallen a0 a1 a2 H = some (r, H')) : SM G mX10_fallen [.ref a0, .int a1, .int a2] H (some (.int r)) H' := tFX10_fallen h
/-! SquareFoldsModel.squareAt(II)I -/
theorem kX10_squareAt_0_0 : decB cX10_squareAt 0 [(.iload_n 0, .null), (.iconst 5, .int 5), (.iload_n 1, .null)] = true := by decide +kernel
theorem kX10_squareAt_0_1 : decB cX10_squareAt 7 [(.iconst 5, .int 5)] = true := by decide +kernel
theorem dX10_squareAt_3 : decode cX10_squareAt 3 = .ok (.invokestatic 154, 3) := by decide +kernel
theorem dX10_squareAt_6 : decode cX10_squareAt 6 = .ok (.idiv, 1) := by decide +kernel
theorem dX10_squareAt_8 : decode cX10_squareAt 8 = .ok (.irem, 1) := by decide +kernel
theorem dX10_squareAt_9 : decode cX10_squareAt 9 = .ok (.ireturn, 1) := by decide +kernel
def FX10_squareAt  (a0 : Int32) (a1 : Int32) (H : Hp) : Option (Int32 × Hp) :=
  bd2 (FX10_power 5 a1 H) fun x1 H2 =>
  gp (¬ x1 = 0) (
    some ((rI (a0 / x1) 5), H2)
    )
set_option maxHeartbeats 4000000 in
set_option maxRecDepth 100000 in
theorem tFX10_squareAt {G : GG} {r : Int32} {H' : Hp}   {a0 : Int32} {a1 : Int32} {H : Hp} (h : FX10_squareAt  a0 a1 H = some (r, H')) : Sn G (T0 G (some (.int r)) H') mX10_squareAt 0 [some (.int a0), some (.int a1)] [] H := by
  unfold FX10_squareAt at h
  refine sn_blk _ kX10_squareAt_0_0 (pc' := 3) (L' := [some (.int a0), some (.int a1)]) (st' := [.int a1, .int 5, .int a0]) rfl rfl ?_
  obtain ⟨x1, H2, hx1, h⟩ := bd2_inv h
  refine sn_calls (av := [.int 5, .int a1]) (st := [.int a0]) (M2 := mX10_power) dX10_squareAt_3 msX10_power mlX10_154 rfl rfl rfl rfl rfl (sX10_power hx1) ?_
  obtain ⟨hy, h⟩ := gp_inv h
  refine sn_idiv dX10_squareAt_6 hy ?_
  refine sn_blk _ kX10_squareAt_0_1 (pc' := 8) (L' := [some (.int a0), some (.int a1)]) (st' := [.int 5, .int (a0 / x1)]) rfl rfl ?_
  refine sn_irem dX10_squareAt_8 (by decide) ?_
  cases h
  exact sn_iret (ty := .int) dX10_squareAt_9 rfl rfl
theorem sX10_squareAt {G : GG} {r : Int32} {H' : Hp} {a0 : Int32} {a1 : Int32} {H : Hp} (h : FX10_squareAt a0 a1 H = some (r, H')) : SM G mX10_squareAt [.int a0, .int a1] H (some (.int r)) H' := tFX10_squareAt h
/-! SquareFoldsModel.isOrder(II)Z -/
theorem kX10_isOrder_0_0 : decB cX10_isOrder 0 [(.iconst 0, .int 0), (.istore_n 2, .null), (.iconst 0, .int 0), (.istore_n 3, .null)] = true := by decide +kernel
theorem kX10_isOrder_4_0 : decB cX10_isOrder 4 [(.iload_n 3, .null), (.iload_n 1, .null)] = true := by decide +kernel
theorem kX10_isOrder_4_1 : decB cX10_isOrder 25 [(.iload_n 2, .null), (.iconst 1, .int 1), (.iload_n 1, .null), (.ishl, .null), (.iconst 1, .int 1), (.isub, .null)] = true := by decide +kernel
theorem kX10_isOrder_4_2 : decB cX10_isOrder 38 [(.iconst 0, .int 0)] = true := by decide +kernel
theorem kX10_isOrder_4_3 : decB cX10_isOrder 34 [(.iconst 1, .int 1), (.goto 4, .retAddr 39)] = true := by decide +kernel
theorem kX10_isOrder_4_4 : decB cX10_isOrder 9 [(.iload_n 2, .null), (.iconst 1, .int 1), (.iload_n 0, .null), (.iload_n 3, .null)] = true := by decide +kernel
theorem kX10_isOrder_4_5 : decB cX10_isOrder 16 [(.ishl, .null), (.ior, .null), (.istore_n 2, .null), (.iinc 3 1, .int 1), (.goto (-18), .retAddr 4)] = true := by decide +kernel
theorem dX10_isOrder_6 : decode cX10_isOrder 6 = .ok (.if_icmp .ge 19, 3) := by decide +kernel
theorem dX10_isOrder_13 : decode cX10_isOrder 13 = .ok (.invokestatic 275, 3) := by decide +kernel
theorem dX10_isOrder_31 : decode cX10_isOrder 31 = .ok (.if_icmp .ne 7, 3) := by decide +kernel
theorem dX10_isOrder_39 : decode cX10_isOrder 39 = .ok (.ireturn, 1) := by decide +kernel
def bX10_isOrder_4 (K4 : Int32 → Int32 → Int32 → Int32 → Hp → Option (Int32 × Hp)) (a0 : Int32) (a1 : Int32) (a2 : Int32) (a3 : Int32) (H : Hp) : Option (Int32 × Hp) :=
  if (a1 ≤ a3 : Prop) then
    if (a2 = ((1 <<< (a1 &&& 31)) - 1) : Prop) then
      some (1, H)
    else
      some (0, H)
  else
    bd2 (FX10_squareAt a0 a3 H) fun x1 H2 =>
    K4 a0 a1 (a2 ||| (1 <<< (x1 &&& 31))) (a3 + 1) H2
set_option maxHeartbeats 4000000 in
set_option maxRecDepth 100000 in
theorem tbX10_isOrder_4 {G : GG} {r : Int32} {H' : Hp} {K4 : Int32 → Int32 → Int32 → Int32 → Hp → Option (Int32 × Hp)} (hK4 : ∀ (a0 : Int32) (a1 : Int32) (a2 : Int32) (a3 : Int32) (H : Hp), K4 a0 a1 a2 a3 H = some (r, H') → Sn G (T0 G (some (.int r)) H') mX10_isOrder 4 [some (.int a0), some (.int a1), some (.int a2), some (.int a3)] [] H) {a0 : Int32} {a1 : Int32} {a2 : Int32} {a3 : Int32} {H : Hp} (h : bX10_isOrder_4 K4 a0 a1 a2 a3 H = some (r, H')) : Sn G (T0 G (some (.int r)) H') mX10_isOrder 4 [some (.int a0), some (.int a1), some (.int a2), some (.int a3)] [] H := by
  unfold bX10_isOrder_4 at h
  refine sn_blk _ kX10_isOrder_4_0 (pc' := 6) (L' := [some (.int a0), some (.int a1), some (.int a2), some (.int a3)]) (st' := [.int a1, .int a3]) rfl rfl ?_
  refine sn_icmp_ge (tgt := 25) dX10_isOrder_6 (by decide) (fun c => ?_) (fun c => ?_)
  · rw [if_pos c] at h
    refine sn_blk _ kX10_isOrder_4_1 (pc' := 31) (L' := [some (.int a0), some (.int a1), some (.int a2), some (.int a3)]) (st' := [.int ((1 <<< (a1 &&& 31)) - 1), .int a2]) rfl rfl ?_
    refine sn_icmp_ne (tgt := 38) dX10_isOrder_31 (by decide) (fun c => ?_) (fun c => ?_)
    · rw [if_neg c] at h
      refine sn_blk _ kX10_isOrder_4_2 (pc' := 39) (L' := [some (.int a0), some (.int a1), some (.int a2), some (.int a3)]) (st' := [.int 0]) rfl rfl ?_
      cases h
      exact sn_iret (ty := .boolean) dX10_isOrder_39 rfl rfl
    · rw [if_pos c] at h
      refine sn_blk _ kX10_isOrder_4_3 (pc' := 39) (L' := [some (.int a0), some (.int a1), some (.int a2), some (.int a3)]) (st' := [.int 1]) rfl rfl ?_
      cases h
      exact sn_iret (ty := .boolean) dX10_isOrder_39 rfl rfl
  · rw [if_neg c] at h
    refine sn_blk _ kX10_isOrder_4_4 (pc' := 13) (L' := [some (.int a0), some (.int a1), some (.int a2), some (.int a3)]) (st' := [.int a3, .int a0, .int 1, .int a2]) rfl rfl ?_
    obtain ⟨x1, H2, hx1, h⟩ := bd2_inv h
    refine sn_calls (av := [.int a0, .int a3]) (st := [.int 1, .int a2]) (M2 := mX10_squareAt) dX10_isOrder_13 msX10_squareAt mlX10_275 rfl rfl rfl rfl rfl (sX10_squareAt hx1) ?_
    refine sn_blk _ kX10_isOrder_4_5 (pc' := 4) (L' := [some (.int a0), some (.int a1), some (.int (a2 ||| (1 <<< (x1 &&& 31)))), some (.int (a3 + 1))]) (st' := []) rfl rfl ?_
    exact hK4 _ _ _ _ _ h
def fX10_isOrder_4  : Nat → Int32 → Int32 → Int32 → Int32 → Hp → Option (Int32 × Hp)
  | 0, _, _, _, _, _ => none
  | d + 1, a0, a1, a2, a3, H => bX10_isOrder_4 (fX10_isOrder_4  d) a0 a1 a2 a3 H
theorem tfX10_isOrder_4 {G : GG} {r : Int32} {H' : Hp}   : ∀ (d : Nat) {a0 : Int32} {a1 : Int32} {a2 : Int32} {a3 : Int32} {H : Hp}, fX10_isOrder_4  d a0 a1 a2 a3 H = some (r, H') → Sn G (T0 G (some (.int r)) H') mX10_isOrder 4 [some (.int a0), some (.int a1), some (.int a2), some (.int a3)] [] H := by
  intro d
  induction d with
  | zero => intro a0 a1 a2 a3 H h; cases h
  | succ d ih => intro a0 a1 a2 a3 H h; exact tbX10_isOrder_4 (fun a0 a1 a2 a3 H h => ih h) h
def FX10_isOrder  (a0 : Int32) (a1 : Int32) (H : Hp) : Option (Int32 × Hp) :=
  fX10_isOrder_4  4096 a0 a1 0 0 H
set_option maxHeartbeats 4000000 in
set_option maxRecDepth 100000 in
theorem tFX10_isOrder {G : GG} {r : Int32} {H' : Hp}   {a0 : Int32} {a1 : Int32} {H : Hp} (h : FX10_isOrder  a0 a1 H = some (r, H')) : Sn G (T0 G (some (.int r)) H') mX10_isOrder 0 [some (.int a0), some (.int a1), none, none] [] H := by
  unfold FX10_isOrder at h
  refine sn_blk _ kX10_isOrder_0_0 (pc' := 4) (L' := [some (.int a0), some (.int a1), some (.int 0), some (.int 0)]) (st' := []) rfl rfl ?_
  exact tfX10_isOrder_4  4096 h
theorem sX10_isOrder {G : GG} {r : Int32} {H' : Hp} {a0 : Int32} {a1 : Int32} {H : Hp} (h : FX10_isOrder a0 a1 H = some (r, H')) : SM G mX10_isOrder [.int a0, .int a1] H (some (.int r)) H' := tFX10_isOrder h
/-! SquareFoldsModel.divisor(II)I -/
theorem kX10_divisor_0_0 : decB cX10_divisor 0 [(.iload_n 0, .null)] = true := by decide +kernel
theorem kX10_divisor_0_1 : decB cX10_divisor 9 [(.iload_n 0, .null), (.istore_n 2, .null), (.iload_n 1, .null), (.istore_n 3, .null)] = true := by decide +kernel
theorem kX10_divisor_0_2 : decB cX10_divisor 4 [(.iload_n 0, .null), (.ineg, .null), (.goto 4, .retAddr 10), (.istore_n 2, .null), (.iload_n 1, .null), (.istore_n 3, .null)] = true := by decide +kernel
theorem kX10_divisor_13_0 : decB cX10_divisor 13 [(.iload_n 3, .null)] = true := by decide +kernel
theorem kX10_divisor_13_1 : decB cX10_divisor 30 [(.iload_n 2, .null)] = true := by decide +kernel
theorem kX10_divisor_13_2 : decB cX10_divisor 17 [(.iload_n 2, .null), (.iload_n 3, .null)] = true := by decide +kernel
theorem kX10_divisor_13_3 : decB cX10_divisor 20 [(.istore 4, .null), (.iload_n 3, .null), (.istore_n 2, .null), (.iload 4, .null), (.istore_n 3, .null), (.goto (-14), .retAddr 13)] = true := by decide +kernel
theorem dX10_divisor_1 : decode cX10_divisor 1 = .ok (.ifCond .ge 8, 3) := by decide +kernel
theorem dX10_divisor_14 : decode cX10_divisor 14 = .ok (.ifCond .eq 16, 3) := by decide +kernel
theorem dX10_divisor_19 : decode cX10_divisor 19 = .ok (.irem, 1) := by decide +kernel
theorem dX10_divisor_31 : decode cX10_divisor 31 = .ok (.ireturn, 1) := by decide +kernel
def bX10_divisor_13 (K13 : Int32 → Int32 → Hp → Option (Int32 × Hp)) (a2 : Int32) (a3 : Int32) (H : Hp) : Option (Int32 × Hp) :=
  if (a3 = 0 : Prop) then
    some (a2, H)
  else
    gp (¬ a3 = 0) (
      K13 a3 (rI a2 a3) H
      )
set_option maxHeartbeats 4000000 in
set_option maxRecDepth 100000 in
theorem tbX10_divisor_13 {G : GG} {r : Int32} {H' : Hp} {K13 : Int32 → Int32 → Hp → Option (Int32 × Hp)} (hK13 : ∀ (a2 : Int32) (a3 : Int32) (H : Hp), K13 a2 a3 H = some (r, H') → Sn G (T0 G (some (.int r)) H') mX10_divisor 13 [none, none, some (.int a2), some (.int a3), none] [] H) {a2 : Int32} {a3 : Int32} {H : Hp} (h : bX10_divisor_13 K13 a2 a3 H = some (r, H')) : Sn G (T0 G (some (.int r)) H') mX10_divisor 13 [none, none, some (.int a2), some (.int a3), none] [] H := by
  unfold bX10_divisor_13 at h
  refine sn_blk _ kX10_divisor_13_0 (pc' := 14) (L' := [none, none, some (.int a2), some (.int a3), none]) (st' := [.int a3]) rfl rfl ?_
  refine sn_if_eq (tgt := 30) dX10_divisor_14 (by decide) (fun c => ?_) (fun c => ?_)
  · rw [if_pos c] at h
    refine sn_blk _ kX10_divisor_13_1 (pc' := 31) (L' := [none, none, some (.int a2), some (.int a3), none]) (st' := [.int a2]) rfl rfl ?_
    cases h
    exact sn_iret (ty := .int) dX10_divisor_31 rfl rfl
  · rw [if_neg c] at h
    refine sn_blk _ kX10_divisor_13_2 (pc' := 19) (L' := [none, none, some (.int a2), some (.int a3), none]) (st' := [.int a3, .int a2]) rfl rfl ?_
    obtain ⟨hy, h⟩ := gp_inv h
    refine sn_irem dX10_divisor_19 hy ?_
    refine sn_blk _ kX10_divisor_13_3 (pc' := 13) (L' := [none, none, some (.int a3), some (.int (rI a2 a3)), some (.int (rI a2 a3))]) (st' := []) rfl rfl ?_
    refine sn_msk [true, true, true, true, false] (L2 := [none, none, some (.int a3), some (.int (rI a2 a3)), none]) rfl ?_
    exact hK13 _ _ _ h
def fX10_divisor_13  : Nat → Int32 → Int32 → Hp → Option (Int32 × Hp)
  | 0, _, _, _ => none
  | d + 1, a2, a3, H => bX10_divisor_13 (fX10_divisor_13  d) a2 a3 H
theorem tfX10_divisor_13 {G : GG} {r : Int32} {H' : Hp}   : ∀ (d : Nat) {a2 : Int32} {a3 : Int32} {H : Hp}, fX10_divisor_13  d a2 a3 H = some (r, H') → Sn G (T0 G (some (.int r)) H') mX10_divisor 13 [none, none, some (.int a2), some (.int a3), none] [] H := by
  intro d
  induction d with
  | zero => intro a2 a3 H h; cases h
  | succ d ih => intro a2 a3 H h; exact tbX10_divisor_13 (fun a2 a3 H h => ih h) h
def FX10_divisor  (a0 : Int32) (a1 : Int32) (H : Hp) : Option (Int32 × Hp) :=
  if (0 ≤ a0 : Prop) then
    fX10_divisor_13  4096 a0 a1 H
  else
    fX10_divisor_13  4096 (-a0) a1 H
set_option maxHeartbeats 4000000 in
set_option maxRecDepth 100000 in
theorem tFX10_divisor {G : GG} {r : Int32} {H' : Hp}   {a0 : Int32} {a1 : Int32} {H : Hp} (h : FX10_divisor  a0 a1 H = some (r, H')) : Sn G (T0 G (some (.int r)) H') mX10_divisor 0 [some (.int a0), some (.int a1), none, none, none] [] H := by
  unfold FX10_divisor at h
  refine sn_blk _ kX10_divisor_0_0 (pc' := 1) (L' := [some (.int a0), some (.int a1), none, none, none]) (st' := [.int a0]) rfl rfl ?_
  refine sn_if_ge (tgt := 9) dX10_divisor_1 (by decide) (fun c => ?_) (fun c => ?_)
  · rw [if_pos c] at h
    refine sn_blk _ kX10_divisor_0_1 (pc' := 13) (L' := [some (.int a0), some (.int a1), some (.int a0), some (.int a1), none]) (st' := []) rfl rfl ?_
    refine sn_msk [false, false, true, true, true] (L2 := [none, none, some (.int a0), some (.int a1), none]) rfl ?_
    exact tfX10_divisor_13  4096 h
  · rw [if_neg c] at h
    refine sn_blk _ kX10_divisor_0_2 (pc' := 13) (L' := [some (.int a0), some (.int a1), some (.int (-a0)), some (.int a1), none]) (st' := []) rfl rfl ?_
    refine sn_msk [false, false, true, true, true] (L2 := [none, none, some (.int (-a0)), some (.int a1), none]) rfl ?_
    exact tfX10_divisor_13  4096 h
theorem sX10_divisor {G : GG} {r : Int32} {H' : Hp} {a0 : Int32} {a1 : Int32} {H : Hp} (h : FX10_divisor a0 a1 H = some (r, H')) : SM G mX10_divisor [.int a0, .int a1] H (some (.int r)) H' := tFX10_divisor h
/-! SquareFoldsModel.fraction(IIZ)I -/
theorem kX10_fraction_0_0 : decB cX10_fraction 0 [(.iload_n 0, .null), (.iload_n 1, .null)] = true := by decide +kernel
theorem kX10_fraction_0_1 : decB cX10_fraction 5 [(.istore_n 3, .null), (.iload_n 2, .null)] = true := by decide +kernel
theorem kX10_fraction_0_2 : decB cX10_fraction 16 [(.iload_n 1, .null), (.iload_n 3, .null)] = true := by decide +kernel
theorem kX10_fraction_0_3 : decB cX10_fraction 10 [(.iload_n 0, .null), (.iload_n 3, .null)] = true := by decide +kernel
theorem kX10_fraction_0_4 : decB cX10_fraction 13 [(.goto 6, .retAddr 19)] = true := by decide +kernel
theorem dX10_fraction_2 : decode cX10_fraction 2 = .ok (.invokestatic 60, 3) := by decide +kernel
theorem dX10_fraction_7 : decode cX10_fraction 7 = .ok (.ifCond .eq 9, 3) := by decide +kernel
theorem dX10_fraction_12 : decode cX10_fraction 12 = .ok (.idiv, 1) := by decide +kernel
theorem dX10_fraction_18 : decode cX10_fraction 18 = .ok (.idiv, 1) := by decide +kernel
theorem dX10_fraction_19 : decode cX10_fraction 19 = .ok (.ireturn, 1) := by decide +kernel
def FX10_fraction  (a0 : Int32) (a1 : Int32) (a2 : Int32) (H : Hp) : Option (Int32 × Hp) :=
  bd2 (FX10_divisor a0 a1 H) fun x1 H2 =>
  if (a2 = 0 : Prop) then
    gp (¬ x1 = 0) (
      some ((a1 / x1), H2)
      )
  else
    gp (¬ x1 = 0) (
      some ((a0 / x1), H2)
      )
set_option maxHeartbeats 4000000 in
set_option maxRecDepth 100000 in
theorem tFX10_fraction {G : GG} {r : Int32} {H' : Hp}   {a0 : Int32} {a1 : Int32} {a2 : Int32} {H : Hp} (h : FX10_fraction  a0 a1 a2 H = some (r, H')) : Sn G (T0 G (some (.int r)) H') mX10_fraction 0 [some (.int a0), some (.int a1), some (.int a2), none] [] H := by
  unfold FX10_fraction at h
  refine sn_blk _ kX10_fraction_0_0 (pc' := 2) (L' := [some (.int a0), some (.int a1), some (.int a2), none]) (st' := [.int a1, .int a0]) rfl rfl ?_
  obtain ⟨x1, H2, hx1, h⟩ := bd2_inv h
  refine sn_calls (av := [.int a0, .int a1]) (st := []) (M2 := mX10_divisor) dX10_fraction_2 msX10_divisor mlX10_60 rfl rfl rfl rfl rfl (sX10_divisor hx1) ?_
  refine sn_blk _ kX10_fraction_0_1 (pc' := 7) (L' := [some (.int a0), some (.int a1), some (.int a2), some (.int x1)]) (st' := [.int a2]) rfl rfl ?_
  refine sn_if_eq (tgt := 16) dX10_fraction_7 (by decide) (fun c => ?_) (fun c => ?_)
  · rw [if_pos c] at h
    refine sn_blk _ kX10_fraction_0_2 (pc' := 18) (L' := [some (.int a0), some (.int a1), some (.int a2), some (.int x1)]) (st' := [.int x1, .int a1]) rfl rfl ?_
    obtain ⟨hy, h⟩ := gp_inv h
    refine sn_idiv dX10_fraction_18 hy ?_
    cases h
    exact sn_iret (ty := .int) dX10_fraction_19 rfl rfl
  · rw [if_neg c] at h
    refine sn_blk _ kX10_fraction_0_3 (pc' := 12) (L' := [some (.int a0), some (.int a1), some (.int a2), some (.int x1)]) (st' := [.int x1, .int a0]) rfl rfl ?_
    obtain ⟨hy, h⟩ := gp_inv h
    refine sn_idiv dX10_fraction_12 hy ?_
    refine sn_blk _ kX10_fraction_0_4 (pc' := 19) (L' := [some (.int a0), some (.int a1), some (.int a2), some (.int x1)]) (st' := [.int (a0 / x1)]) rfl rfl ?_
    cases h
    exact sn_iret (ty := .int) dX10_fraction_19 rfl rfl
theorem sX10_fraction {G : GG} {r : Int32} {H' : Hp} {a0 : Int32} {a1 : Int32} {a2 : Int32} {H : Hp} (h : FX10_fraction a0 a1 a2 H = some (r, H')) : SM G mX10_fraction [.int a0, .int a1, .int a2] H (some (.int r)) H' := tFX10_fraction h
/-! SquareFoldsModel.share(IZ)I -/
theorem kX10_share_0_0 : decB cX10_share 0 [(.aload_n 0, .null), (.iload_n 1, .null)] = true := by decide +kernel
theorem kX10_share_0_1 : decB cX10_share 10 [(.aload_n 0, .null)] = true := by decide +kernel
theorem kX10_share_0_2 : decB cX10_share 14 [(.iconst 0, .int 0)] = true := by decide +kernel
theorem kX10_share_0_3 : decB cX10_share 16 [(.istore_n 3, .null), (.iconst 0, .int 0), (.istore 4, .null)] = true := by decide +kernel
theorem kX10_share_0_4 : decB cX10_share 8 [(.iconst (-1), .int (-1))] = true := by decide +kernel
theorem kX10_share_20_0 : decB cX10_share 20 [(.iload 4, .null), (.iconst 1, .int 1), (.iload_n 3, .null), (.ishl, .null)] = true := by decide +kernel
theorem kX10_share_20_1 : decB cX10_share 51 [(.iconst 0, .int 0), (.istore 4, .null), (.iconst 0, .int 0), (.istore 5, .null), (.iconst 0, .int 0), (.istore 6, .null)] = true := by decide +kernel
theorem kX10_share_20_2 : decB cX10_share 28 [(.aload_n 0, .null)] = true := by decide +kernel
theorem kX10_share_20_3 : decB cX10_share 32 [(.iload 4, .null), (.aload_n 0, .null)] = true := by decide +kernel
theorem kX10_share_20_4 : decB cX10_share 38 [(.iload 4, .null), (.iconst 0, .int 0)] = true := by decide +kernel
theorem kX10_share_20_5 : decB cX10_share 45 [(.iinc 4 1, .int 1), (.goto (-28), .retAddr 20)] = true := by decide +kernel
theorem kX10_share_60_0 : decB cX10_share 60 [(.iload 6, .null), (.iconst 5, .int 5), (.iload_n 3, .null)] = true := by decide +kernel
theorem kX10_share_60_1 : decB cX10_share 149 [(.iload 4, .null), (.iload 5, .null), (.iload_n 2, .null)] = true := by decide +kernel
theorem kX10_share_60_2 : decB cX10_share 70 [(.iload 6, .null), (.iload_n 3, .null)] = true := by decide +kernel
theorem kX10_share_60_3 : decB cX10_share 143 [(.iinc 6 1, .int 1), (.goto (-86), .retAddr 60)] = true := by decide +kernel
theorem kX10_share_60_4 : decB cX10_share 79 [(.iconst 0, .int 0), (.istore 7, .null), (.iconst 0, .int 0), (.istore 8, .null)] = true := by decide +kernel
theorem kX10_share_85_0 : decB cX10_share 85 [(.iload 6, .null), (.iload 8, .null)] = true := by decide +kernel
theorem kX10_share_85_1 : decB cX10_share 92 [(.iload_n 1, .null)] = true := by decide +kernel
theorem kX10_share_85_2 : decB cX10_share 116 [(.iload 4, .null), (.aload_n 0, .null)] = true := by decide +kernel
theorem kX10_share_85_3 : decB cX10_share 122 [(.iload 7, .null), (.iconst 1, .int 1), (.iload_n 1, .null), (.ishl, .null), (.ior, .null)] = true := by decide +kernel
theorem kX10_share_85_4 : decB cX10_share 129 [(.aload_n 0, .null)] = true := by decide +kernel
theorem kX10_share_85_5 : decB cX10_share 133 [(.iload 7, .null)] = true := by decide +kernel
theorem kX10_share_85_6 : decB cX10_share 136 [(.isub, .null), (.iadd, .null), (.istore 4, .null), (.iinc 5 1, .int 1), (.iinc 6 1, .int 1), (.goto (-86), .retAddr 60)] = true := by decide +kernel
theorem kX10_share_85_7 : decB cX10_share 96 [(.iload 7, .null), (.iconst 1, .int 1), (.iload 6, .null), (.iload 8, .null)] = true := by decide +kernel
theorem kX10_share_85_8 : decB cX10_share 106 [(.ishl, .null), (.ior, .null), (.istore 7, .null), (.iinc 8 1, .int 1), (.goto (-28), .retAddr 85)] = true := by decide +kernel
theorem dX10_share_2 : decode cX10_share 2 = .ok (.invokevirtual 185, 3) := by decide +kernel
theorem dX10_share_5 : decode cX10_share 5 = .ok (.ifCond .ne 5, 3) := by decide +kernel
theorem dX10_share_9 : decode cX10_share 9 = .ok (.ireturn, 1) := by decide +kernel
theorem dX10_share_11 : decode cX10_share 11 = .ok (.getfield 13, 3) := by decide +kernel
theorem dX10_share_15 : decode cX10_share 15 = .ok (.iaload, 1) := by decide +kernel
theorem dX10_share_25 : decode cX10_share 25 = .ok (.if_icmp .ge 26, 3) := by decide +kernel
theorem dX10_share_29 : decode cX10_share 29 = .ok (.getfield 57, 3) := by decide +kernel
theorem dX10_share_35 : decode cX10_share 35 = .ok (.getfield 13, 3) := by decide +kernel
theorem dX10_share_41 : decode cX10_share 41 = .ok (.invokestatic 278, 3) := by decide +kernel
theorem dX10_share_44 : decode cX10_share 44 = .ok (.iastore, 1) := by decide +kernel
theorem dX10_share_64 : decode cX10_share 64 = .ok (.invokestatic 154, 3) := by decide +kernel
theorem dX10_share_67 : decode cX10_share 67 = .ok (.if_icmp .ge 82, 3) := by decide +kernel
theorem dX10_share_73 : decode cX10_share 73 = .ok (.invokestatic 281, 3) := by decide +kernel
theorem dX10_share_76 : decode cX10_share 76 = .ok (.ifCond .eq 67, 3) := by decide +kernel
theorem dX10_share_89 : decode cX10_share 89 = .ok (.invokestatic 275, 3) := by decide +kernel
theorem dX10_share_93 : decode cX10_share 93 = .ok (.if_icmp .eq 23, 3) := by decide +kernel
theorem dX10_share_103 : decode cX10_share 103 = .ok (.invokestatic 275, 3) := by decide +kernel
theorem dX10_share_119 : decode cX10_share 119 = .ok (.getfield 57, 3) := by decide +kernel
theorem dX10_share_128 : decode cX10_share 128 = .ok (.iaload, 1) := by decide +kernel
theorem dX10_share_130 : decode cX10_share 130 = .ok (.getfield 57, 3) := by decide +kernel
theorem dX10_share_135 : decode cX10_share 135 = .ok (.iaload, 1) := by decide +kernel
theorem dX10_share_154 : decode cX10_share 154 = .ok (.invokestatic 284, 3) := by decide +kernel
theorem dX10_share_157 : decode cX10_share 157 = .ok (.ireturn, 1) := by decide +kernel
def bX10_share_85 (K60 : Nat → Int32 → Int32 → Int32 → Int32 → Int32 → Int32 → Hp → Option (Int32 × Hp)) (K85 : Nat → Int32 → Int32 → Int32 → Int32 → Int32 → Int32 → Int32 → Int32 → Hp → Option (Int32 × Hp)) (a0 : Nat) (a1 : Int32) (a2 : Int32) (a3 : Int32) (a4 : Int32) (a5 : Int32) (a6 : Int32) (a7 : Int32) (a8 : Int32) (H : Hp) : Option (Int32 × Hp) :=
  bd2 (FX10_squareAt a6 a8 H) fun x1 H2 =>
  if (x1 = a1 : Prop) then
    bd (gA H2 a0 9 21) fun x3 =>
    bd (aI H2 x3 0 (a7 ||| (1 <<< (a1 &&& 31)))) fun x4 =>
    bd (gA H2 a0 9 21) fun x5 =>
    bd (aI H2 x5 0 a7) fun x6 =>
    K60 a0 a1 a2 a3 (a4 + (x4 - x6)) (a5 + 1) (a6 + 1) H2
  else
    bd2 (FX10_squareAt a6 a8 H2) fun x7 H8 =>
    K85 a0 a1 a2 a3 a4 a5 a6 (a7 ||| (1 <<< (x7 &&& 31))) (a8 + 1) H8
set_option maxHeartbeats 4000000 in
set_option maxRecDepth 100000 in
theorem tbX10_share_85 {G : GG} {r : Int32} {H' : Hp} {K60 : Nat → Int32 → Int32 → Int32 → Int32 → Int32 → Int32 → Hp → Option (Int32 × Hp)} {K85 : Nat → Int32 → Int32 → Int32 → Int32 → Int32 → Int32 → Int32 → Int32 → Hp → Option (Int32 × Hp)} (hK60 : ∀ (a0 : Nat) (a1 : Int32) (a2 : Int32) (a3 : Int32) (a4 : Int32) (a5 : Int32) (a6 : Int32) (H : Hp), K60 a0 a1 a2 a3 a4 a5 a6 H = some (r, H') → Sn G (T0 G (some (.int r)) H') mX10_share 60 [some (.ref a0), some (.int a1), some (.int a2), some (.int a3), some (.int a4), some (.int a5), some (.int a6), none, none] [] H) (hK85 : ∀ (a0 : Nat) (a1 : Int32) (a2 : Int32) (a3 : Int32) (a4 : Int32) (a5 : Int32) (a6 : Int32) (a7 : Int32) (a8 : Int32) (H : Hp), K85 a0 a1 a2 a3 a4 a5 a6 a7 a8 H = some (r, H') → Sn G (T0 G (some (.int r)) H') mX10_share 85 [some (.ref a0), some (.int a1), some (.int a2), some (.int a3), some (.int a4), some (.int a5), some (.int a6), some (.int a7), some (.int a8)] [] H) {a0 : Nat} {a1 : Int32} {a2 : Int32} {a3 : Int32} {a4 : Int32} {a5 : Int32} {a6 : Int32} {a7 : Int32} {a8 : Int32} {H : Hp} (h : bX10_share_85 K60 K85 a0 a1 a2 a3 a4 a5 a6 a7 a8 H = some (r, H')) : Sn G (T0 G (some (.int r)) H') mX10_share 85 [some (.ref a0), some (.int a1), some (.int a2), some (.int a3), some (.int a4), some (.int a5), some (.int a6), some (.int a7), some (.int a8)] [] H := by
  unfold bX10_share_85 at h
  refine sn_blk _ kX10_share_85_0 (pc' := 89) (L' := [some (.ref a0), some (.int a1), some (.int a2), some (.int a3), some (.int a4), some (.int a5), some (.int a6), some (.int a7), some (.int a8)]) (st' := [.int a8, .int a6]) rfl rfl ?_
  obtain ⟨x1, H2, hx1, h⟩ := bd2_inv h
  refine sn_calls (av := [.int a6, .int a8]) (st := []) (M2 := mX10_squareAt) dX10_share_89 msX10_squareAt mlX10_275 rfl rfl rfl rfl rfl (sX10_squareAt hx1) ?_
  refine sn_blk _ kX10_share_85_1 (pc' := 93) (L' := [some (.ref a0), some (.int a1), some (.int a2), some (.int a3), some (.int a4), some (.int a5), some (.int a6), some (.int a7), some (.int a8)]) (st' := [.int a1, .int x1]) rfl rfl ?_
  refine sn_icmp_eq (tgt := 116) dX10_share_93 (by decide) (fun c => ?_) (fun c => ?_)
  · rw [if_pos c] at h
    refine sn_blk _ kX10_share_85_2 (pc' := 119) (L' := [some (.ref a0), some (.int a1), some (.int a2), some (.int a3), some (.int a4), some (.int a5), some (.int a6), some (.int a7), some (.int a8)]) (st' := [.ref a0, .int a4]) rfl rfl ?_
    obtain ⟨x3, hx3, h⟩ := bd_inv h
    refine sn_gA dX10_share_119 foX10_57 hx3 ?_
    refine sn_blk _ kX10_share_85_3 (pc' := 128) (L' := [some (.ref a0), some (.int a1), some (.int a2), some (.int a3), some (.int a4), some (.int a5), some (.int a6), some (.int a7), some (.int a8)]) (st' := [.int (a7 ||| (1 <<< (a1 &&& 31))), .ref x3, .int a4]) rfl rfl ?_
    obtain ⟨x4, hx4, h⟩ := bd_inv h
    refine sn_iald dX10_share_128 hx4 ?_
    refine sn_blk _ kX10_share_85_4 (pc' := 130) (L' := [some (.ref a0), some (.int a1), some (.int a2), some (.int a3), some (.int a4), some (.int a5), some (.int a6), some (.int a7), some (.int a8)]) (st' := [.ref a0, .int x4, .int a4]) rfl rfl ?_
    obtain ⟨x5, hx5, h⟩ := bd_inv h
    refine sn_gA dX10_share_130 foX10_57 hx5 ?_
    refine sn_blk _ kX10_share_85_5 (pc' := 135) (L' := [some (.ref a0), some (.int a1), some (.int a2), some (.int a3), some (.int a4), some (.int a5), some (.int a6), some (.int a7), some (.int a8)]) (st' := [.int a7, .ref x5, .int x4, .int a4]) rfl rfl ?_
    obtain ⟨x6, hx6, h⟩ := bd_inv h
    refine sn_iald dX10_share_135 hx6 ?_
    refine sn_blk _ kX10_share_85_6 (pc' := 60) (L' := [some (.ref a0), some (.int a1), some (.int a2), some (.int a3), some (.int (a4 + (x4 - x6))), some (.int (a5 + 1)), some (.int (a6 + 1)), some (.int a7), some (.int a8)]) (st' := []) rfl rfl ?_
    refine sn_msk [true, true, true, true, true, true, true, false, false] (L2 := [some (.ref a0), some (.int a1), some (.int a2), some (.int a3), some (.int (a4 + (x4 - x6))), some (.int (a5 + 1)), some (.int (a6 + 1)), none, none]) rfl ?_
    exact hK60 _ _ _ _ _ _ _ _ h
  · rw [if_neg c] at h
    refine sn_blk _ kX10_share_85_7 (pc' := 103) (L' := [some (.ref a0), some (.int a1), some (.int a2), some (.int a3), some (.int a4), some (.int a5), some (.int a6), some (.int a7), some (.int a8)]) (st' := [.int a8, .int a6, .int 1, .int a7]) rfl rfl ?_
    obtain ⟨x7, H8, hx7, h⟩ := bd2_inv h
    refine sn_calls (av := [.int a6, .int a8]) (st := [.int 1, .int a7]) (M2 := mX10_squareAt) dX10_share_103 msX10_squareAt mlX10_275 rfl rfl rfl rfl rfl (sX10_squareAt hx7) ?_
    refine sn_blk _ kX10_share_85_8 (pc' := 85) (L' := [some (.ref a0), some (.int a1), some (.int a2), some (.int a3), some (.int a4), some (.int a5), some (.int a6), some (.int (a7 ||| (1 <<< (x7 &&& 31)))), some (.int (a8 + 1))]) (st' := []) rfl rfl ?_
    exact hK85 _ _ _ _ _ _ _ _ _ _ h
def fX10_share_85 (K60 : Nat → Int32 → Int32 → Int32 → Int32 → Int32 → Int32 → Hp → Option (Int32 × Hp)) : Nat → Nat → Int32 → Int32 → Int32 → Int32 → Int32 → Int32 → Int32 → Int32 → Hp → Option (Int32 × Hp)
  | 0, _, _, _, _, _, _, _, _, _, _ => none
  | d + 1, a0, a1, a2, a3, a4, a5, a6, a7, a8, H => bX10_share_85 K60 (fX10_share_85 K60 d) a0 a1 a2 a3 a4 a5 a6 a7 a8 H
theorem tfX10_share_85 {G : GG} {r : Int32} {H' : Hp} {K60 : Nat → Int32 → Int32 → Int32 → Int32 → Int32 → Int32 → Hp → Option (Int32 × Hp)} (hK60 : ∀ (a0 : Nat) (a1 : Int32) (a2 : Int32) (a3 : Int32) (a4 : Int32) (a5 : Int32) (a6 : Int32) (H : Hp), K60 a0 a1 a2 a3 a4 a5 a6 H = some (r, H') → Sn G (T0 G (some (.int r)) H') mX10_share 60 [some (.ref a0), some (.int a1), some (.int a2), some (.int a3), some (.int a4), some (.int a5), some (.int a6), none, none] [] H) : ∀ (d : Nat) {a0 : Nat} {a1 : Int32} {a2 : Int32} {a3 : Int32} {a4 : Int32} {a5 : Int32} {a6 : Int32} {a7 : Int32} {a8 : Int32} {H : Hp}, fX10_share_85 K60 d a0 a1 a2 a3 a4 a5 a6 a7 a8 H = some (r, H') → Sn G (T0 G (some (.int r)) H') mX10_share 85 [some (.ref a0), some (.int a1), some (.int a2), some (.int a3), some (.int a4), some (.int a5), some (.int a6), some (.int a7), some (.int a8)] [] H := by
  intro d
  induction d with
  | zero => intro a0 a1 a2 a3 a4 a5 a6 a7 a8 H h; cases h
  | succ d ih => intro a0 a1 a2 a3 a4 a5 a6 a7 a8 H h; exact tbX10_share_85 hK60 (fun a0 a1 a2 a3 a4 a5 a6 a7 a8 H h => ih h) h
def bX10_share_60 (K60 : Nat → Int32 → Int32 → Int32 → Int32 → Int32 → Int32 → Hp → Option (Int32 × Hp)) (a0 : Nat) (a1 : Int32) (a2 : Int32) (a3 : Int32) (a4 : Int32) (a5 : Int32) (a6 : Int32) (H : Hp) : Option (Int32 × Hp) :=
  bd2 (FX10_power 5 a3 H) fun x1 H2 =>
  if (x1 ≤ a6 : Prop) then
    bd2 (FX10_fraction a4 a5 a2 H2) fun x3 H4 =>
    some (x3, H4)
  else
    bd2 (FX10_isOrder a6 a3 H2) fun x5 H6 =>
    if (x5 = 0 : Prop) then
      K60 a0 a1 a2 a3 a4 a5 (a6 + 1) H6
    else
      fX10_share_85 K60 4096 a0 a1 a2 a3 a4 a5 a6 0 0 H6
set_option maxHeartbeats 4000000 in
set_option maxRecDepth 100000 in
theorem tbX10_share_60 {G : GG} {r : Int32} {H' : Hp} {K60 : Nat → Int32 → Int32 → Int32 → Int32 → Int32 → Int32 → Hp → Option (Int32 × Hp)} (hK60 : ∀ (a0 : Nat) (a1 : Int32) (a2 : Int32) (a3 : Int32) (a4 : Int32) (a5 : Int32) (a6 : Int32) (H : Hp), K60 a0 a1 a2 a3 a4 a5 a6 H = some (r, H') → Sn G (T0 G (some (.int r)) H') mX10_share 60 [some (.ref a0), some (.int a1), some (.int a2), some (.int a3), some (.int a4), some (.int a5), some (.int a6), none, none] [] H) {a0 : Nat} {a1 : Int32} {a2 : Int32} {a3 : Int32} {a4 : Int32} {a5 : Int32} {a6 : Int32} {H : Hp} (h : bX10_share_60 K60 a0 a1 a2 a3 a4 a5 a6 H = some (r, H')) : Sn G (T0 G (some (.int r)) H') mX10_share 60 [some (.ref a0), some (.int a1), some (.int a2), some (.int a3), some (.int a4), some (.int a5), some (.int a6), none, none] [] H := by
  unfold bX10_share_60 at h
  refine sn_blk _ kX10_share_60_0 (pc' := 64) (L' := [some (.ref a0), some (.int a1), some (.int a2), some (.int a3), some (.int a4), some (.int a5), some (.int a6), none, none]) (st' := [.int a3, .int 5, .int a6]) rfl rfl ?_
  obtain ⟨x1, H2, hx1, h⟩ := bd2_inv h
  refine sn_calls (av := [.int 5, .int a3]) (st := [.int a6]) (M2 := mX10_power) dX10_share_64 msX10_power mlX10_154 rfl rfl rfl rfl rfl (sX10_power hx1) ?_
  refine sn_icmp_ge (tgt := 149) dX10_share_67 (by decide) (fun c => ?_) (fun c => ?_)
  · rw [if_pos c] at h
    refine sn_blk _ kX10_share_60_1 (pc' := 154) (L' := [some (.ref a0), some (.int a1), some (.int a2), some (.int a3), some (.int a4), some (.int a5), some (.int a6), none, none]) (st' := [.int a2, .int a5, .int a4]) rfl rfl ?_
    obtain ⟨x3, H4, hx3, h⟩ := bd2_inv h
    refine sn_calls (av := [.int a4, .int a5, .int a2]) (st := []) (M2 := mX10_fraction) dX10_share_154 msX10_fraction mlX10_284 rfl rfl rfl rfl rfl (sX10_fraction hx3) ?_
    cases h
    exact sn_iret (ty := .int) dX10_share_157 rfl rfl
  · rw [if_neg c] at h
    refine sn_blk _ kX10_share_60_2 (pc' := 73) (L' := [some (.ref a0), some (.int a1), some (.int a2), some (.int a3), some (.int a4), some (.int a5), some (.int a6), none, none]) (st' := [.int a3, .int a6]) rfl rfl ?_
    obtain ⟨x5, H6, hx5, h⟩ := bd2_inv h
    refine sn_calls (av := [.int a6, .int a3]) (st := []) (M2 := mX10_isOrder) dX10_share_73 msX10_isOrder mlX10_281 rfl rfl rfl rfl rfl (sX10_isOrder hx5) ?_
    refine sn_if_eq (tgt := 143) dX10_share_76 (by decide) (fun c => ?_) (fun c => ?_)
    · rw [if_pos c] at h
      refine sn_blk _ kX10_share_60_3 (pc' := 60) (L' := [some (.ref a0), some (.int a1), some (.int a2), some (.int a3), some (.int a4), some (.int a5), some (.int (a6 + 1)), none, none]) (st' := []) rfl rfl ?_
      exact hK60 _ _ _ _ _ _ _ _ h
    · rw [if_neg c] at h
      refine sn_blk _ kX10_share_60_4 (pc' := 85) (L' := [some (.ref a0), some (.int a1), some (.int a2), some (.int a3), some (.int a4), some (.int a5), some (.int a6), some (.int 0), some (.int 0)]) (st' := []) rfl rfl ?_
      exact tfX10_share_85 hK60 4096 h
def fX10_share_60  : Nat → Nat → Int32 → Int32 → Int32 → Int32 → Int32 → Int32 → Hp → Option (Int32 × Hp)
  | 0, _, _, _, _, _, _, _, _ => none
  | d + 1, a0, a1, a2, a3, a4, a5, a6, H => bX10_share_60 (fX10_share_60  d) a0 a1 a2 a3 a4 a5 a6 H
theorem tfX10_share_60 {G : GG} {r : Int32} {H' : Hp}   : ∀ (d : Nat) {a0 : Nat} {a1 : Int32} {a2 : Int32} {a3 : Int32} {a4 : Int32} {a5 : Int32} {a6 : Int32} {H : Hp}, fX10_share_60  d a0 a1 a2 a3 a4 a5 a6 H = some (r, H') → Sn G (T0 G (some (.int r)) H') mX10_share 60 [some (.ref a0), some (.int a1), some (.int a2), some (.int a3), some (.int a4), some (.int a5), some (.int a6), none, none] [] H := by
  intro d
  induction d with
  | zero => intro a0 a1 a2 a3 a4 a5 a6 H h; cases h
  | succ d ih => intro a0 a1 a2 a3 a4 a5 a6 H h; exact tbX10_share_60 (fun a0 a1 a2 a3 a4 a5 a6 H h => ih h) h
def bX10_share_20 (K20 : Nat → Int32 → Int32 → Int32 → Int32 → Hp → Option (Int32 × Hp)) (a0 : Nat) (a1 : Int32) (a2 : Int32) (a3 : Int32) (a4 : Int32) (H : Hp) : Option (Int32 × Hp) :=
  if ((1 <<< (a3 &&& 31)) ≤ a4 : Prop) then
    fX10_share_60  4096 a0 a1 a2 a3 0 0 0 H
  else
    bd (gA H a0 9 21) fun x1 =>
    bd (gA H a0 9 2) fun x2 =>
    bd2 (FX10_fallen x2 a4 0 H) fun x3 H4 =>
    bd (sI H4 x1 0 a4 x3) fun H5 =>
    K20 a0 a1 a2 a3 (a4 + 1) H5
set_option maxHeartbeats 4000000 in
set_option maxRecDepth 100000 in
theorem tbX10_share_20 {G : GG} {r : Int32} {H' : Hp} {K20 : Nat → Int32 → Int32 → Int32 → Int32 → Hp → Option (Int32 × Hp)} (hK20 : ∀ (a0 : Nat) (a1 : Int32) (a2 : Int32) (a3 : Int32) (a4 : Int32) (H : Hp), K20 a0 a1 a2 a3 a4 H = some (r, H') → Sn G (T0 G (some (.int r)) H') mX10_share 20 [some (.ref a0), some (.int a1), some (.int a2), some (.int a3), some (.int a4), none, none, none, none] [] H) {a0 : Nat} {a1 : Int32} {a2 : Int32} {a3 : Int32} {a4 : Int32} {H : Hp} (h : bX10_share_20 K20 a0 a1 a2 a3 a4 H = some (r, H')) : Sn G (T0 G (some (.int r)) H') mX10_share 20 [some (.ref a0), some (.int a1), some (.int a2), some (.int a3), some (.int a4), none, none, none, none] [] H := by
  unfold bX10_share_20 at h
  refine sn_blk _ kX10_share_20_0 (pc' := 25) (L' := [some (.ref a0), some (.int a1), some (.int a2), some (.int a3), some (.int a4), none, none, none, none]) (st' := [.int (1 <<< (a3 &&& 31)), .int a4]) rfl rfl ?_
  refine sn_icmp_ge (tgt := 51) dX10_share_25 (by decide) (fun c => ?_) (fun c => ?_)
  · rw [if_pos c] at h
    refine sn_blk _ kX10_share_20_1 (pc' := 60) (L' := [some (.ref a0), some (.int a1), some (.int a2), some (.int a3), some (.int 0), some (.int 0), some (.int 0), none, none]) (st' := []) rfl rfl ?_
    exact tfX10_share_60  4096 h
  · rw [if_neg c] at h
    refine sn_blk _ kX10_share_20_2 (pc' := 29) (L' := [some (.ref a0), some (.int a1), some (.int a2), some (.int a3), some (.int a4), none, none, none, none]) (st' := [.ref a0]) rfl rfl ?_
    obtain ⟨x1, hx1, h⟩ := bd_inv h
    refine sn_gA dX10_share_29 foX10_57 hx1 ?_
    refine sn_blk _ kX10_share_20_3 (pc' := 35) (L' := [some (.ref a0), some (.int a1), some (.int a2), some (.int a3), some (.int a4), none, none, none, none]) (st' := [.ref a0, .int a4, .ref x1]) rfl rfl ?_
    obtain ⟨x2, hx2, h⟩ := bd_inv h
    refine sn_gA dX10_share_35 foX10_13 hx2 ?_
    refine sn_blk _ kX10_share_20_4 (pc' := 41) (L' := [some (.ref a0), some (.int a1), some (.int a2), some (.int a3), some (.int a4), none, none, none, none]) (st' := [.int 0, .int a4, .ref x2, .int a4, .ref x1]) rfl rfl ?_
    obtain ⟨x3, H4, hx3, h⟩ := bd2_inv h
    refine sn_calls (av := [.ref x2, .int a4, .int 0]) (st := [.int a4, .ref x1]) (M2 := mX10_fallen) dX10_share_41 msX10_fallen mlX10_278 rfl rfl rfl rfl rfl (sX10_fallen hx3) ?_
    obtain ⟨H5, hH5, h⟩ := bd_inv h
    refine sn_iast dX10_share_44 hH5 ?_
    refine sn_blk _ kX10_share_20_5 (pc' := 20) (L' := [some (.ref a0), some (.int a1), some (.int a2), some (.int a3), some (.int (a4 + 1)), none, none, none, none]) (st' := []) rfl rfl ?_
    exact hK20 _ _ _ _ _ _ h
def fX10_share_20  : Nat → Nat → Int32 → Int32 → Int32 → Int32 → Hp → Option (Int32 × Hp)
  | 0, _, _, _, _, _, _ => none
  | d + 1, a0, a1, a2, a3, a4, H => bX10_share_20 (fX10_share_20  d) a0 a1 a2 a3 a4 H
theorem tfX10_share_20 {G : GG} {r : Int32} {H' : Hp}   : ∀ (d : Nat) {a0 : Nat} {a1 : Int32} {a2 : Int32} {a3 : Int32} {a4 : Int32} {H : Hp}, fX10_share_20  d a0 a1 a2 a3 a4 H = some (r, H') → Sn G (T0 G (some (.int r)) H') mX10_share 20 [some (.ref a0), some (.int a1), some (.int a2), some (.int a3), some (.int a4), none, none, none, none] [] H := by
  intro d
  induction d with
  | zero => intro a0 a1 a2 a3 a4 H h; cases h
  | succ d ih => intro a0 a1 a2 a3 a4 H h; exact tbX10_share_20 (fun a0 a1 a2 a3 a4 H h => ih h) h
def FX10_share  (a0 : Nat) (a1 : Int32) (a2 : Int32) (H : Hp) : Option (Int32 × Hp) :=
  gp (isO H a0 9 = true) (
    bd2 (FX10_isSquare a0 a1 H) fun x1 H2 =>
    if (x1 = 0 : Prop) then
      some ((-1), H2)
    else
      bd (gA H2 a0 9 2) fun x3 =>
      bd (aI H2 x3 0 0) fun x4 =>
      fX10_share_20  4096 a0 a1 a2 x4 0 H2
    )
set_option maxHeartbeats 4000000 in
set_option maxRecDepth 100000 in
theorem tFX10_share {G : GG} {r : Int32} {H' : Hp}   {a0 : Nat} {a1 : Int32} {a2 : Int32} {H : Hp} (h : FX10_share  a0 a1 a2 H = some (r, H')) : Sn G (T0 G (some (.int r)) H') mX10_share 0 [some (.ref a0), some (.int a1), some (.int a2), none, none, none, none, none, none] [] H := by
  unfold FX10_share at h
  refine sn_blk _ kX10_share_0_0 (pc' := 2) (L' := [some (.ref a0), some (.int a1), some (.int a2), none, none, none, none, none, none]) (st' := [.int a1, .ref a0]) rfl rfl ?_
  obtain ⟨ho, h⟩ := gp_inv h
  obtain ⟨fs, ho⟩ := isO_inv ho
  obtain ⟨x1, H2, hx1, h⟩ := bd2_inv h
  refine sn_callv (av := [.int a1]) (st := []) (M2 := mX10_isSquare) dX10_share_2 msX10_isSquare mlX10_185 rfl rfl rfl rfl rfl ho (sX10_isSquare hx1) ?_
  refine sn_if_ne (tgt := 10) dX10_share_5 (by decide) (fun c => ?_) (fun c => ?_)
  · rw [if_neg c] at h
    refine sn_blk _ kX10_share_0_1 (pc' := 11) (L' := [some (.ref a0), some (.int a1), some (.int a2), none, none, none, none, none, none]) (st' := [.ref a0]) rfl rfl ?_
    obtain ⟨x3, hx3, h⟩ := bd_inv h
    refine sn_gA dX10_share_11 foX10_13 hx3 ?_
    refine sn_blk _ kX10_share_0_2 (pc' := 15) (L' := [some (.ref a0), some (.int a1), some (.int a2), none, none, none, none, none, none]) (st' := [.int 0, .ref x3]) rfl rfl ?_
    obtain ⟨x4, hx4, h⟩ := bd_inv h
    refine sn_iald dX10_share_15 hx4 ?_
    refine sn_blk _ kX10_share_0_3 (pc' := 20) (L' := [some (.ref a0), some (.int a1), some (.int a2), some (.int x4), some (.int 0), none, none, none, none]) (st' := []) rfl rfl ?_
    exact tfX10_share_20  4096 h
  · rw [if_pos c] at h
    refine sn_blk _ kX10_share_0_4 (pc' := 9) (L' := [some (.ref a0), some (.int a1), some (.int a2), none, none, none, none, none, none]) (st' := [.int (-1)]) rfl rfl ?_
    cases h
    exact sn_iret (ty := .int) dX10_share_9 rfl rfl
theorem sX10_share {G : GG} {r : Int32} {H' : Hp} {a0 : Nat} {a1 : Int32} {a2 : Int32} {H : Hp} (h : FX10_share a0 a1 a2 H = some (r, H')) : SM G mX10_share [.ref a0, .int a1, .int a2] H (some (.int r)) H' := tFX10_share h
/-! SquareFoldsModel.see(II)I -/
theorem kX10_see_0_0 : decB cX10_see 0 [(.iload_n 1, .null)] = true := by decide +kernel
theorem kX10_see_0_1 : decB cX10_see 17 [(.bipush (-2), .int (-2))] = true := by decide +kernel
theorem kX10_see_0_2 : decB cX10_see 7 [(.iload_n 2, .null), (.i2l, .null), (.lconst 0, .long 0), (.lconst 1, .long 1)] = true := by decide +kernel
theorem kX10_see_0_3 : decB cX10_see 20 [(.aload_n 0, .null)] = true := by decide +kernel
theorem kX10_see_0_4 : decB cX10_see 24 [(.bipush 6, .int 6)] = true := by decide +kernel
theorem kX10_see_0_5 : decB cX10_see 32 [(.aload_n 0, .null)] = true := by decide +kernel
theorem kX10_see_0_6 : decB cX10_see 36 [(.aload_n 0, .null)] = true := by decide +kernel
theorem kX10_see_0_7 : decB cX10_see 40 [(.iload_n 1, .null)] = true := by decide +kernel
theorem kX10_see_0_8 : decB cX10_see 42 [(.aload_n 0, .null)] = true := by decide +kernel
theorem kX10_see_0_9 : decB cX10_see 46 [(.aload_n 0, .null)] = true := by decide +kernel
theorem kX10_see_0_10 : decB cX10_see 50 [(.iload_n 2, .null)] = true := by decide +kernel
theorem kX10_see_0_11 : decB cX10_see 52 [(.aload_n 0, .null), (.dup, .null)] = true := by decide +kernel
theorem kX10_see_0_12 : decB cX10_see 57 [(.iconst 1, .int 1), (.iadd, .null)] = true := by decide +kernel
theorem kX10_see_0_13 : decB cX10_see 62 [(.aload_n 0, .null)] = true := by decide +kernel
theorem kX10_see_0_14 : decB cX10_see 29 [(.bipush (-4), .int (-4))] = true := by decide +kernel
theorem kX10_see_0_15 : decB cX10_see 17 [(.bipush (-2), .int (-2))] = true := by decide +kernel
theorem dX10_see_1 : decode cX10_see 1 = .ok (.invokestatic 192, 3) := by decide +kernel
theorem dX10_see_4 : decode cX10_see 4 = .ok (.ifCond .eq 13, 3) := by decide +kernel
theorem dX10_see_11 : decode cX10_see 11 = .ok (.invokestatic 127, 3) := by decide +kernel
theorem dX10_see_14 : decode cX10_see 14 = .ok (.ifCond .ne 6, 3) := by decide +kernel
theorem dX10_see_19 : decode cX10_see 19 = .ok (.ireturn, 1) := by decide +kernel
theorem dX10_see_21 : decode cX10_see 21 = .ok (.getfield 182, 3) := by decide +kernel
theorem dX10_see_26 : decode cX10_see 26 = .ok (.if_icmp .ne 6, 3) := by decide +kernel
theorem dX10_see_31 : decode cX10_see 31 = .ok (.ireturn, 1) := by decide +kernel
theorem dX10_see_33 : decode cX10_see 33 = .ok (.getfield 35, 3) := by decide +kernel
theorem dX10_see_37 : decode cX10_see 37 = .ok (.getfield 182, 3) := by decide +kernel
theorem dX10_see_41 : decode cX10_see 41 = .ok (.iastore, 1) := by decide +kernel
theorem dX10_see_43 : decode cX10_see 43 = .ok (.getfield 38, 3) := by decide +kernel
theorem dX10_see_47 : decode cX10_see 47 = .ok (.getfield 182, 3) := by decide +kernel
theorem dX10_see_51 : decode cX10_see 51 = .ok (.iastore, 1) := by decide +kernel
theorem dX10_see_54 : decode cX10_see 54 = .ok (.getfield 182, 3) := by decide +kernel
theorem dX10_see_59 : decode cX10_see 59 = .ok (.putfield 182, 3) := by decide +kernel
theorem dX10_see_63 : decode cX10_see 63 = .ok (.getfield 182, 3) := by decide +kernel
theorem dX10_see_66 : decode cX10_see 66 = .ok (.ireturn, 1) := by decide +kernel
def FX10_see  (a0 : Nat) (a1 : Int32) (a2 : Int32) (H : Hp) : Option (Int32 × Hp) :=
  bd2 (FX10_isWay a1 H) fun x1 H2 =>
  if (x1 = 0 : Prop) then
    some ((-2), H2)
  else
    bd2 (FX10_in (Int32.toInt64 a2) 0 1 H2) fun x3 H4 =>
    if (x3 = 0 : Prop) then
      some ((-2), H4)
    else
      bd (gI H4 a0 9 13) fun x5 =>
      if (x5 = 6 : Prop) then
        some ((-4), H4)
      else
        bd (gA H4 a0 9 11) fun x6 =>
        bd (gI H4 a0 9 13) fun x7 =>
        bd (sI H4 x6 0 x7 a1) fun H8 =>
        bd (gA H8 a0 9 12) fun x9 =>
        bd (gI H8 a0 9 13) fun x10 =>
        bd (sI H8 x9 0 x10 a2) fun H11 =>
        bd (gI H11 a0 9 13) fun x12 =>
        bd (pV H11 a0 9 13 (.int (x12 + 1))) fun H13 =>
        bd (gI H13 a0 9 13) fun x14 =>
        some (x14, H13)
set_option maxHeartbeats 4000000 in
set_option maxRecDepth 100000 in
theorem tFX10_see {G : GG} {r : Int32} {H' : Hp}   {a0 : Nat} {a1 : Int32} {a2 : Int32} {H : Hp} (h : FX10_see  a0 a1 a2 H = some (r, H')) : Sn G (T0 G (some (.int r)) H') mX10_see 0 [some (.ref a0), some (.int a1), some (.int a2)] [] H := by
  unfold FX10_see at h
  refine sn_blk _ kX10_see_0_0 (pc' := 1) (L' := [some (.ref a0), some (.int a1), some (.int a2)]) (st' := [.int a1]) rfl rfl ?_
  obtain ⟨x1, H2, hx1, h⟩ := bd2_inv h
  refine sn_calls (av := [.int a1]) (st := []) (M2 := mX10_isWay) dX10_see_1 msX10_isWay mlX10_192 rfl rfl rfl rfl rfl (sX10_isWay hx1) ?_
  refine sn_if_eq (tgt := 17) dX10_see_4 (by decide) (fun c => ?_) (fun c => ?_)
  · rw [if_pos c] at h
    refine sn_blk _ kX10_see_0_1 (pc' := 19) (L' := [some (.ref a0), some (.int a1), some (.int a2)]) (st' := [.int (-2)]) rfl rfl ?_
    cases h
    exact sn_iret (ty := .int) dX10_see_19 rfl rfl
  · rw [if_neg c] at h
    refine sn_blk _ kX10_see_0_2 (pc' := 11) (L' := [some (.ref a0), some (.int a1), some (.int a2)]) (st' := [.long 1, .long 0, .long (Int32.toInt64 a2)]) rfl rfl ?_
    obtain ⟨x3, H4, hx3, h⟩ := bd2_inv h
    refine sn_calls (av := [.long (Int32.toInt64 a2), .long 0, .long 1]) (st := []) (M2 := mX10_in) dX10_see_11 msX10_in mlX10_127 rfl rfl rfl rfl rfl (sX10_in hx3) ?_
    refine sn_if_ne (tgt := 20) dX10_see_14 (by decide) (fun c => ?_) (fun c => ?_)
    · rw [if_neg c] at h
      refine sn_blk _ kX10_see_0_3 (pc' := 21) (L' := [some (.ref a0), some (.int a1), some (.int a2)]) (st' := [.ref a0]) rfl rfl ?_
      obtain ⟨x5, hx5, h⟩ := bd_inv h
      refine sn_gI dX10_see_21 foX10_182 hx5 ?_
      refine sn_blk _ kX10_see_0_4 (pc' := 26) (L' := [some (.ref a0), some (.int a1), some (.int a2)]) (st' := [.int 6, .int x5]) rfl rfl ?_
      refine sn_icmp_ne (tgt := 32) dX10_see_26 (by decide) (fun c => ?_) (fun c => ?_)
      · rw [if_neg c] at h
        refine sn_blk _ kX10_see_0_5 (pc' := 33) (L' := [some (.ref a0), some (.int a1), some (.int a2)]) (st' := [.ref a0]) rfl rfl ?_
        obtain ⟨x6, hx6, h⟩ := bd_inv h
        refine sn_gA dX10_see_33 foX10_35 hx6 ?_
        refine sn_blk _ kX10_see_0_6 (pc' := 37) (L' := [some (.ref a0), some (.int a1), some (.int a2)]) (st' := [.ref a0, .ref x6]) rfl rfl ?_
        obtain ⟨x7, hx7, h⟩ := bd_inv h
        refine sn_gI dX10_see_37 foX10_182 hx7 ?_
        refine sn_blk _ kX10_see_0_7 (pc' := 41) (L' := [some (.ref a0), some (.int a1), some (.int a2)]) (st' := [.int a1, .int x7, .ref x6]) rfl rfl ?_
        obtain ⟨H8, hH8, h⟩ := bd_inv h
        refine sn_iast dX10_see_41 hH8 ?_
        refine sn_blk _ kX10_see_0_8 (pc' := 43) (L' := [some (.ref a0), some (.int a1), some (.int a2)]) (st' := [.ref a0]) rfl rfl ?_
        obtain ⟨x9, hx9, h⟩ := bd_inv h
        refine sn_gA dX10_see_43 foX10_38 hx9 ?_
        refine sn_blk _ kX10_see_0_9 (pc' := 47) (L' := [some (.ref a0), some (.int a1), some (.int a2)]) (st' := [.ref a0, .ref x9]) rfl rfl ?_
        obtain ⟨x10, hx10, h⟩ := bd_inv h
        refine sn_gI dX10_see_47 foX10_182 hx10 ?_
        refine sn_blk _ kX10_see_0_10 (pc' := 51) (L' := [some (.ref a0), some (.int a1), some (.int a2)]) (st' := [.int a2, .int x10, .ref x9]) rfl rfl ?_
        obtain ⟨H11, hH11, h⟩ := bd_inv h
        refine sn_iast dX10_see_51 hH11 ?_
        refine sn_blk _ kX10_see_0_11 (pc' := 54) (L' := [some (.ref a0), some (.int a1), some (.int a2)]) (st' := [.ref a0, .ref a0]) rfl rfl ?_
        obtain ⟨x12, hx12, h⟩ := bd_inv h
        refine sn_gI dX10_see_54 foX10_182 hx12 ?_
        refine sn_blk _ kX10_see_0_12 (pc' := 59) (L' := [some (.ref a0), some (.int a1), some (.int a2)]) (st' := [.int (x12 + 1), .ref a0]) rfl rfl ?_
        obtain ⟨H13, hH13, h⟩ := bd_inv h
        refine sn_pI dX10_see_59 foX10_182 fpX10_13 hH13 ?_
        refine sn_blk _ kX10_see_0_13 (pc' := 63) (L' := [some (.ref a0), some (.int a1), some (.int a2)]) (st' := [.ref a0]) rfl rfl ?_
        obtain ⟨x14, hx14, h⟩ := bd_inv h
        refine sn_gI dX10_see_63 foX10_182 hx14 ?_
        cases h
        exact sn_iret (ty := .int) dX10_see_66 rfl rfl
      · rw [if_pos c] at h
        refine sn_blk _ kX10_see_0_14 (pc' := 31) (L' := [some (.ref a0), some (.int a1), some (.int a2)]) (st' := [.int (-4)]) rfl rfl ?_
        cases h
        exact sn_iret (ty := .int) dX10_see_31 rfl rfl
    · rw [if_pos c] at h
      refine sn_blk _ kX10_see_0_15 (pc' := 19) (L' := [some (.ref a0), some (.int a1), some (.int a2)]) (st' := [.int (-2)]) rfl rfl ?_
      cases h
      exact sn_iret (ty := .int) dX10_see_19 rfl rfl
theorem sX10_see {G : GG} {r : Int32} {H' : Hp} {a0 : Nat} {a1 : Int32} {a2 : Int32} {H : Hp} (h : FX10_see a0 a1 a2 H = some (r, H')) : SM G mX10_see [.ref a0, .int a1, .int a2] H (some (.int r)) H' := tFX10_see h
/-! SquareFoldsModel.unsee()I -/
theorem kX10_unsee_0_0 : decB cX10_unsee 0 [(.aload_n 0, .null)] = true := by decide +kernel
theorem kX10_unsee_0_1 : decB cX10_unsee 4 [(.istore_n 1, .null), (.aload_n 0, .null), (.iconst 0, .int 0)] = true := by decide +kernel
theorem kX10_unsee_0_2 : decB cX10_unsee 10 [(.iload_n 1, .null)] = true := by decide +kernel
theorem dX10_unsee_1 : decode cX10_unsee 1 = .ok (.getfield 182, 3) := by decide +kernel
theorem dX10_unsee_7 : decode cX10_unsee 7 = .ok (.putfield 182, 3) := by decide +kernel
theorem dX10_unsee_11 : decode cX10_unsee 11 = .ok (.ireturn, 1) := by decide +kernel
def FX10_unsee  (a0 : Nat) (H : Hp) : Option (Int32 × Hp) :=
  bd (gI H a0 9 13) fun x1 =>
  bd (pV H a0 9 13 (.int 0)) fun H2 =>
  some (x1, H2)
set_option maxHeartbeats 4000000 in
set_option maxRecDepth 100000 in
theorem tFX10_unsee {G : GG} {r : Int32} {H' : Hp}   {a0 : Nat} {H : Hp} (h : FX10_unsee  a0 H = some (r, H')) : Sn G (T0 G (some (.int r)) H') mX10_unsee 0 [some (.ref a0), none] [] H := by
  unfold FX10_unsee at h
  refine sn_blk _ kX10_unsee_0_0 (pc' := 1) (L' := [some (.ref a0), none]) (st' := [.ref a0]) rfl rfl ?_
  obtain ⟨x1, hx1, h⟩ := bd_inv h
  refine sn_gI dX10_unsee_1 foX10_182 hx1 ?_
  refine sn_blk _ kX10_unsee_0_1 (pc' := 7) (L' := [some (.ref a0), some (.int x1)]) (st' := [.int 0, .ref a0]) rfl rfl ?_
  obtain ⟨H2, hH2, h⟩ := bd_inv h
  refine sn_pI dX10_unsee_7 foX10_182 fpX10_13 hH2 ?_
  refine sn_blk _ kX10_unsee_0_2 (pc' := 11) (L' := [some (.ref a0), some (.int x1)]) (st' := [.int x1]) rfl rfl ?_
  cases h
  exact sn_iret (ty := .int) dX10_unsee_11 rfl rfl
theorem sX10_unsee {G : GG} {r : Int32} {H' : Hp} {a0 : Nat} {H : Hp} (h : FX10_unsee a0 H = some (r, H')) : SM G mX10_unsee [.ref a0] H (some (.int r)) H' := tFX10_unsee h
/-! SquareFoldsModel.which()I -/
theorem kX10_which_0_0 : decB cX10_which 0 [(.iconst 0, .int 0), (.istore_n 1, .null), (.iconst 0, .int 0), (.istore_n 2, .null)] = true := by decide +kernel
theorem kX10_which_4_0 : decB cX10_which 4 [(.iload_n 2, .null), (.aload_n 0, .null)] = true := by decide +kernel
theorem kX10_which_4_1 : decB cX10_which 9 [(.iconst 0, .int 0)] = true := by decide +kernel
theorem kX10_which_4_2 : decB cX10_which 107 [(.iload_n 1, .null)] = true := by decide +kernel
theorem kX10_which_4_3 : decB cX10_which 14 [(.iconst 1, .int 1), (.istore_n 3, .null), (.iconst 0, .int 0), (.istore 4, .null)] = true := by decide +kernel
theorem kX10_which_19_0 : decB cX10_which 19 [(.iload 4, .null), (.aload_n 0, .null)] = true := by decide +kernel
theorem kX10_which_19_1 : decB cX10_which 87 [(.iload_n 1, .null), (.iload_n 3, .null)] = true := by decide +kernel
theorem kX10_which_19_2 : decB cX10_which 98 [(.iconst 0, .int 0), (.ior, .null), (.istore_n 1, .null), (.iinc 2 1, .int 1), (.goto (-100), .retAddr 4)] = true := by decide +kernel
theorem kX10_which_19_3 : decB cX10_which 92 [(.iconst 1, .int 1), (.iload_n 2, .null), (.ishl, .null), (.goto 4, .retAddr 99), (.ior, .null), (.istore_n 1, .null), (.iinc 2 1, .int 1), (.goto (-100), .retAddr 4)] = true := by decide +kernel
theorem kX10_which_19_4 : decB cX10_which 28 [(.iload_n 3, .null)] = true := by decide +kernel
theorem kX10_which_19_5 : decB cX10_which 79 [(.iconst 0, .int 0), (.istore_n 3, .null), (.iinc 4 1, .int 1), (.goto (-65), .retAddr 19)] = true := by decide +kernel
theorem kX10_which_19_6 : decB cX10_which 32 [(.aload_n 0, .null)] = true := by decide +kernel
theorem kX10_which_19_7 : decB cX10_which 36 [(.iload_n 2, .null), (.aload_n 0, .null)] = true := by decide +kernel
theorem kX10_which_19_8 : decB cX10_which 41 [(.iload 4, .null)] = true := by decide +kernel
theorem kX10_which_19_9 : decB cX10_which 47 [(.iload_n 2, .null)] = true := by decide +kernel
theorem kX10_which_19_10 : decB cX10_which 55 [(.iconst 0, .int 0)] = true := by decide +kernel
theorem kX10_which_19_11 : decB cX10_which 51 [(.iconst 1, .int 1), (.goto 4, .retAddr 56)] = true := by decide +kernel
theorem kX10_which_56_0 : decB cX10_which 56 [(.aload_n 0, .null)] = true := by decide +kernel
theorem kX10_which_56_1 : decB cX10_which 60 [(.iload 4, .null)] = true := by decide +kernel
theorem kX10_which_56_2 : decB cX10_which 63 [(.iconst 1, .int 1)] = true := by decide +kernel
theorem kX10_which_56_3 : decB cX10_which 71 [(.iconst 0, .int 0)] = true := by decide +kernel
theorem kX10_which_56_4 : decB cX10_which 67 [(.iconst 1, .int 1), (.goto 4, .retAddr 72)] = true := by decide +kernel
theorem kX10_which_72_0 : decB cX10_which 79 [(.iconst 0, .int 0), (.istore_n 3, .null), (.iinc 4 1, .int 1), (.goto (-65), .retAddr 19)] = true := by decide +kernel
theorem kX10_which_72_1 : decB cX10_which 75 [(.iconst 1, .int 1), (.goto 4, .retAddr 80), (.istore_n 3, .null), (.iinc 4 1, .int 1), (.goto (-65), .retAddr 19)] = true := by decide +kernel
theorem dX10_which_6 : decode cX10_which 6 = .ok (.getfield 13, 3) := by decide +kernel
theorem dX10_which_10 : decode cX10_which 10 = .ok (.iaload, 1) := by decide +kernel
theorem dX10_which_11 : decode cX10_which 11 = .ok (.if_icmp .ge 96, 3) := by decide +kernel
theorem dX10_which_22 : decode cX10_which 22 = .ok (.getfield 182, 3) := by decide +kernel
theorem dX10_which_25 : decode cX10_which 25 = .ok (.if_icmp .ge 62, 3) := by decide +kernel
theorem dX10_which_29 : decode cX10_which 29 = .ok (.ifCond .eq 50, 3) := by decide +kernel
theorem dX10_which_33 : decode cX10_which 33 = .ok (.getfield 13, 3) := by decide +kernel
theorem dX10_which_38 : decode cX10_which 38 = .ok (.getfield 35, 3) := by decide +kernel
theorem dX10_which_43 : decode cX10_which 43 = .ok (.iaload, 1) := by decide +kernel
theorem dX10_which_44 : decode cX10_which 44 = .ok (.invokestatic 195, 3) := by decide +kernel
theorem dX10_which_48 : decode cX10_which 48 = .ok (.if_icmp .ne 7, 3) := by decide +kernel
theorem dX10_which_57 : decode cX10_which 57 = .ok (.getfield 38, 3) := by decide +kernel
theorem dX10_which_62 : decode cX10_which 62 = .ok (.iaload, 1) := by decide +kernel
theorem dX10_which_64 : decode cX10_which 64 = .ok (.if_icmp .ne 7, 3) := by decide +kernel
theorem dX10_which_72 : decode cX10_which 72 = .ok (.if_icmp .ne 7, 3) := by decide +kernel
theorem dX10_which_89 : decode cX10_which 89 = .ok (.ifCond .eq 9, 3) := by decide +kernel
theorem dX10_which_108 : decode cX10_which 108 = .ok (.ireturn, 1) := by decide +kernel
def fX10_which_72 (K4 : Nat → Int32 → Int32 → Hp → Option (Int32 × Hp)) (K19 : Nat → Int32 → Int32 → Int32 → Int32 → Hp → Option (Int32 × Hp)) (a0 : Nat) (a1 : Int32) (a2 : Int32) (a4 : Int32) (s0 : Int32) (s1 : Int32) (H : Hp) : Option (Int32 × Hp) :=
  if (s0 = s1 : Prop) then
    K19 a0 a1 a2 1 (a4 + 1) H
  else
    K19 a0 a1 a2 0 (a4 + 1) H
set_option maxHeartbeats 4000000 in
set_option maxRecDepth 100000 in
theorem tfX10_which_72 {G : GG} {r : Int32} {H' : Hp} {K4 : Nat → Int32 → Int32 → Hp → Option (Int32 × Hp)} {K19 : Nat → Int32 → Int32 → Int32 → Int32 → Hp → Option (Int32 × Hp)} (hK4 : ∀ (a0 : Nat) (a1 : Int32) (a2 : Int32) (H : Hp), K4 a0 a1 a2 H = some (r, H') → Sn G (T0 G (some (.int r)) H') mX10_which 4 [some (.ref a0), some (.int a1), some (.int a2), none, none] [] H) (hK19 : ∀ (a0 : Nat) (a1 : Int32) (a2 : Int32) (a3 : Int32) (a4 : Int32) (H : Hp), K19 a0 a1 a2 a3 a4 H = some (r, H') → Sn G (T0 G (some (.int r)) H') mX10_which 19 [some (.ref a0), some (.int a1), some (.int a2), some (.int a3), some (.int a4)] [] H) {a0 : Nat} {a1 : Int32} {a2 : Int32} {a4 : Int32} {s0 : Int32} {s1 : Int32} {H : Hp} (h : fX10_which_72 K4 K19 a0 a1 a2 a4 s0 s1 H = some (r, H')) : Sn G (T0 G (some (.int r)) H') mX10_which 72 [some (.ref a0), some (.int a1), some (.int a2), none, some (.int a4)] [.int s1, .int s0] H := by
  unfold fX10_which_72 at h
  refine sn_icmp_ne (tgt := 79) dX10_which_72 (by decide) (fun c => ?_) (fun c => ?_)
  · rw [if_neg c] at h
    refine sn_blk _ kX10_which_72_0 (pc' := 19) (L' := [some (.ref a0), some (.int a1), some (.int a2), some (.int 0), some (.int (a4 + 1))]) (st' := []) rfl rfl ?_
    exact hK19 _ _ _ _ _ _ h
  · rw [if_pos c] at h
    refine sn_blk _ kX10_which_72_1 (pc' := 19) (L' := [some (.ref a0), some (.int a1), some (.int a2), some (.int 1), some (.int (a4 + 1))]) (st' := []) rfl rfl ?_
    exact hK19 _ _ _ _ _ _ h
def fX10_which_56 (K4 : Nat → Int32 → Int32 → Hp → Option (Int32 × Hp)) (K19 : Nat → Int32 → Int32 → Int32 → Int32 → Hp → Option (Int32 × Hp)) (a0 : Nat) (a1 : Int32) (a2 : Int32) (a4 : Int32) (s0 : Int32) (H : Hp) : Option (Int32 × Hp) :=
  bd (gA H a0 9 12) fun x1 =>
  bd (aI H x1 0 a4) fun x2 =>
  if (x2 = 1 : Prop) then
    fX10_which_72 K4 K19 a0 a1 a2 a4 s0 1 H
  else
    fX10_which_72 K4 K19 a0 a1 a2 a4 s0 0 H
set_option maxHeartbeats 4000000 in
set_option maxRecDepth 100000 in
theorem tfX10_which_56 {G : GG} {r : Int32} {H' : Hp} {K4 : Nat → Int32 → Int32 → Hp → Option (Int32 × Hp)} {K19 : Nat → Int32 → Int32 → Int32 → Int32 → Hp → Option (Int32 × Hp)} (hK4 : ∀ (a0 : Nat) (a1 : Int32) (a2 : Int32) (H : Hp), K4 a0 a1 a2 H = some (r, H') → Sn G (T0 G (some (.int r)) H') mX10_which 4 [some (.ref a0), some (.int a1), some (.int a2), none, none] [] H) (hK19 : ∀ (a0 : Nat) (a1 : Int32) (a2 : Int32) (a3 : Int32) (a4 : Int32) (H : Hp), K19 a0 a1 a2 a3 a4 H = some (r, H') → Sn G (T0 G (some (.int r)) H') mX10_which 19 [some (.ref a0), some (.int a1), some (.int a2), some (.int a3), some (.int a4)] [] H) {a0 : Nat} {a1 : Int32} {a2 : Int32} {a4 : Int32} {s0 : Int32} {H : Hp} (h : fX10_which_56 K4 K19 a0 a1 a2 a4 s0 H = some (r, H')) : Sn G (T0 G (some (.int r)) H') mX10_which 56 [some (.ref a0), some (.int a1), some (.int a2), none, some (.int a4)] [.int s0] H := by
  unfold fX10_which_56 at h
  refine sn_blk _ kX10_which_56_0 (pc' := 57) (L' := [some (.ref a0), some (.int a1), some (.int a2), none, some (.int a4)]) (st' := [.ref a0, .int s0]) rfl rfl ?_
  obtain ⟨x1, hx1, h⟩ := bd_inv h
  refine sn_gA dX10_which_57 foX10_38 hx1 ?_
  refine sn_blk _ kX10_which_56_1 (pc' := 62) (L' := [some (.ref a0), some (.int a1), some (.int a2), none, some (.int a4)]) (st' := [.int a4, .ref x1, .int s0]) rfl rfl ?_
  obtain ⟨x2, hx2, h⟩ := bd_inv h
  refine sn_iald dX10_which_62 hx2 ?_
  refine sn_blk _ kX10_which_56_2 (pc' := 64) (L' := [some (.ref a0), some (.int a1), some (.int a2), none, some (.int a4)]) (st' := [.int 1, .int x2, .int s0]) rfl rfl ?_
  refine sn_icmp_ne (tgt := 71) dX10_which_64 (by decide) (fun c => ?_) (fun c => ?_)
  · rw [if_neg c] at h
    refine sn_blk _ kX10_which_56_3 (pc' := 72) (L' := [some (.ref a0), some (.int a1), some (.int a2), none, some (.int a4)]) (st' := [.int 0, .int s0]) rfl rfl ?_
    exact tfX10_which_72 hK4 hK19 h
  · rw [if_pos c] at h
    refine sn_blk _ kX10_which_56_4 (pc' := 72) (L' := [some (.ref a0), some (.int a1), some (.int a2), none, some (.int a4)]) (st' := [.int 1, .int s0]) rfl rfl ?_
    exact tfX10_which_72 hK4 hK19 h
def bX10_which_19 (K4 : Nat → Int32 → Int32 → Hp → Option (Int32 × Hp)) (K19 : Nat → Int32 → Int32 → Int32 → Int32 → Hp → Option (Int32 × Hp)) (a0 : Nat) (a1 : Int32) (a2 : Int32) (a3 : Int32) (a4 : Int32) (H : Hp) : Option (Int32 × Hp) :=
  bd (gI H a0 9 13) fun x1 =>
  if (x1 ≤ a4 : Prop) then
    if (a3 = 0 : Prop) then
      K4 a0 (a1 ||| 0) (a2 + 1) H
    else
      K4 a0 (a1 ||| (1 <<< (a2 &&& 31))) (a2 + 1) H
  else
    if (a3 = 0 : Prop) then
      K19 a0 a1 a2 0 (a4 + 1) H
    else
      bd (gA H a0 9 2) fun x2 =>
      bd (gA H a0 9 11) fun x3 =>
      bd (aI H x3 0 a4) fun x4 =>
      bd2 (FX10_end x2 a2 x4 H) fun x5 H6 =>
      if (x5 = a2 : Prop) then
        fX10_which_56 K4 K19 a0 a1 a2 a4 1 H6
      else
        fX10_which_56 K4 K19 a0 a1 a2 a4 0 H6
set_option maxHeartbeats 4000000 in
set_option maxRecDepth 100000 in
theorem tbX10_which_19 {G : GG} {r : Int32} {H' : Hp} {K4 : Nat → Int32 → Int32 → Hp → Option (Int32 × Hp)} {K19 : Nat → Int32 → Int32 → Int32 → Int32 → Hp → Option (Int32 × Hp)} (hK4 : ∀ (a0 : Nat) (a1 : Int32) (a2 : Int32) (H : Hp), K4 a0 a1 a2 H = some (r, H') → Sn G (T0 G (some (.int r)) H') mX10_which 4 [some (.ref a0), some (.int a1), some (.int a2), none, none] [] H) (hK19 : ∀ (a0 : Nat) (a1 : Int32) (a2 : Int32) (a3 : Int32) (a4 : Int32) (H : Hp), K19 a0 a1 a2 a3 a4 H = some (r, H') → Sn G (T0 G (some (.int r)) H') mX10_which 19 [some (.ref a0), some (.int a1), some (.int a2), some (.int a3), some (.int a4)] [] H) {a0 : Nat} {a1 : Int32} {a2 : Int32} {a3 : Int32} {a4 : Int32} {H : Hp} (h : bX10_which_19 K4 K19 a0 a1 a2 a3 a4 H = some (r, H')) : Sn G (T0 G (some (.int r)) H') mX10_which 19 [some (.ref a0), some (.int a1), some (.int a2), some (.int a3), some (.int a4)] [] H := by
  unfold bX10_which_19 at h
  refine sn_blk _ kX10_which_19_0 (pc' := 22) (L' := [some (.ref a0), some (.int a1), some (.int a2), some (.int a3), some (.int a4)]) (st' := [.ref a0, .int a4]) rfl rfl ?_
  obtain ⟨x1, hx1, h⟩ := bd_inv h
  refine sn_gI dX10_which_22 foX10_182 hx1 ?_
  refine sn_icmp_ge (tgt := 87) dX10_which_25 (by decide) (fun c => ?_) (fun c => ?_)
  · rw [if_pos c] at h
    refine sn_blk _ kX10_which_19_1 (pc' := 89) (L' := [some (.ref a0), some (.int a1), some (.int a2), some (.int a3), some (.int a4)]) (st' := [.int a3, .int a1]) rfl rfl ?_
    refine sn_if_eq (tgt := 98) dX10_which_89 (by decide) (fun c => ?_) (fun c => ?_)
    · rw [if_pos c] at h
      refine sn_blk _ kX10_which_19_2 (pc' := 4) (L' := [some (.ref a0), some (.int (a1 ||| 0)), some (.int (a2 + 1)), some (.int a3), some (.int a4)]) (st' := []) rfl rfl ?_
      refine sn_msk [true, true, true, false, false] (L2 := [some (.ref a0), some (.int (a1 ||| 0)), some (.int (a2 + 1)), none, none]) rfl ?_
      exact hK4 _ _ _ _ h
    · rw [if_neg c] at h
      refine sn_blk _ kX10_which_19_3 (pc' := 4) (L' := [some (.ref a0), some (.int (a1 ||| (1 <<< (a2 &&& 31)))), some (.int (a2 + 1)), some (.int a3), some (.int a4)]) (st' := []) rfl rfl ?_
      refine sn_msk [true, true, true, false, false] (L2 := [some (.ref a0), some (.int (a1 ||| (1 <<< (a2 &&& 31)))), some (.int (a2 + 1)), none, none]) rfl ?_
      exact hK4 _ _ _ _ h
  · rw [if_neg c] at h
    refine sn_blk _ kX10_which_19_4 (pc' := 29) (L' := [some (.ref a0), some (.int a1), some (.int a2), some (.int a3), some (.int a4)]) (st' := [.int a3]) rfl rfl ?_
    refine sn_if_eq (tgt := 79) dX10_which_29 (by decide) (fun c => ?_) (fun c => ?_)
    · rw [if_pos c] at h
      refine sn_blk _ kX10_which_19_5 (pc' := 19) (L' := [some (.ref a0), some (.int a1), some (.int a2), some (.int 0), some (.int (a4 + 1))]) (st' := []) rfl rfl ?_
      exact hK19 _ _ _ _ _ _ h
    · rw [if_neg c] at h
      refine sn_blk _ kX10_which_19_6 (pc' := 33) (L' := [some (.ref a0), some (.int a1), some (.int a2), some (.int a3), some (.int a4)]) (st' := [.ref a0]) rfl rfl ?_
      obtain ⟨x2, hx2, h⟩ := bd_inv h
      refine sn_gA dX10_which_33 foX10_13 hx2 ?_
      refine sn_blk _ kX10_which_19_7 (pc' := 38) (L' := [some (.ref a0), some (.int a1), some (.int a2), some (.int a3), some (.int a4)]) (st' := [.ref a0, .int a2, .ref x2]) rfl rfl ?_
      obtain ⟨x3, hx3, h⟩ := bd_inv h
      refine sn_gA dX10_which_38 foX10_35 hx3 ?_
      refine sn_blk _ kX10_which_19_8 (pc' := 43) (L' := [some (.ref a0), some (.int a1), some (.int a2), some (.int a3), some (.int a4)]) (st' := [.int a4, .ref x3, .int a2, .ref x2]) rfl rfl ?_
      obtain ⟨x4, hx4, h⟩ := bd_inv h
      refine sn_iald dX10_which_43 hx4 ?_
      obtain ⟨x5, H6, hx5, h⟩ := bd2_inv h
      refine sn_calls (av := [.ref x2, .int a2, .int x4]) (st := []) (M2 := mX10_end) dX10_which_44 msX10_end mlX10_195 rfl rfl rfl rfl rfl (sX10_end hx5) ?_
      refine sn_blk _ kX10_which_19_9 (pc' := 48) (L' := [some (.ref a0), some (.int a1), some (.int a2), some (.int a3), some (.int a4)]) (st' := [.int a2, .int x5]) rfl rfl ?_
      refine sn_icmp_ne (tgt := 55) dX10_which_48 (by decide) (fun c => ?_) (fun c => ?_)
      · rw [if_neg c] at h
        refine sn_blk _ kX10_which_19_10 (pc' := 56) (L' := [some (.ref a0), some (.int a1), some (.int a2), some (.int a3), some (.int a4)]) (st' := [.int 0]) rfl rfl ?_
        refine sn_msk [true, true, true, false, true] (L2 := [some (.ref a0), some (.int a1), some (.int a2), none, some (.int a4)]) rfl ?_
        exact tfX10_which_56 hK4 hK19 h
      · rw [if_pos c] at h
        refine sn_blk _ kX10_which_19_11 (pc' := 56) (L' := [some (.ref a0), some (.int a1), some (.int a2), some (.int a3), some (.int a4)]) (st' := [.int 1]) rfl rfl ?_
        refine sn_msk [true, true, true, false, true] (L2 := [some (.ref a0), some (.int a1), some (.int a2), none, some (.int a4)]) rfl ?_
        exact tfX10_which_56 hK4 hK19 h
def fX10_which_19 (K4 : Nat → Int32 → Int32 → Hp → Option (Int32 × Hp)) : Nat → Nat → Int32 → Int32 → Int32 → Int32 → Hp → Option (Int32 × Hp)
  | 0, _, _, _, _, _, _ => none
  | d + 1, a0, a1, a2, a3, a4, H => bX10_which_19 K4 (fX10_which_19 K4 d) a0 a1 a2 a3 a4 H
theorem tfX10_which_19 {G : GG} {r : Int32} {H' : Hp} {K4 : Nat → Int32 → Int32 → Hp → Option (Int32 × Hp)} (hK4 : ∀ (a0 : Nat) (a1 : Int32) (a2 : Int32) (H : Hp), K4 a0 a1 a2 H = some (r, H') → Sn G (T0 G (some (.int r)) H') mX10_which 4 [some (.ref a0), some (.int a1), some (.int a2), none, none] [] H) : ∀ (d : Nat) {a0 : Nat} {a1 : Int32} {a2 : Int32} {a3 : Int32} {a4 : Int32} {H : Hp}, fX10_which_19 K4 d a0 a1 a2 a3 a4 H = some (r, H') → Sn G (T0 G (some (.int r)) H') mX10_which 19 [some (.ref a0), some (.int a1), some (.int a2), some (.int a3), some (.int a4)] [] H := by
  intro d
  induction d with
  | zero => intro a0 a1 a2 a3 a4 H h; cases h
  | succ d ih => intro a0 a1 a2 a3 a4 H h; exact tbX10_which_19 hK4 (fun a0 a1 a2 a3 a4 H h => ih h) h
def bX10_which_4 (K4 : Nat → Int32 → Int32 → Hp → Option (Int32 × Hp)) (a0 : Nat) (a1 : Int32) (a2 : Int32) (H : Hp) : Option (Int32 × Hp) :=
  bd (gA H a0 9 2) fun x1 =>
  bd (aI H x1 0 0) fun x2 =>
  if (x2 ≤ a2 : Prop) then
    some (a1, H)
  else
    fX10_which_19 K4 4096 a0 a1 a2 1 0 H
set_option maxHeartbeats 4000000 in
set_option maxRecDepth 100000 in
theorem tbX10_which_4 {G : GG} {r : Int32} {H' : Hp} {K4 : Nat → Int32 → Int32 → Hp → Option (Int32 × Hp)} (hK4 : ∀ (a0 : Nat) (a1 : Int32) (a2 : Int32) (H : Hp), K4 a0 a1 a2 H = some (r, H') → Sn G (T0 G (some (.int r)) H') mX10_which 4 [some (.ref a0), some (.int a1), some (.int a2), none, none] [] H) {a0 : Nat} {a1 : Int32} {a2 : Int32} {H : Hp} (h : bX10_which_4 K4 a0 a1 a2 H = some (r, H')) : Sn G (T0 G (some (.int r)) H') mX10_which 4 [some (.ref a0), some (.int a1), some (.int a2), none, none] [] H := by
  unfold bX10_which_4 at h
  refine sn_blk _ kX10_which_4_0 (pc' := 6) (L' := [some (.ref a0), some (.int a1), some (.int a2), none, none]) (st' := [.ref a0, .int a2]) rfl rfl ?_
  obtain ⟨x1, hx1, h⟩ := bd_inv h
  refine sn_gA dX10_which_6 foX10_13 hx1 ?_
  refine sn_blk _ kX10_which_4_1 (pc' := 10) (L' := [some (.ref a0), some (.int a1), some (.int a2), none, none]) (st' := [.int 0, .ref x1, .int a2]) rfl rfl ?_
  obtain ⟨x2, hx2, h⟩ := bd_inv h
  refine sn_iald dX10_which_10 hx2 ?_
  refine sn_icmp_ge (tgt := 107) dX10_which_11 (by decide) (fun c => ?_) (fun c => ?_)
  · rw [if_pos c] at h
    refine sn_blk _ kX10_which_4_2 (pc' := 108) (L' := [some (.ref a0), some (.int a1), some (.int a2), none, none]) (st' := [.int a1]) rfl rfl ?_
    cases h
    exact sn_iret (ty := .int) dX10_which_108 rfl rfl
  · rw [if_neg c] at h
    refine sn_blk _ kX10_which_4_3 (pc' := 19) (L' := [some (.ref a0), some (.int a1), some (.int a2), some (.int 1), some (.int 0)]) (st' := []) rfl rfl ?_
    exact tfX10_which_19 hK4 4096 h
def fX10_which_4  : Nat → Nat → Int32 → Int32 → Hp → Option (Int32 × Hp)
  | 0, _, _, _, _ => none
  | d + 1, a0, a1, a2, H => bX10_which_4 (fX10_which_4  d) a0 a1 a2 H
theorem tfX10_which_4 {G : GG} {r : Int32} {H' : Hp}   : ∀ (d : Nat) {a0 : Nat} {a1 : Int32} {a2 : Int32} {H : Hp}, fX10_which_4  d a0 a1 a2 H = some (r, H') → Sn G (T0 G (some (.int r)) H') mX10_which 4 [some (.ref a0), some (.int a1), some (.int a2), none, none] [] H := by
  intro d
  induction d with
  | zero => intro a0 a1 a2 H h; cases h
  | succ d ih => intro a0 a1 a2 H h; exact tbX10_which_4 (fun a0 a1 a2 H h => ih h) h
def FX10_which  (a0 : Nat) (H : Hp) : Option (Int32 × Hp) :=
  fX10_which_4  4096 a0 0 0 H
set_option maxHeartbeats 4000000 in
set_option maxRecDepth 100000 in
theorem tFX10_which {G : GG} {r : Int32} {H' : Hp}   {a0 : Nat} {H : Hp} (h : FX10_which  a0 H = some (r, H')) : Sn G (T0 G (some (.int r)) H') mX10_which 0 [some (.ref a0), none, none, none, none] [] H := by
  unfold FX10_which at h
  refine sn_blk _ kX10_which_0_0 (pc' := 4) (L' := [some (.ref a0), some (.int 0), some (.int 0), none, none]) (st' := []) rfl rfl ?_
  exact tfX10_which_4  4096 h
theorem sX10_which {G : GG} {r : Int32} {H' : Hp} {a0 : Nat} {H : Hp} (h : FX10_which a0 H = some (r, H')) : SM G mX10_which [.ref a0] H (some (.int r)) H' := tFX10_which h
/-! SquareFoldsModel.opens(IZ)I -/
theorem kX10_opens_0_0 : decB cX10_opens 0 [(.iload_n 1, .null), (.i2l, .null), (.lconst 0, .long 0)] = true := by decide +kernel
theorem kX10_opens_0_1 : decB cX10_opens 15 [(.aload_n 0, .null)] = true := by decide +kernel
theorem kX10_opens_0_2 : decB cX10_opens 19 [(.iconst 0, .int 0)] = true := by decide +kernel
theorem kX10_opens_0_3 : decB cX10_opens 21 [(.istore_n 3, .null), (.iconst 1, .int 1), (.iload_n 3, .null), (.ishl, .null), (.iconst 1, .int 1), (.isub, .null), (.istore 4, .null), (.iconst 0, .int 0), (.istore 5, .null), (.iconst 0, .int 0), (.istore 6, .null)] = true := by decide +kernel
theorem kX10_opens_0_4 : decB cX10_opens 12 [(.bipush (-2), .int (-2))] = true := by decide +kernel
theorem kX10_opens_35_0 : decB cX10_opens 35 [(.iload 6, .null), (.iload 4, .null)] = true := by decide +kernel
theorem kX10_opens_35_1 : decB cX10_opens 97 [(.iload 5, .null), (.bipush 10, .int 10), (.iload_n 3, .null)] = true := by decide +kernel
theorem kX10_opens_35_2 : decB cX10_opens 105 [(.iload_n 2, .null)] = true := by decide +kernel
theorem kX10_opens_35_3 : decB cX10_opens 42 [(.iload 6, .null)] = true := by decide +kernel
theorem kX10_opens_35_4 : decB cX10_opens 47 [(.istore 7, .null), (.iload 5, .null), (.aload_n 0, .null)] = true := by decide +kernel
theorem kX10_opens_35_5 : decB cX10_opens 55 [(.iload 4, .null), (.iload 6, .null)] = true := by decide +kernel
theorem kX10_opens_35_6 : decB cX10_opens 62 [(.iconst 1, .int 1)] = true := by decide +kernel
theorem kX10_opens_35_7 : decB cX10_opens 87 [(.iconst 0, .int 0), (.iadd, .null), (.istore 5, .null), (.iinc 6 1, .int 1), (.goto (-59), .retAddr 35)] = true := by decide +kernel
theorem kX10_opens_35_8 : decB cX10_opens 66 [(.iload_n 1, .null), (.iload 7, .null)] = true := by decide +kernel
theorem kX10_opens_35_9 : decB cX10_opens 72 [(.bipush 10, .int 10), (.iload_n 1, .null), (.isub, .null), (.iload_n 3, .null), (.iload 7, .null), (.isub, .null)] = true := by decide +kernel
theorem kX10_opens_35_10 : decB cX10_opens 83 [(.imul, .null), (.goto 4, .retAddr 88), (.iadd, .null), (.istore 5, .null), (.iinc 6 1, .int 1), (.goto (-59), .retAddr 35)] = true := by decide +kernel
theorem dX10_opens_3 : decode cX10_opens 3 = .ok (.ldc2_w 208, 3) := by decide +kernel
theorem dX10_opens_6 : decode cX10_opens 6 = .ok (.invokestatic 127, 3) := by decide +kernel
theorem dX10_opens_9 : decode cX10_opens 9 = .ok (.ifCond .ne 6, 3) := by decide +kernel
theorem dX10_opens_14 : decode cX10_opens 14 = .ok (.ireturn, 1) := by decide +kernel
theorem dX10_opens_16 : decode cX10_opens 16 = .ok (.getfield 13, 3) := by decide +kernel
theorem dX10_opens_20 : decode cX10_opens 20 = .ok (.iaload, 1) := by decide +kernel
theorem dX10_opens_39 : decode cX10_opens 39 = .ok (.if_icmp .gt 58, 3) := by decide +kernel
theorem dX10_opens_44 : decode cX10_opens 44 = .ok (.invokestatic 106, 3) := by decide +kernel
theorem dX10_opens_52 : decode cX10_opens 52 = .ok (.getfield 13, 3) := by decide +kernel
theorem dX10_opens_59 : decode cX10_opens 59 = .ok (.invokestatic 278, 3) := by decide +kernel
theorem dX10_opens_63 : decode cX10_opens 63 = .ok (.if_icmp .ne 24, 3) := by decide +kernel
theorem dX10_opens_69 : decode cX10_opens 69 = .ok (.invokestatic 154, 3) := by decide +kernel
theorem dX10_opens_80 : decode cX10_opens 80 = .ok (.invokestatic 154, 3) := by decide +kernel
theorem dX10_opens_102 : decode cX10_opens 102 = .ok (.invokestatic 154, 3) := by decide +kernel
theorem dX10_opens_106 : decode cX10_opens 106 = .ok (.invokestatic 284, 3) := by decide +kernel
theorem dX10_opens_109 : decode cX10_opens 109 = .ok (.ireturn, 1) := by decide +kernel
def bX10_opens_35 (K35 : Nat → Int32 → Int32 → Int32 → Int32 → Int32 → Int32 → Hp → Option (Int32 × Hp)) (a0 : Nat) (a1 : Int32) (a2 : Int32) (a3 : Int32) (a4 : Int32) (a5 : Int32) (a6 : Int32) (H : Hp) : Option (Int32 × Hp) :=
  if (a4 < a6 : Prop) then
    bd2 (FX10_power 10 a3 H) fun x1 H2 =>
    bd2 (FX10_fraction a5 x1 a2 H2) fun x3 H4 =>
    some (x3, H4)
  else
    bd2 (FX10_ones a6 H) fun x5 H6 =>
    bd (gA H6 a0 9 2) fun x7 =>
    bd2 (FX10_fallen x7 a4 a6 H6) fun x8 H9 =>
    if (x8 = 1 : Prop) then
      bd2 (FX10_power a1 x5 H9) fun x10 H11 =>
      bd2 (FX10_power (10 - a1) (a3 - x5) H11) fun x12 H13 =>
      K35 a0 a1 a2 a3 a4 (a5 + (x10 * x12)) (a6 + 1) H13
    else
      K35 a0 a1 a2 a3 a4 (a5 + 0) (a6 + 1) H9
set_option maxHeartbeats 4000000 in
set_option maxRecDepth 100000 in
theorem tbX10_opens_35 {G : GG} {r : Int32} {H' : Hp} {K35 : Nat → Int32 → Int32 → Int32 → Int32 → Int32 → Int32 → Hp → Option (Int32 × Hp)} (hK35 : ∀ (a0 : Nat) (a1 : Int32) (a2 : Int32) (a3 : Int32) (a4 : Int32) (a5 : Int32) (a6 : Int32) (H : Hp), K35 a0 a1 a2 a3 a4 a5 a6 H = some (r, H') → Sn G (T0 G (some (.int r)) H') mX10_opens 35 [some (.ref a0), some (.int a1), some (.int a2), some (.int a3), some (.int a4), some (.int a5), some (.int a6), none] [] H) {a0 : Nat} {a1 : Int32} {a2 : Int32} {a3 : Int32} {a4 : Int32} {a5 : Int32} {a6 : Int32} {H : Hp} (h : bX10_opens_35 K35 a0 a1 a2 a3 a4 a5 a6 H = some (r, H')) : Sn G (T0 G (some (.int r)) H') mX10_opens 35 [some (.ref a0), some (.int a1), some (.int a2), some (.int a3), some (.int a4), some (.int a5), some (.int a6), none] [] H := by
  unfold bX10_opens_35 at h
  refine sn_blk _ kX10_opens_35_0 (pc' := 39) (L' := [some (.ref a0), some (.int a1), some (.int a2), some (.int a3), some (.int a4), some (.int a5), some (.int a6), none]) (st' := [.int a4, .int a6]) rfl rfl ?_
  refine sn_icmp_gt (tgt := 97) dX10_opens_39 (by decide) (fun c => ?_) (fun c => ?_)
  · rw [if_pos c] at h
    refine sn_blk _ kX10_opens_35_1 (pc' := 102) (L' := [some (.ref a0), some (.int a1), some (.int a2), some (.int a3), some (.int a4), some (.int a5), some (.int a6), none]) (st' := [.int a3, .int 10, .int a5]) rfl rfl ?_
    obtain ⟨x1, H2, hx1, h⟩ := bd2_inv h
    refine sn_calls (av := [.int 10, .int a3]) (st := [.int a5]) (M2 := mX10_power) dX10_opens_102 msX10_power mlX10_154 rfl rfl rfl rfl rfl (sX10_power hx1) ?_
    refine sn_blk _ kX10_opens_35_2 (pc' := 106) (L' := [some (.ref a0), some (.int a1), some (.int a2), some (.int a3), some (.int a4), some (.int a5), some (.int a6), none]) (st' := [.int a2, .int x1, .int a5]) rfl rfl ?_
    obtain ⟨x3, H4, hx3, h⟩ := bd2_inv h
    refine sn_calls (av := [.int a5, .int x1, .int a2]) (st := []) (M2 := mX10_fraction) dX10_opens_106 msX10_fraction mlX10_284 rfl rfl rfl rfl rfl (sX10_fraction hx3) ?_
    cases h
    exact sn_iret (ty := .int) dX10_opens_109 rfl rfl
  · rw [if_neg c] at h
    refine sn_blk _ kX10_opens_35_3 (pc' := 44) (L' := [some (.ref a0), some (.int a1), some (.int a2), some (.int a3), some (.int a4), some (.int a5), some (.int a6), none]) (st' := [.int a6]) rfl rfl ?_
    obtain ⟨x5, H6, hx5, h⟩ := bd2_inv h
    refine sn_calls (av := [.int a6]) (st := []) (M2 := mX10_ones) dX10_opens_44 msX10_ones mlX10_106 rfl rfl rfl rfl rfl (sX10_ones hx5) ?_
    refine sn_blk _ kX10_opens_35_4 (pc' := 52) (L' := [some (.ref a0), some (.int a1), some (.int a2), some (.int a3), some (.int a4), some (.int a5), some (.int a6), some (.int x5)]) (st' := [.ref a0, .int a5]) rfl rfl ?_
    obtain ⟨x7, hx7, h⟩ := bd_inv h
    refine sn_gA dX10_opens_52 foX10_13 hx7 ?_
    refine sn_blk _ kX10_opens_35_5 (pc' := 59) (L' := [some (.ref a0), some (.int a1), some (.int a2), some (.int a3), some (.int a4), some (.int a5), some (.int a6), some (.int x5)]) (st' := [.int a6, .int a4, .ref x7, .int a5]) rfl rfl ?_
    obtain ⟨x8, H9, hx8, h⟩ := bd2_inv h
    refine sn_calls (av := [.ref x7, .int a4, .int a6]) (st := [.int a5]) (M2 := mX10_fallen) dX10_opens_59 msX10_fallen mlX10_278 rfl rfl rfl rfl rfl (sX10_fallen hx8) ?_
    refine sn_blk _ kX10_opens_35_6 (pc' := 63) (L' := [some (.ref a0), some (.int a1), some (.int a2), some (.int a3), some (.int a4), some (.int a5), some (.int a6), some (.int x5)]) (st' := [.int 1, .int x8, .int a5]) rfl rfl ?_
    refine sn_icmp_ne (tgt := 87) dX10_opens_63 (by decide) (fun c => ?_) (fun c => ?_)
    · rw [if_neg c] at h
      refine sn_blk _ kX10_opens_35_7 (pc' := 35) (L' := [some (.ref a0), some (.int a1), some (.int a2), some (.int a3), some (.int a4), some (.int (a5 + 0)), some (.int (a6 + 1)), some (.int x5)]) (st' := []) rfl rfl ?_
      refine sn_msk [true, true, true, true, true, true, true, false] (L2 := [some (.ref a0), some (.int a1), some (.int a2), some (.int a3), some (.int a4), some (.int (a5 + 0)), some (.int (a6 + 1)), none]) rfl ?_
      exact hK35 _ _ _ _ _ _ _ _ h
    · rw [if_pos c] at h
      refine sn_blk _ kX10_opens_35_8 (pc' := 69) (L' := [some (.ref a0), some (.int a1), some (.int a2), some (.int a3), some (.int a4), some (.int a5), some (.int a6), some (.int x5)]) (st' := [.int x5, .int a1, .int a5]) rfl rfl ?_
      obtain ⟨x10, H11, hx10, h⟩ := bd2_inv h
      refine sn_calls (av := [.int a1, .int x5]) (st := [.int a5]) (M2 := mX10_power) dX10_opens_69 msX10_power mlX10_154 rfl rfl rfl rfl rfl (sX10_power hx10) ?_
      refine sn_blk _ kX10_opens_35_9 (pc' := 80) (L' := [some (.ref a0), some (.int a1), some (.int a2), some (.int a3), some (.int a4), some (.int a5), some (.int a6), some (.int x5)]) (st' := [.int (a3 - x5), .int (10 - a1), .int x10, .int a5]) rfl rfl ?_
      obtain ⟨x12, H13, hx12, h⟩ := bd2_inv h
      refine sn_calls (av := [.int (10 - a1), .int (a3 - x5)]) (st := [.int x10, .int a5]) (M2 := mX10_power) dX10_opens_80 msX10_power mlX10_154 rfl rfl rfl rfl rfl (sX10_power hx12) ?_
      refine sn_blk _ kX10_opens_35_10 (pc' := 35) (L' := [some (.ref a0), some (.int a1), some (.int a2), some (.int a3), some (.int a4), some (.int (a5 + (x10 * x12))), some (.int (a6 + 1)), some (.int x5)]) (st' := []) rfl rfl ?_
      refine sn_msk [true, true, true, true, true, true, true, false] (L2 := [some (.ref a0), some (.int a1), some (.int a2), some (.int a3), some (.int a4), some (.int (a5 + (x10 * x12))), some (.int (a6 + 1)), none]) rfl ?_
      exact hK35 _ _ _ _ _ _ _ _ h
def fX10_opens_35  : Nat → Nat → Int32 → Int32 → Int32 → Int32 → Int32 → Int32 → Hp → Option (Int32 × Hp)
  | 0, _, _, _, _, _, _, _, _ => none
  | d + 1, a0, a1, a2, a3, a4, a5, a6, H => bX10_opens_35 (fX10_opens_35  d) a0 a1 a2 a3 a4 a5 a6 H
theorem tfX10_opens_35 {G : GG} {r : Int32} {H' : Hp}   : ∀ (d : Nat) {a0 : Nat} {a1 : Int32} {a2 : Int32} {a3 : Int32} {a4 : Int32} {a5 : Int32} {a6 : Int32} {H : Hp}, fX10_opens_35  d a0 a1 a2 a3 a4 a5 a6 H = some (r, H') → Sn G (T0 G (some (.int r)) H') mX10_opens 35 [some (.ref a0), some (.int a1), some (.int a2), some (.int a3), some (.int a4), some (.int a5), some (.int a6), none] [] H := by
  intro d
  induction d with
  | zero => intro a0 a1 a2 a3 a4 a5 a6 H h; cases h
  | succ d ih => intro a0 a1 a2 a3 a4 a5 a6 H h; exact tbX10_opens_35 (fun a0 a1 a2 a3 a4 a5 a6 H h => ih h) h
def FX10_opens  (a0 : Nat) (a1 : Int32) (a2 : Int32) (H : Hp) : Option (Int32 × Hp) :=
  bd2 (FX10_in (Int32.toInt64 a1) 0 10 H) fun x1 H2 =>
  if (x1 = 0 : Prop) then
    some ((-2), H2)
  else
    bd (gA H2 a0 9 2) fun x3 =>
    bd (aI H2 x3 0 0) fun x4 =>
    fX10_opens_35  4096 a0 a1 a2 x4 ((1 <<< (x4 &&& 31)) - 1) 0 0 H2
set_option maxHeartbeats 4000000 in
set_option maxRecDepth 100000 in
theorem tFX10_opens {G : GG} {r : Int32} {H' : Hp}   {a0 : Nat} {a1 : Int32} {a2 : Int32} {H : Hp} (h : FX10_opens  a0 a1 a2 H = some (r, H')) : Sn G (T0 G (some (.int r)) H') mX10_opens 0 [some (.ref a0), some (.int a1), some (.int a2), none, none, none, none, none] [] H := by
  unfold FX10_opens at h
  refine sn_blk _ kX10_opens_0_0 (pc' := 3) (L' := [some (.ref a0), some (.int a1), some (.int a2), none, none, none, none, none]) (st' := [.long 0, .long (Int32.toInt64 a1)]) rfl rfl ?_
  refine sn_ldc2 dX10_opens_3 kcX10_208 ?_
  obtain ⟨x1, H2, hx1, h⟩ := bd2_inv h
  refine sn_calls (av := [.long (Int32.toInt64 a1), .long 0, .long 10]) (st := []) (M2 := mX10_in) dX10_opens_6 msX10_in mlX10_127 rfl rfl rfl rfl rfl (sX10_in hx1) ?_
  refine sn_if_ne (tgt := 15) dX10_opens_9 (by decide) (fun c => ?_) (fun c => ?_)
  · rw [if_neg c] at h
    refine sn_blk _ kX10_opens_0_1 (pc' := 16) (L' := [some (.ref a0), some (.int a1), some (.int a2), none, none, none, none, none]) (st' := [.ref a0]) rfl rfl ?_
    obtain ⟨x3, hx3, h⟩ := bd_inv h
    refine sn_gA dX10_opens_16 foX10_13 hx3 ?_
    refine sn_blk _ kX10_opens_0_2 (pc' := 20) (L' := [some (.ref a0), some (.int a1), some (.int a2), none, none, none, none, none]) (st' := [.int 0, .ref x3]) rfl rfl ?_
    obtain ⟨x4, hx4, h⟩ := bd_inv h
    refine sn_iald dX10_opens_20 hx4 ?_
    refine sn_blk _ kX10_opens_0_3 (pc' := 35) (L' := [some (.ref a0), some (.int a1), some (.int a2), some (.int x4), some (.int ((1 <<< (x4 &&& 31)) - 1)), some (.int 0), some (.int 0), none]) (st' := []) rfl rfl ?_
    exact tfX10_opens_35  4096 h
  · rw [if_pos c] at h
    refine sn_blk _ kX10_opens_0_4 (pc' := 14) (L' := [some (.ref a0), some (.int a1), some (.int a2), none, none, none, none, none]) (st' := [.int (-2)]) rfl rfl ?_
    cases h
    exact sn_iret (ty := .int) dX10_opens_14 rfl rfl
theorem sX10_opens {G : GG} {r : Int32} {H' : Hp} {a0 : Nat} {a1 : Int32} {a2 : Int32} {H : Hp} (h : FX10_opens a0 a1 a2 H = some (r, H')) : SM G mX10_opens [.ref a0, .int a1, .int a2] H (some (.int r)) H' := tFX10_opens h
/-! SquareFoldsModel.seed(J)J -/
theorem kX10_seed_0_0 : decB cX10_seed 0 [(.aload_n 0, .null)] = true := by decide +kernel
theorem kX10_seed_0_1 : decB cX10_seed 4 [(.lstore_n 3, .null), (.aload_n 0, .null), (.lload_n 1, .null)] = true := by decide +kernel
theorem kX10_seed_0_2 : decB cX10_seed 10 [(.lload_n 3, .null)] = true := by decide +kernel
theorem dX10_seed_1 : decode cX10_seed 1 = .ok (.getfield 288, 3) := by decide +kernel
theorem dX10_seed_7 : decode cX10_seed 7 = .ok (.putfield 288, 3) := by decide +kernel
theorem dX10_seed_11 : decode cX10_seed 11 = .ok (.lreturn, 1) := by decide +kernel
def FX10_seed  (a0 : Nat) (a1 : Int64) (H : Hp) : Option (Int64 × Hp) :=
  bd (gJ H a0 9 14) fun x1 =>
  bd (pV H a0 9 14 (.long a1)) fun H2 =>
  some (x1, H2)
set_option maxHeartbeats 4000000 in
set_option maxRecDepth 100000 in
theorem tFX10_seed {G : GG} {r : Int64} {H' : Hp}   {a0 : Nat} {a1 : Int64} {H : Hp} (h : FX10_seed  a0 a1 H = some (r, H')) : Sn G (T0 G (some (.long r)) H') mX10_seed 0 [some (.ref a0), some (.long a1), none, none, none] [] H := by
  unfold FX10_seed at h
  refine sn_blk _ kX10_seed_0_0 (pc' := 1) (L' := [some (.ref a0), some (.long a1), none, none, none]) (st' := [.ref a0]) rfl rfl ?_
  obtain ⟨x1, hx1, h⟩ := bd_inv h
  refine sn_gJ dX10_seed_1 foX10_288 hx1 ?_
  refine sn_blk _ kX10_seed_0_1 (pc' := 7) (L' := [some (.ref a0), some (.long a1), none, some (.long x1), none]) (st' := [.long a1, .ref a0]) rfl rfl ?_
  obtain ⟨H2, hH2, h⟩ := bd_inv h
  refine sn_pJ dX10_seed_7 foX10_288 fpX10_14 hH2 ?_
  refine sn_blk _ kX10_seed_0_2 (pc' := 11) (L' := [some (.ref a0), some (.long a1), none, some (.long x1), none]) (st' := [.long x1]) rfl rfl ?_
  cases h
  exact sn_lret dX10_seed_11 rfl
theorem sX10_seed {G : GG} {r : Int64} {H' : Hp} {a0 : Nat} {a1 : Int64} {H : Hp} (h : FX10_seed a0 a1 H = some (r, H')) : SM G mX10_seed [.ref a0, .long a1] H (some (.long r)) H' := tFX10_seed h
/-! SquareFoldsModel.drawn(I)I -/
theorem kX10_drawn_0_0 : decB cX10_drawn 0 [(.iload_n 1, .null), (.i2l, .null), (.lconst 1, .long 1)] = true := by decide +kernel
theorem kX10_drawn_0_1 : decB cX10_drawn 15 [(.aload_n 0, .null)] = true := by decide +kernel
theorem kX10_drawn_0_2 : decB cX10_drawn 19 [(.aload_n 0, .null)] = true := by decide +kernel
theorem kX10_drawn_0_3 : decB cX10_drawn 26 [(.aload_n 0, .null)] = true := by decide +kernel
theorem kX10_drawn_0_4 : decB cX10_drawn 30 [(.iconst 0, .int 0)] = true := by decide +kernel
theorem kX10_drawn_0_5 : decB cX10_drawn 32 [(.istore_n 2, .null), (.iconst 0, .int 0), (.istore_n 3, .null), (.iconst 0, .int 0), (.istore 4, .null)] = true := by decide +kernel
theorem kX10_drawn_0_6 : decB cX10_drawn 12 [(.bipush (-2), .int (-2))] = true := by decide +kernel
theorem kX10_drawn_38_0 : decB cX10_drawn 38 [(.iload 4, .null), (.iload_n 1, .null)] = true := by decide +kernel
theorem kX10_drawn_38_1 : decB cX10_drawn 162 [(.iload_n 3, .null)] = true := by decide +kernel
theorem kX10_drawn_38_2 : decB cX10_drawn 44 [(.aload_n 0, .null), (.aload_n 0, .null)] = true := by decide +kernel
theorem kX10_drawn_38_3 : decB cX10_drawn 52 [(.lmul, .null)] = true := by decide +kernel
theorem kX10_drawn_38_4 : decB cX10_drawn 56 [(.ladd, .null)] = true := by decide +kernel
theorem kX10_drawn_38_5 : decB cX10_drawn 60 [(.aload_n 0, .null)] = true := by decide +kernel
theorem kX10_drawn_38_6 : decB cX10_drawn 64 [(.bipush 33, .int 33), (.lushr, .null), (.l2i, .null), (.istore 5, .null), (.iload 5, .null), (.bipush 8, .int 8)] = true := by decide +kernel
theorem kX10_drawn_38_7 : decB cX10_drawn 75 [(.iload_n 2, .null)] = true := by decide +kernel
theorem kX10_drawn_38_8 : decB cX10_drawn 77 [(.istore 6, .null), (.iload 5, .null), (.bipush 64, .int 64)] = true := by decide +kernel
theorem kX10_drawn_38_9 : decB cX10_drawn 84 [(.iload_n 2, .null)] = true := by decide +kernel
theorem kX10_drawn_38_10 : decB cX10_drawn 86 [(.istore 7, .null), (.iload 5, .null), (.iconst 4, .int 4)] = true := by decide +kernel
theorem kX10_drawn_38_11 : decB cX10_drawn 92 [(.iconst 3, .int 3)] = true := by decide +kernel
theorem kX10_drawn_38_12 : decB cX10_drawn 111 [(.iload 6, .null), (.iload 7, .null)] = true := by decide +kernel
theorem kX10_drawn_38_13 : decB cX10_drawn 118 [(.aload_n 0, .null), (.aload_n 0, .null)] = true := by decide +kernel
theorem kX10_drawn_38_14 : decB cX10_drawn 123 [(.iload 6, .null), (.iload 7, .null)] = true := by decide +kernel
theorem kX10_drawn_38_15 : decB cX10_drawn 96 [(.aload_n 0, .null), (.aload_n 0, .null)] = true := by decide +kernel
theorem kX10_drawn_38_16 : decB cX10_drawn 101 [(.iload 5, .null), (.iconst 4, .int 4)] = true := by decide +kernel
theorem kX10_drawn_38_17 : decB cX10_drawn 108 [(.goto 22, .retAddr 130)] = true := by decide +kernel
theorem kX10_drawn_130_0 : decB cX10_drawn 130 [(.iload_n 3, .null), (.aload_n 0, .null)] = true := by decide +kernel
theorem kX10_drawn_130_1 : decB cX10_drawn 138 [(.aload_n 0, .null)] = true := by decide +kernel
theorem kX10_drawn_130_2 : decB cX10_drawn 145 [(.iadd, .null), (.aload_n 0, .null)] = true := by decide +kernel
theorem kX10_drawn_130_3 : decB cX10_drawn 153 [(.iadd, .null), (.iadd, .null), (.istore_n 3, .null), (.iinc 4 1, .int 1), (.goto (-121), .retAddr 38)] = true := by decide +kernel
theorem dX10_drawn_3 : decode cX10_drawn 3 = .ok (.ldc2_w 292, 3) := by decide +kernel
theorem dX10_drawn_6 : decode cX10_drawn 6 = .ok (.invokestatic 127, 3) := by decide +kernel
theorem dX10_drawn_9 : decode cX10_drawn 9 = .ok (.ifCond .ne 6, 3) := by decide +kernel
theorem dX10_drawn_14 : decode cX10_drawn 14 = .ok (.ireturn, 1) := by decide +kernel
theorem dX10_drawn_16 : decode cX10_drawn 16 = .ok (.getfield 16, 3) := by decide +kernel
theorem dX10_drawn_20 : decode cX10_drawn 20 = .ok (.getfield 13, 3) := by decide +kernel
theorem dX10_drawn_23 : decode cX10_drawn 23 = .ok (.invokestatic 263, 3) := by decide +kernel
theorem dX10_drawn_27 : decode cX10_drawn 27 = .ok (.getfield 16, 3) := by decide +kernel
theorem dX10_drawn_31 : decode cX10_drawn 31 = .ok (.iaload, 1) := by decide +kernel
theorem dX10_drawn_41 : decode cX10_drawn 41 = .ok (.if_icmp .ge 121, 3) := by decide +kernel
theorem dX10_drawn_46 : decode cX10_drawn 46 = .ok (.getfield 288, 3) := by decide +kernel
theorem dX10_drawn_49 : decode cX10_drawn 49 = .ok (.ldc2_w 294, 3) := by decide +kernel
theorem dX10_drawn_53 : decode cX10_drawn 53 = .ok (.ldc2_w 296, 3) := by decide +kernel
theorem dX10_drawn_57 : decode cX10_drawn 57 = .ok (.putfield 288, 3) := by decide +kernel
theorem dX10_drawn_61 : decode cX10_drawn 61 = .ok (.getfield 288, 3) := by decide +kernel
theorem dX10_drawn_74 : decode cX10_drawn 74 = .ok (.idiv, 1) := by decide +kernel
theorem dX10_drawn_76 : decode cX10_drawn 76 = .ok (.irem, 1) := by decide +kernel
theorem dX10_drawn_83 : decode cX10_drawn 83 = .ok (.idiv, 1) := by decide +kernel
theorem dX10_drawn_85 : decode cX10_drawn 85 = .ok (.irem, 1) := by decide +kernel
theorem dX10_drawn_91 : decode cX10_drawn 91 = .ok (.irem, 1) := by decide +kernel
theorem dX10_drawn_93 : decode cX10_drawn 93 = .ok (.if_icmp .ge 18, 3) := by decide +kernel
theorem dX10_drawn_98 : decode cX10_drawn 98 = .ok (.getfield 16, 3) := by decide +kernel
theorem dX10_drawn_104 : decode cX10_drawn 104 = .ok (.irem, 1) := by decide +kernel
theorem dX10_drawn_105 : decode cX10_drawn 105 = .ok (.invokevirtual 229, 3) := by decide +kernel
theorem dX10_drawn_115 : decode cX10_drawn 115 = .ok (.if_icmp .eq 15, 3) := by decide +kernel
theorem dX10_drawn_120 : decode cX10_drawn 120 = .ok (.getfield 16, 3) := by decide +kernel
theorem dX10_drawn_127 : decode cX10_drawn 127 = .ok (.invokevirtual 233, 3) := by decide +kernel
theorem dX10_drawn_132 : decode cX10_drawn 132 = .ok (.getfield 16, 3) := by decide +kernel
theorem dX10_drawn_135 : decode cX10_drawn 135 = .ok (.invokestatic 164, 3) := by decide +kernel
theorem dX10_drawn_139 : decode cX10_drawn 139 = .ok (.getfield 16, 3) := by decide +kernel
theorem dX10_drawn_142 : decode cX10_drawn 142 = .ok (.invokestatic 173, 3) := by decide +kernel
theorem dX10_drawn_147 : decode cX10_drawn 147 = .ok (.getfield 16, 3) := by decide +kernel
theorem dX10_drawn_150 : decode cX10_drawn 150 = .ok (.invokestatic 176, 3) := by decide +kernel
theorem dX10_drawn_163 : decode cX10_drawn 163 = .ok (.ireturn, 1) := by decide +kernel
def fX10_drawn_130 (K38 : Nat → Int32 → Int32 → Int32 → Int32 → Hp → Option (Int32 × Hp)) (a0 : Nat) (a1 : Int32) (a2 : Int32) (a3 : Int32) (a4 : Int32) (H : Hp) : Option (Int32 × Hp) :=
  bd (gA H a0 9 3) fun x1 =>
  bd2 (FX10_allCorners x1 H) fun x2 H3 =>
  bd (gA H3 a0 9 3) fun x4 =>
  bd2 (FX10_rows x4 H3) fun x5 H6 =>
  bd (gA H6 a0 9 3) fun x7 =>
  bd2 (FX10_bands x7 H6) fun x8 H9 =>
  K38 a0 a1 a2 (a3 + ((x2 + x5) + x8)) (a4 + 1) H9
set_option maxHeartbeats 4000000 in
set_option maxRecDepth 100000 in
theorem tfX10_drawn_130 {G : GG} {r : Int32} {H' : Hp} {K38 : Nat → Int32 → Int32 → Int32 → Int32 → Hp → Option (Int32 × Hp)} (hK38 : ∀ (a0 : Nat) (a1 : Int32) (a2 : Int32) (a3 : Int32) (a4 : Int32) (H : Hp), K38 a0 a1 a2 a3 a4 H = some (r, H') → Sn G (T0 G (some (.int r)) H') mX10_drawn 38 [some (.ref a0), some (.int a1), some (.int a2), some (.int a3), some (.int a4), none, none, none] [] H) {a0 : Nat} {a1 : Int32} {a2 : Int32} {a3 : Int32} {a4 : Int32} {H : Hp} (h : fX10_drawn_130 K38 a0 a1 a2 a3 a4 H = some (r, H')) : Sn G (T0 G (some (.int r)) H') mX10_drawn 130 [some (.ref a0), some (.int a1), some (.int a2), some (.int a3), some (.int a4), none, none, none] [] H := by
  unfold fX10_drawn_130 at h
  refine sn_blk _ kX10_drawn_130_0 (pc' := 132) (L' := [some (.ref a0), some (.int a1), some (.int a2), some (.int a3), some (.int a4), none, none, none]) (st' := [.ref a0, .int a3]) rfl rfl ?_
  obtain ⟨x1, hx1, h⟩ := bd_inv h
  refine sn_gA dX10_drawn_132 foX10_16 hx1 ?_
  obtain ⟨x2, H3, hx2, h⟩ := bd2_inv h
  refine sn_calls (av := [.ref x1]) (st := [.int a3]) (M2 := mX10_allCorners) dX10_drawn_135 msX10_allCorners mlX10_164 rfl rfl rfl rfl rfl (sX10_allCorners hx2) ?_
  refine sn_blk _ kX10_drawn_130_1 (pc' := 139) (L' := [some (.ref a0), some (.int a1), some (.int a2), some (.int a3), some (.int a4), none, none, none]) (st' := [.ref a0, .int x2, .int a3]) rfl rfl ?_
  obtain ⟨x4, hx4, h⟩ := bd_inv h
  refine sn_gA dX10_drawn_139 foX10_16 hx4 ?_
  obtain ⟨x5, H6, hx5, h⟩ := bd2_inv h
  refine sn_calls (av := [.ref x4]) (st := [.int x2, .int a3]) (M2 := mX10_rows) dX10_drawn_142 msX10_rows mlX10_173 rfl rfl rfl rfl rfl (sX10_rows hx5) ?_
  refine sn_blk _ kX10_drawn_130_2 (pc' := 147) (L' := [some (.ref a0), some (.int a1), some (.int a2), some (.int a3), some (.int a4), none, none, none]) (st' := [.ref a0, .int (x2 + x5), .int a3]) rfl rfl ?_
  obtain ⟨x7, hx7, h⟩ := bd_inv h
  refine sn_gA dX10_drawn_147 foX10_16 hx7 ?_
  obtain ⟨x8, H9, hx8, h⟩ := bd2_inv h
  refine sn_calls (av := [.ref x7]) (st := [.int (x2 + x5), .int a3]) (M2 := mX10_bands) dX10_drawn_150 msX10_bands mlX10_176 rfl rfl rfl rfl rfl (sX10_bands hx8) ?_
  refine sn_blk _ kX10_drawn_130_3 (pc' := 38) (L' := [some (.ref a0), some (.int a1), some (.int a2), some (.int (a3 + ((x2 + x5) + x8))), some (.int (a4 + 1)), none, none, none]) (st' := []) rfl rfl ?_
  exact hK38 _ _ _ _ _ _ h
def bX10_drawn_38 (K38 : Nat → Int32 → Int32 → Int32 → Int32 → Hp → Option (Int32 × Hp)) (a0 : Nat) (a1 : Int32) (a2 : Int32) (a3 : Int32) (a4 : Int32) (H : Hp) : Option (Int32 × Hp) :=
  if (a1 ≤ a4 : Prop) then
    some (a3, H)
  else
    bd (gJ H a0 9 14) fun x1 =>
    bd (pV H a0 9 14 (.long ((x1 * 6364136223846793005) + 1442695040888963407))) fun H2 =>
    bd (gJ H2 a0 9 14) fun x3 =>
    gp (¬ a2 = 0) (
      gp (¬ a2 = 0) (
        if (3 ≤ (rI (Int64.toInt32 (lushrF x3 33)) 4) : Prop) then
          if ((rI ((Int64.toInt32 (lushrF x3 33)) / 8) a2) = (rI ((Int64.toInt32 (lushrF x3 33)) / 64) a2) : Prop) then
            fX10_drawn_130 K38 a0 a1 a2 a3 a4 H2
          else
            bd (gA H2 a0 9 3) fun x4 =>
            gp (isO H2 a0 9 = true) (
              bd2 (FX10_change a0 x4 (rI ((Int64.toInt32 (lushrF x3 33)) / 8) a2) (rI ((Int64.toInt32 (lushrF x3 33)) / 64) a2) H2) fun _ H6 =>
              fX10_drawn_130 K38 a0 a1 a2 a3 a4 H6
              )
        else
          bd (gA H2 a0 9 3) fun x7 =>
          gp (isO H2 a0 9 = true) (
            bd2 (FX10_shearOn a0 x7 (rI (Int64.toInt32 (lushrF x3 33)) 4) H2) fun _ H9 =>
            fX10_drawn_130 K38 a0 a1 a2 a3 a4 H9
            )
        )
      )
set_option maxHeartbeats 4000000 in
set_option maxRecDepth 100000 in
theorem tbX10_drawn_38 {G : GG} {r : Int32} {H' : Hp} {K38 : Nat → Int32 → Int32 → Int32 → Int32 → Hp → Option (Int32 × Hp)} (hK38 : ∀ (a0 : Nat) (a1 : Int32) (a2 : Int32) (a3 : Int32) (a4 : Int32) (H : Hp), K38 a0 a1 a2 a3 a4 H = some (r, H') → Sn G (T0 G (some (.int r)) H') mX10_drawn 38 [some (.ref a0), some (.int a1), some (.int a2), some (.int a3), some (.int a4), none, none, none] [] H) {a0 : Nat} {a1 : Int32} {a2 : Int32} {a3 : Int32} {a4 : Int32} {H : Hp} (h : bX10_drawn_38 K38 a0 a1 a2 a3 a4 H = some (r, H')) : Sn G (T0 G (some (.int r)) H') mX10_drawn 38 [some (.ref a0), some (.int a1), some (.int a2), some (.int a3), some (.int a4), none, none, none] [] H := by
  unfold bX10_drawn_38 at h
  refine sn_blk _ kX10_drawn_38_0 (pc' := 41) (L' := [some (.ref a0), some (.int a1), some (.int a2), some (.int a3), some (.int a4), none, none, none]) (st' := [.int a1, .int a4]) rfl rfl ?_
  refine sn_icmp_ge (tgt := 162) dX10_drawn_41 (by decide) (fun c => ?_) (fun c => ?_)
  · rw [if_pos c] at h
    refine sn_blk _ kX10_drawn_38_1 (pc' := 163) (L' := [some (.ref a0), some (.int a1), some (.int a2), some (.int a3), some (.int a4), none, none, none]) (st' := [.int a3]) rfl rfl ?_
    cases h
    exact sn_iret (ty := .int) dX10_drawn_163 rfl rfl
  · rw [if_neg c] at h
    refine sn_blk _ kX10_drawn_38_2 (pc' := 46) (L' := [some (.ref a0), some (.int a1), some (.int a2), some (.int a3), some (.int a4), none, none, none]) (st' := [.ref a0, .ref a0]) rfl rfl ?_
    obtain ⟨x1, hx1, h⟩ := bd_inv h
    refine sn_gJ dX10_drawn_46 foX10_288 hx1 ?_
    refine sn_ldc2 dX10_drawn_49 kcX10_294 ?_
    refine sn_blk _ kX10_drawn_38_3 (pc' := 53) (L' := [some (.ref a0), some (.int a1), some (.int a2), some (.int a3), some (.int a4), none, none, none]) (st' := [.long (x1 * 6364136223846793005), .ref a0]) rfl rfl ?_
    refine sn_ldc2 dX10_drawn_53 kcX10_296 ?_
    refine sn_blk _ kX10_drawn_38_4 (pc' := 57) (L' := [some (.ref a0), some (.int a1), some (.int a2), some (.int a3), some (.int a4), none, none, none]) (st' := [.long ((x1 * 6364136223846793005) + 1442695040888963407), .ref a0]) rfl rfl ?_
    obtain ⟨H2, hH2, h⟩ := bd_inv h
    refine sn_pJ dX10_drawn_57 foX10_288 fpX10_14 hH2 ?_
    refine sn_blk _ kX10_drawn_38_5 (pc' := 61) (L' := [some (.ref a0), some (.int a1), some (.int a2), some (.int a3), some (.int a4), none, none, none]) (st' := [.ref a0]) rfl rfl ?_
    obtain ⟨x3, hx3, h⟩ := bd_inv h
    refine sn_gJ dX10_drawn_61 foX10_288 hx3 ?_
    refine sn_blk _ kX10_drawn_38_6 (pc' := 74) (L' := [some (.ref a0), some (.int a1), some (.int a2), some (.int a3), some (.int a4), some (.int (Int64.toInt32 (lushrF x3 33))), none, none]) (st' := [.int 8, .int (Int64.toInt32 (lushrF x3 33))]) rfl rfl ?_
    refine sn_idiv dX10_drawn_74 (by decide) ?_
    refine sn_blk _ kX10_drawn_38_7 (pc' := 76) (L' := [some (.ref a0), some (.int a1), some (.int a2), some (.int a3), some (.int a4), some (.int (Int64.toInt32 (lushrF x3 33))), none, none]) (st' := [.int a2, .int ((Int64.toInt32 (lushrF x3 33)) / 8)]) rfl rfl ?_
    obtain ⟨hy, h⟩ := gp_inv h
    refine sn_irem dX10_drawn_76 hy ?_
    refine sn_blk _ kX10_drawn_38_8 (pc' := 83) (L' := [some (.ref a0), some (.int a1), some (.int a2), some (.int a3), some (.int a4), some (.int (Int64.toInt32 (lushrF x3 33))), some (.int (rI ((Int64.toInt32 (lushrF x3 33)) / 8) a2)), none]) (st' := [.int 64, .int (Int64.toInt32 (lushrF x3 33))]) rfl rfl ?_
    refine sn_idiv dX10_drawn_83 (by decide) ?_
    refine sn_blk _ kX10_drawn_38_9 (pc' := 85) (L' := [some (.ref a0), some (.int a1), some (.int a2), some (.int a3), some (.int a4), some (.int (Int64.toInt32 (lushrF x3 33))), some (.int (rI ((Int64.toInt32 (lushrF x3 33)) / 8) a2)), none]) (st' := [.int a2, .int ((Int64.toInt32 (lushrF x3 33)) / 64)]) rfl rfl ?_
    obtain ⟨hy, h⟩ := gp_inv h
    refine sn_irem dX10_drawn_85 hy ?_
    refine sn_blk _ kX10_drawn_38_10 (pc' := 91) (L' := [some (.ref a0), some (.int a1), some (.int a2), some (.int a3), some (.int a4), some (.int (Int64.toInt32 (lushrF x3 33))), some (.int (rI ((Int64.toInt32 (lushrF x3 33)) / 8) a2)), some (.int (rI ((Int64.toInt32 (lushrF x3 33)) / 64) a2))]) (st' := [.int 4, .int (Int64.toInt32 (lushrF x3 33))]) rfl rfl ?_
    refine sn_irem dX10_drawn_91 (by decide) ?_
    refine sn_blk _ kX10_drawn_38_11 (pc' := 93) (L' := [some (.ref a0), some (.int a1), some (.int a2), some (.int a3), some (.int a4), some (.int (Int64.toInt32 (lushrF x3 33))), some (.int (rI ((Int64.toInt32 (lushrF x3 33)) / 8) a2)), some (.int (rI ((Int64.toInt32 (lushrF x3 33)) / 64) a2))]) (st' := [.int 3, .int (rI (Int64.toInt32 (lushrF x3 33)) 4)]) rfl rfl ?_
    refine sn_icmp_ge (tgt := 111) dX10_drawn_93 (by decide) (fun c => ?_) (fun c => ?_)
    · rw [if_pos c] at h
      refine sn_blk _ kX10_drawn_38_12 (pc' := 115) (L' := [some (.ref a0), some (.int a1), some (.int a2), some (.int a3), some (.int a4), some (.int (Int64.toInt32 (lushrF x3 33))), some (.int (rI ((Int64.toInt32 (lushrF x3 33)) / 8) a2)), some (.int (rI ((Int64.toInt32 (lushrF x3 33)) / 64) a2))]) (st' := [.int (rI ((Int64.toInt32 (lushrF x3 33)) / 64) a2), .int (rI ((Int64.toInt32 (lushrF x3 33)) / 8) a2)]) rfl rfl ?_
      refine sn_icmp_eq (tgt := 130) dX10_drawn_115 (by decide) (fun c => ?_) (fun c => ?_)
      · rw [if_pos c] at h
        refine sn_msk [true, true, true, true, true, false, false, false] (L2 := [some (.ref a0), some (.int a1), some (.int a2), some (.int a3), some (.int a4), none, none, none]) rfl ?_
        exact tfX10_drawn_130 hK38 h
      · rw [if_neg c] at h
        refine sn_blk _ kX10_drawn_38_13 (pc' := 120) (L' := [some (.ref a0), some (.int a1), some (.int a2), some (.int a3), some (.int a4), some (.int (Int64.toInt32 (lushrF x3 33))), some (.int (rI ((Int64.toInt32 (lushrF x3 33)) / 8) a2)), some (.int (rI ((Int64.toInt32 (lushrF x3 33)) / 64) a2))]) (st' := [.ref a0, .ref a0]) rfl rfl ?_
        obtain ⟨x4, hx4, h⟩ := bd_inv h
        refine sn_gA dX10_drawn_120 foX10_16 hx4 ?_
        refine sn_blk _ kX10_drawn_38_14 (pc' := 127) (L' := [some (.ref a0), some (.int a1), some (.int a2), some (.int a3), some (.int a4), some (.int (Int64.toInt32 (lushrF x3 33))), some (.int (rI ((Int64.toInt32 (lushrF x3 33)) / 8) a2)), some (.int (rI ((Int64.toInt32 (lushrF x3 33)) / 64) a2))]) (st' := [.int (rI ((Int64.toInt32 (lushrF x3 33)) / 64) a2), .int (rI ((Int64.toInt32 (lushrF x3 33)) / 8) a2), .ref x4, .ref a0]) rfl rfl ?_
        obtain ⟨ho, h⟩ := gp_inv h
        obtain ⟨fs, ho⟩ := isO_inv ho
        obtain ⟨x5, H6, hx5, h⟩ := bd2_inv h
        refine sn_callv (av := [.ref x4, .int (rI ((Int64.toInt32 (lushrF x3 33)) / 8) a2), .int (rI ((Int64.toInt32 (lushrF x3 33)) / 64) a2)]) (st := []) (M2 := mX10_change) dX10_drawn_127 msX10_change mlX10_233 rfl rfl rfl rfl rfl ho (sX10_change hx5) ?_
        refine sn_msk [true, true, true, true, true, false, false, false] (L2 := [some (.ref a0), some (.int a1), some (.int a2), some (.int a3), some (.int a4), none, none, none]) rfl ?_
        exact tfX10_drawn_130 hK38 h
    · rw [if_neg c] at h
      refine sn_blk _ kX10_drawn_38_15 (pc' := 98) (L' := [some (.ref a0), some (.int a1), some (.int a2), some (.int a3), some (.int a4), some (.int (Int64.toInt32 (lushrF x3 33))), some (.int (rI ((Int64.toInt32 (lushrF x3 33)) / 8) a2)), some (.int (rI ((Int64.toInt32 (lushrF x3 33)) / 64) a2))]) (st' := [.ref a0, .ref a0]) rfl rfl ?_
      obtain ⟨x7, hx7, h⟩ := bd_inv h
      refine sn_gA dX10_drawn_98 foX10_16 hx7 ?_
      refine sn_blk _ kX10_drawn_38_16 (pc' := 104) (L' := [some (.ref a0), some (.int a1), some (.int a2), some (.int a3), some (.int a4), some (.int (Int64.toInt32 (lushrF x3 33))), some (.int (rI ((Int64.toInt32 (lushrF x3 33)) / 8) a2)), some (.int (rI ((Int64.toInt32 (lushrF x3 33)) / 64) a2))]) (st' := [.int 4, .int (Int64.toInt32 (lushrF x3 33)), .ref x7, .ref a0]) rfl rfl ?_
      refine sn_irem dX10_drawn_104 (by decide) ?_
      obtain ⟨ho, h⟩ := gp_inv h
      obtain ⟨fs, ho⟩ := isO_inv ho
      obtain ⟨x8, H9, hx8, h⟩ := bd2_inv h
      refine sn_callv (av := [.ref x7, .int (rI (Int64.toInt32 (lushrF x3 33)) 4)]) (st := []) (M2 := mX10_shearOn) dX10_drawn_105 msX10_shearOn mlX10_229 rfl rfl rfl rfl rfl ho (sX10_shearOn hx8) ?_
      refine sn_blk _ kX10_drawn_38_17 (pc' := 130) (L' := [some (.ref a0), some (.int a1), some (.int a2), some (.int a3), some (.int a4), some (.int (Int64.toInt32 (lushrF x3 33))), some (.int (rI ((Int64.toInt32 (lushrF x3 33)) / 8) a2)), some (.int (rI ((Int64.toInt32 (lushrF x3 33)) / 64) a2))]) (st' := []) rfl rfl ?_
      refine sn_msk [true, true, true, true, true, false, false, false] (L2 := [some (.ref a0), some (.int a1), some (.int a2), some (.int a3), some (.int a4), none, none, none]) rfl ?_
      exact tfX10_drawn_130 hK38 h
def fX10_drawn_38  : Nat → Nat → Int32 → Int32 → Int32 → Int32 → Hp → Option (Int32 × Hp)
  | 0, _, _, _, _, _, _ => none
  | d + 1, a0, a1, a2, a3, a4, H => bX10_drawn_38 (fX10_drawn_38  d) a0 a1 a2 a3 a4 H
theorem tfX10_drawn_38 {G : GG} {r : Int32} {H' : Hp}   : ∀ (d : Nat) {a0 : Nat} {a1 : Int32} {a2 : Int32} {a3 : Int32} {a4 : Int32} {H : Hp}, fX10_drawn_38  d a0 a1 a2 a3 a4 H = some (r, H') → Sn G (T0 G (some (.int r)) H') mX10_drawn 38 [some (.ref a0), some (.int a1), some (.int a2), some (.int a3), some (.int a4), none, none, none] [] H := by
  intro d
  induction d with
  | zero => intro a0 a1 a2 a3 a4 H h; cases h
  | succ d ih => intro a0 a1 a2 a3 a4 H h; exact tbX10_drawn_38 (fun a0 a1 a2 a3 a4 H h => ih h) h
def FX10_drawn  (a0 : Nat) (a1 : Int32) (H : Hp) : Option (Int32 × Hp) :=
  bd2 (FX10_in (Int32.toInt64 a1) 1 20 H) fun x1 H2 =>
  if (x1 = 0 : Prop) then
    some ((-2), H2)
  else
    bd (gA H2 a0 9 3) fun x3 =>
    bd (gA H2 a0 9 2) fun x4 =>
    bd2 (FX10_lay x3 x4 H2) fun _ H6 =>
    bd (gA H6 a0 9 3) fun x7 =>
    bd (aI H6 x7 0 0) fun x8 =>
    fX10_drawn_38  4096 a0 a1 x8 0 0 H6
set_option maxHeartbeats 4000000 in
set_option maxRecDepth 100000 in
theorem tFX10_drawn {G : GG} {r : Int32} {H' : Hp}   {a0 : Nat} {a1 : Int32} {H : Hp} (h : FX10_drawn  a0 a1 H = some (r, H')) : Sn G (T0 G (some (.int r)) H') mX10_drawn 0 [some (.ref a0), some (.int a1), none, none, none, none, none, none] [] H := by
  unfold FX10_drawn at h
  refine sn_blk _ kX10_drawn_0_0 (pc' := 3) (L' := [some (.ref a0), some (.int a1), none, none, none, none, none, none]) (st' := [.long 1, .long (Int32.toInt64 a1)]) rfl rfl ?_
  refine sn_ldc2 dX10_drawn_3 kcX10_292 ?_
  obtain ⟨x1, H2, hx1, h⟩ := bd2_inv h
  refine sn_calls (av := [.long (Int32.toInt64 a1), .long 1, .long 20]) (st := []) (M2 := mX10_in) dX10_drawn_6 msX10_in mlX10_127 rfl rfl rfl rfl rfl (sX10_in hx1) ?_
  refine sn_if_ne (tgt := 15) dX10_drawn_9 (by decide) (fun c => ?_) (fun c => ?_)
  · rw [if_neg c] at h
    refine sn_blk _ kX10_drawn_0_1 (pc' := 16) (L' := [some (.ref a0), some (.int a1), none, none, none, none, none, none]) (st' := [.ref a0]) rfl rfl ?_
    obtain ⟨x3, hx3, h⟩ := bd_inv h
    refine sn_gA dX10_drawn_16 foX10_16 hx3 ?_
    refine sn_blk _ kX10_drawn_0_2 (pc' := 20) (L' := [some (.ref a0), some (.int a1), none, none, none, none, none, none]) (st' := [.ref a0, .ref x3]) rfl rfl ?_
    obtain ⟨x4, hx4, h⟩ := bd_inv h
    refine sn_gA dX10_drawn_20 foX10_13 hx4 ?_
    obtain ⟨x5, H6, hx5, h⟩ := bd2_inv h
    refine sn_calls (av := [.ref x3, .ref x4]) (st := []) (M2 := mX10_lay) dX10_drawn_23 msX10_lay mlX10_263 rfl rfl rfl rfl rfl (sX10_lay hx5) ?_
    refine sn_blk _ kX10_drawn_0_3 (pc' := 27) (L' := [some (.ref a0), some (.int a1), none, none, none, none, none, none]) (st' := [.ref a0]) rfl rfl ?_
    obtain ⟨x7, hx7, h⟩ := bd_inv h
    refine sn_gA dX10_drawn_27 foX10_16 hx7 ?_
    refine sn_blk _ kX10_drawn_0_4 (pc' := 31) (L' := [some (.ref a0), some (.int a1), none, none, none, none, none, none]) (st' := [.int 0, .ref x7]) rfl rfl ?_
    obtain ⟨x8, hx8, h⟩ := bd_inv h
    refine sn_iald dX10_drawn_31 hx8 ?_
    refine sn_blk _ kX10_drawn_0_5 (pc' := 38) (L' := [some (.ref a0), some (.int a1), some (.int x8), some (.int 0), some (.int 0), none, none, none]) (st' := []) rfl rfl ?_
    exact tfX10_drawn_38  4096 h
  · rw [if_pos c] at h
    refine sn_blk _ kX10_drawn_0_6 (pc' := 14) (L' := [some (.ref a0), some (.int a1), none, none, none, none, none, none]) (st' := [.int (-2)]) rfl rfl ?_
    cases h
    exact sn_iret (ty := .int) dX10_drawn_14 rfl rfl
theorem sX10_drawn {G : GG} {r : Int32} {H' : Hp} {a0 : Nat} {a1 : Int32} {H : Hp} (h : FX10_drawn a0 a1 H = some (r, H')) : SM G mX10_drawn [.ref a0, .int a1] H (some (.int r)) H' := tFX10_drawn h
/-! SquareFoldsModel.keep(I)I -/
theorem kX10_keep_0_0 : decB cX10_keep 0 [(.iload_n 1, .null), (.i2l, .null), (.lconst 0, .long 0), (.lconst 1, .long 1)] = true := by decide +kernel
theorem kX10_keep_0_1 : decB cX10_keep 12 [(.aload_n 0, .null)] = true := by decide +kernel
theorem kX10_keep_0_2 : decB cX10_keep 16 [(.iload_n 1, .null), (.iconst 1, .int 1)] = true := by decide +kernel
theorem kX10_keep_0_3 : decB cX10_keep 19 [(.iconst 0, .int 0), (.istore_n 2, .null)] = true := by decide +kernel
theorem kX10_keep_0_4 : decB cX10_keep 10 [(.iconst (-1), .int (-1))] = true := by decide +kernel
theorem kX10_keep_21_0 : decB cX10_keep 21 [(.iload_n 2, .null), (.bipush 11, .int 11)] = true := by decide +kernel
theorem kX10_keep_21_1 : decB cX10_keep 50 [(.aload_n 0, .null)] = true := by decide +kernel
theorem kX10_keep_21_2 : decB cX10_keep 54 [(.iconst 0, .int 0)] = true := by decide +kernel
theorem kX10_keep_21_3 : decB cX10_keep 27 [(.aload_n 0, .null)] = true := by decide +kernel
theorem kX10_keep_21_4 : decB cX10_keep 31 [(.bipush 11, .int 11), (.iload_n 1, .null), (.imul, .null), (.iload_n 2, .null), (.iadd, .null), (.aload_n 0, .null)] = true := by decide +kernel
theorem kX10_keep_21_5 : decB cX10_keep 41 [(.iload_n 2, .null)] = true := by decide +kernel
theorem kX10_keep_21_6 : decB cX10_keep 44 [(.iinc 2 1, .int 1), (.goto (-26), .retAddr 21)] = true := by decide +kernel
theorem dX10_keep_4 : decode cX10_keep 4 = .ok (.invokestatic 127, 3) := by decide +kernel
theorem dX10_keep_7 : decode cX10_keep 7 = .ok (.ifCond .ne 5, 3) := by decide +kernel
theorem dX10_keep_11 : decode cX10_keep 11 = .ok (.ireturn, 1) := by decide +kernel
theorem dX10_keep_13 : decode cX10_keep 13 = .ok (.getfield 31, 3) := by decide +kernel
theorem dX10_keep_18 : decode cX10_keep 18 = .ok (.bastore, 1) := by decide +kernel
theorem dX10_keep_24 : decode cX10_keep 24 = .ok (.if_icmp .ge 26, 3) := by decide +kernel
theorem dX10_keep_28 : decode cX10_keep 28 = .ok (.getfield 28, 3) := by decide +kernel
theorem dX10_keep_38 : decode cX10_keep 38 = .ok (.getfield 13, 3) := by decide +kernel
theorem dX10_keep_42 : decode cX10_keep 42 = .ok (.iaload, 1) := by decide +kernel
theorem dX10_keep_43 : decode cX10_keep 43 = .ok (.iastore, 1) := by decide +kernel
theorem dX10_keep_51 : decode cX10_keep 51 = .ok (.getfield 13, 3) := by decide +kernel
theorem dX10_keep_55 : decode cX10_keep 55 = .ok (.iaload, 1) := by decide +kernel
theorem dX10_keep_56 : decode cX10_keep 56 = .ok (.ireturn, 1) := by decide +kernel
def bX10_keep_21 (K21 : Nat → Int32 → Int32 → Hp → Option (Int32 × Hp)) (a0 : Nat) (a1 : Int32) (a2 : Int32) (H : Hp) : Option (Int32 × Hp) :=
  if (11 ≤ a2 : Prop) then
    bd (gA H a0 9 2) fun x1 =>
    bd (aI H x1 0 0) fun x2 =>
    some (x2, H)
  else
    bd (gA H a0 9 9) fun x3 =>
    bd (gA H a0 9 2) fun x4 =>
    bd (aI H x4 0 a2) fun x5 =>
    bd (sI H x3 0 ((11 * a1) + a2) x5) fun H6 =>
    K21 a0 a1 (a2 + 1) H6
set_option maxHeartbeats 4000000 in
set_option maxRecDepth 100000 in
theorem tbX10_keep_21 {G : GG} {r : Int32} {H' : Hp} {K21 : Nat → Int32 → Int32 → Hp → Option (Int32 × Hp)} (hK21 : ∀ (a0 : Nat) (a1 : Int32) (a2 : Int32) (H : Hp), K21 a0 a1 a2 H = some (r, H') → Sn G (T0 G (some (.int r)) H') mX10_keep 21 [some (.ref a0), some (.int a1), some (.int a2)] [] H) {a0 : Nat} {a1 : Int32} {a2 : Int32} {H : Hp} (h : bX10_keep_21 K21 a0 a1 a2 H = some (r, H')) : Sn G (T0 G (some (.int r)) H') mX10_keep 21 [some (.ref a0), some (.int a1), some (.int a2)] [] H := by
  unfold bX10_keep_21 at h
  refine sn_blk _ kX10_keep_21_0 (pc' := 24) (L' := [some (.ref a0), some (.int a1), some (.int a2)]) (st' := [.int 11, .int a2]) rfl rfl ?_
  refine sn_icmp_ge (tgt := 50) dX10_keep_24 (by decide) (fun c => ?_) (fun c => ?_)
  · rw [if_pos c] at h
    refine sn_blk _ kX10_keep_21_1 (pc' := 51) (L' := [some (.ref a0), some (.int a1), some (.int a2)]) (st' := [.ref a0]) rfl rfl ?_
    obtain ⟨x1, hx1, h⟩ := bd_inv h
    refine sn_gA dX10_keep_51 foX10_13 hx1 ?_
    refine sn_blk _ kX10_keep_21_2 (pc' := 55) (L' := [some (.ref a0), some (.int a1), some (.int a2)]) (st' := [.int 0, .ref x1]) rfl rfl ?_
    obtain ⟨x2, hx2, h⟩ := bd_inv h
    refine sn_iald dX10_keep_55 hx2 ?_
    cases h
    exact sn_iret (ty := .int) dX10_keep_56 rfl rfl
  · rw [if_neg c] at h
    refine sn_blk _ kX10_keep_21_3 (pc' := 28) (L' := [some (.ref a0), some (.int a1), some (.int a2)]) (st' := [.ref a0]) rfl rfl ?_
    obtain ⟨x3, hx3, h⟩ := bd_inv h
    refine sn_gA dX10_keep_28 foX10_28 hx3 ?_
    refine sn_blk _ kX10_keep_21_4 (pc' := 38) (L' := [some (.ref a0), some (.int a1), some (.int a2)]) (st' := [.ref a0, .int ((11 * a1) + a2), .ref x3]) rfl rfl ?_
    obtain ⟨x4, hx4, h⟩ := bd_inv h
    refine sn_gA dX10_keep_38 foX10_13 hx4 ?_
    refine sn_blk _ kX10_keep_21_5 (pc' := 42) (L' := [some (.ref a0), some (.int a1), some (.int a2)]) (st' := [.int a2, .ref x4, .int ((11 * a1) + a2), .ref x3]) rfl rfl ?_
    obtain ⟨x5, hx5, h⟩ := bd_inv h
    refine sn_iald dX10_keep_42 hx5 ?_
    obtain ⟨H6, hH6, h⟩ := bd_inv h
    refine sn_iast dX10_keep_43 hH6 ?_
    refine sn_blk _ kX10_keep_21_6 (pc' := 21) (L' := [some (.ref a0), some (.int a1), some (.int (a2 + 1))]) (st' := []) rfl rfl ?_
    exact hK21 _ _ _ _ h
def fX10_keep_21  : Nat → Nat → Int32 → Int32 → Hp → Option (Int32 × Hp)
  | 0, _, _, _, _ => none
  | d + 1, a0, a1, a2, H => bX10_keep_21 (fX10_keep_21  d) a0 a1 a2 H
theorem tfX10_keep_21 {G : GG} {r : Int32} {H' : Hp}   : ∀ (d : Nat) {a0 : Nat} {a1 : Int32} {a2 : Int32} {H : Hp}, fX10_keep_21  d a0 a1 a2 H = some (r, H') → Sn G (T0 G (some (.int r)) H') mX10_keep 21 [some (.ref a0), some (.int a1), some (.int a2)] [] H := by
  intro d
  induction d with
  | zero => intro a0 a1 a2 H h; cases h
  | succ d ih => intro a0 a1 a2 H h; exact tbX10_keep_21 (fun a0 a1 a2 H h => ih h) h
def FX10_keep  (a0 : Nat) (a1 : Int32) (H : Hp) : Option (Int32 × Hp) :=
  bd2 (FX10_in (Int32.toInt64 a1) 0 1 H) fun x1 H2 =>
  if (x1 = 0 : Prop) then
    some ((-1), H2)
  else
    bd (gA H2 a0 9 10) fun x3 =>
    bd (sI H2 x3 2 a1 (vp_nar .boolean 1)) fun H4 =>
    fX10_keep_21  4096 a0 a1 0 H4
set_option maxHeartbeats 4000000 in
set_option maxRecDepth 100000 in
theorem tFX10_keep {G : GG} {r : Int32} {H' : Hp}   {a0 : Nat} {a1 : Int32} {H : Hp} (h : FX10_keep  a0 a1 H = some (r, H')) : Sn G (T0 G (some (.int r)) H') mX10_keep 0 [some (.ref a0), some (.int a1), none] [] H := by
  unfold FX10_keep at h
  refine sn_blk _ kX10_keep_0_0 (pc' := 4) (L' := [some (.ref a0), some (.int a1), none]) (st' := [.long 1, .long 0, .long (Int32.toInt64 a1)]) rfl rfl ?_
  obtain ⟨x1, H2, hx1, h⟩ := bd2_inv h
  refine sn_calls (av := [.long (Int32.toInt64 a1), .long 0, .long 1]) (st := []) (M2 := mX10_in) dX10_keep_4 msX10_in mlX10_127 rfl rfl rfl rfl rfl (sX10_in hx1) ?_
  refine sn_if_ne (tgt := 12) dX10_keep_7 (by decide) (fun c => ?_) (fun c => ?_)
  · rw [if_neg c] at h
    refine sn_blk _ kX10_keep_0_1 (pc' := 13) (L' := [some (.ref a0), some (.int a1), none]) (st' := [.ref a0]) rfl rfl ?_
    obtain ⟨x3, hx3, h⟩ := bd_inv h
    refine sn_gA dX10_keep_13 foX10_31 hx3 ?_
    refine sn_blk _ kX10_keep_0_2 (pc' := 18) (L' := [some (.ref a0), some (.int a1), none]) (st' := [.int 1, .int a1, .ref x3]) rfl rfl ?_
    obtain ⟨H4, hH4, h⟩ := bd_inv h
    refine sn_zast dX10_keep_18 hH4 ?_
    refine sn_blk _ kX10_keep_0_3 (pc' := 21) (L' := [some (.ref a0), some (.int a1), some (.int 0)]) (st' := []) rfl rfl ?_
    exact tfX10_keep_21  4096 h
  · rw [if_pos c] at h
    refine sn_blk _ kX10_keep_0_4 (pc' := 11) (L' := [some (.ref a0), some (.int a1), none]) (st' := [.int (-1)]) rfl rfl ?_
    cases h
    exact sn_iret (ty := .int) dX10_keep_11 rfl rfl
theorem sX10_keep {G : GG} {r : Int32} {H' : Hp} {a0 : Nat} {a1 : Int32} {H : Hp} (h : FX10_keep a0 a1 H = some (r, H')) : SM G mX10_keep [.ref a0, .int a1] H (some (.int r)) H' := tFX10_keep h
/-! SquareFoldsModel.again(I)I -/
theorem kX10_again_0_0 : decB cX10_again 0 [(.iload_n 1, .null), (.i2l, .null), (.lconst 0, .long 0), (.lconst 1, .long 1)] = true := by decide +kernel
theorem kX10_again_0_1 : decB cX10_again 12 [(.aload_n 0, .null)] = true := by decide +kernel
theorem kX10_again_0_2 : decB cX10_again 16 [(.iload_n 1, .null)] = true := by decide +kernel
theorem kX10_again_0_3 : decB cX10_again 24 [(.iconst 0, .int 0), (.istore_n 2, .null)] = true := by decide +kernel
theorem kX10_again_0_4 : decB cX10_again 21 [(.bipush (-3), .int (-3))] = true := by decide +kernel
theorem kX10_again_0_5 : decB cX10_again 10 [(.iconst (-1), .int (-1))] = true := by decide +kernel
theorem kX10_again_26_0 : decB cX10_again 26 [(.iload_n 2, .null), (.bipush 11, .int 11)] = true := by decide +kernel
theorem kX10_again_26_1 : decB cX10_again 55 [(.aload_n 0, .null), (.iconst 0, .int 0)] = true := by decide +kernel
theorem kX10_again_26_2 : decB cX10_again 60 [(.aload_n 0, .null)] = true := by decide +kernel
theorem kX10_again_26_3 : decB cX10_again 64 [(.iconst 0, .int 0)] = true := by decide +kernel
theorem kX10_again_26_4 : decB cX10_again 32 [(.aload_n 0, .null)] = true := by decide +kernel
theorem kX10_again_26_5 : decB cX10_again 36 [(.iload_n 2, .null), (.aload_n 0, .null)] = true := by decide +kernel
theorem kX10_again_26_6 : decB cX10_again 41 [(.bipush 11, .int 11), (.iload_n 1, .null), (.imul, .null), (.iload_n 2, .null), (.iadd, .null)] = true := by decide +kernel
theorem kX10_again_26_7 : decB cX10_again 49 [(.iinc 2 1, .int 1), (.goto (-26), .retAddr 26)] = true := by decide +kernel
theorem dX10_again_4 : decode cX10_again 4 = .ok (.invokestatic 127, 3) := by decide +kernel
theorem dX10_again_7 : decode cX10_again 7 = .ok (.ifCond .ne 5, 3) := by decide +kernel
theorem dX10_again_11 : decode cX10_again 11 = .ok (.ireturn, 1) := by decide +kernel
theorem dX10_again_13 : decode cX10_again 13 = .ok (.getfield 31, 3) := by decide +kernel
theorem dX10_again_17 : decode cX10_again 17 = .ok (.baload, 1) := by decide +kernel
theorem dX10_again_18 : decode cX10_again 18 = .ok (.ifCond .ne 6, 3) := by decide +kernel
theorem dX10_again_23 : decode cX10_again 23 = .ok (.ireturn, 1) := by decide +kernel
theorem dX10_again_29 : decode cX10_again 29 = .ok (.if_icmp .ge 26, 3) := by decide +kernel
theorem dX10_again_33 : decode cX10_again 33 = .ok (.getfield 13, 3) := by decide +kernel
theorem dX10_again_38 : decode cX10_again 38 = .ok (.getfield 28, 3) := by decide +kernel
theorem dX10_again_47 : decode cX10_again 47 = .ok (.iaload, 1) := by decide +kernel
theorem dX10_again_48 : decode cX10_again 48 = .ok (.iastore, 1) := by decide +kernel
theorem dX10_again_57 : decode cX10_again 57 = .ok (.putfield 147, 3) := by decide +kernel
theorem dX10_again_61 : decode cX10_again 61 = .ok (.getfield 13, 3) := by decide +kernel
theorem dX10_again_65 : decode cX10_again 65 = .ok (.iaload, 1) := by decide +kernel
theorem dX10_again_66 : decode cX10_again 66 = .ok (.ireturn, 1) := by decide +kernel
def bX10_again_26 (K26 : Nat → Int32 → Int32 → Hp → Option (Int32 × Hp)) (a0 : Nat) (a1 : Int32) (a2 : Int32) (H : Hp) : Option (Int32 × Hp) :=
  if (11 ≤ a2 : Prop) then
    bd (pV H a0 9 7 (.int 0)) fun H1 =>
    bd (gA H1 a0 9 2) fun x2 =>
    bd (aI H1 x2 0 0) fun x3 =>
    some (x3, H1)
  else
    bd (gA H a0 9 2) fun x4 =>
    bd (gA H a0 9 9) fun x5 =>
    bd (aI H x5 0 ((11 * a1) + a2)) fun x6 =>
    bd (sI H x4 0 a2 x6) fun H7 =>
    K26 a0 a1 (a2 + 1) H7
set_option maxHeartbeats 4000000 in
set_option maxRecDepth 100000 in
theorem tbX10_again_26 {G : GG} {r : Int32} {H' : Hp} {K26 : Nat → Int32 → Int32 → Hp → Option (Int32 × Hp)} (hK26 : ∀ (a0 : Nat) (a1 : Int32) (a2 : Int32) (H : Hp), K26 a0 a1 a2 H = some (r, H') → Sn G (T0 G (some (.int r)) H') mX10_again 26 [some (.ref a0), some (.int a1), some (.int a2)] [] H) {a0 : Nat} {a1 : Int32} {a2 : Int32} {H : Hp} (h : bX10_again_26 K26 a0 a1 a2 H = some (r, H')) : Sn G (T0 G (some (.int r)) H') mX10_again 26 [some (.ref a0), some (.int a1), some (.int a2)] [] H := by
  unfold bX10_again_26 at h
  refine sn_blk _ kX10_again_26_0 (pc' := 29) (L' := [some (.ref a0), some (.int a1), some (.int a2)]) (st' := [.int 11, .int a2]) rfl rfl ?_
  refine sn_icmp_ge (tgt := 55) dX10_again_29 (by decide) (fun c => ?_) (fun c => ?_)
  · rw [if_pos c] at h
    refine sn_blk _ kX10_again_26_1 (pc' := 57) (L' := [some (.ref a0), some (.int a1), some (.int a2)]) (st' := [.int 0, .ref a0]) rfl rfl ?_
    obtain ⟨H1, hH1, h⟩ := bd_inv h
    refine sn_pI dX10_again_57 foX10_147 fpX10_7 hH1 ?_
    refine sn_blk _ kX10_again_26_2 (pc' := 61) (L' := [some (.ref a0), some (.int a1), some (.int a2)]) (st' := [.ref a0]) rfl rfl ?_
    obtain ⟨x2, hx2, h⟩ := bd_inv h
    refine sn_gA dX10_again_61 foX10_13 hx2 ?_
    refine sn_blk _ kX10_again_26_3 (pc' := 65) (L' := [some (.ref a0), some (.int a1), some (.int a2)]) (st' := [.int 0, .ref x2]) rfl rfl ?_
    obtain ⟨x3, hx3, h⟩ := bd_inv h
    refine sn_iald dX10_again_65 hx3 ?_
    cases h
    exact sn_iret (ty := .int) dX10_again_66 rfl rfl
  · rw [if_neg c] at h
    refine sn_blk _ kX10_again_26_4 (pc' := 33) (L' := [some (.ref a0), some (.int a1), some (.int a2)]) (st' := [.ref a0]) rfl rfl ?_
    obtain ⟨x4, hx4, h⟩ := bd_inv h
    refine sn_gA dX10_again_33 foX10_13 hx4 ?_
    refine sn_blk _ kX10_again_26_5 (pc' := 38) (L' := [some (.ref a0), some (.int a1), some (.int a2)]) (st' := [.ref a0, .int a2, .ref x4]) rfl rfl ?_
    obtain ⟨x5, hx5, h⟩ := bd_inv h
    refine sn_gA dX10_again_38 foX10_28 hx5 ?_
    refine sn_blk _ kX10_again_26_6 (pc' := 47) (L' := [some (.ref a0), some (.int a1), some (.int a2)]) (st' := [.int ((11 * a1) + a2), .ref x5, .int a2, .ref x4]) rfl rfl ?_
    obtain ⟨x6, hx6, h⟩ := bd_inv h
    refine sn_iald dX10_again_47 hx6 ?_
    obtain ⟨H7, hH7, h⟩ := bd_inv h
    refine sn_iast dX10_again_48 hH7 ?_
    refine sn_blk _ kX10_again_26_7 (pc' := 26) (L' := [some (.ref a0), some (.int a1), some (.int (a2 + 1))]) (st' := []) rfl rfl ?_
    exact hK26 _ _ _ _ h
def fX10_again_26  : Nat → Nat → Int32 → Int32 → Hp → Option (Int32 × Hp)
  | 0, _, _, _, _ => none
  | d + 1, a0, a1, a2, H => bX10_again_26 (fX10_again_26  d) a0 a1 a2 H
theorem tfX10_again_26 {G : GG} {r : Int32} {H' : Hp}   : ∀ (d : Nat) {a0 : Nat} {a1 : Int32} {a2 : Int32} {H : Hp}, fX10_again_26  d a0 a1 a2 H = some (r, H') → Sn G (T0 G (some (.int r)) H') mX10_again 26 [some (.ref a0), some (.int a1), some (.int a2)] [] H := by
  intro d
  induction d with
  | zero => intro a0 a1 a2 H h; cases h
  | succ d ih => intro a0 a1 a2 H h; exact tbX10_again_26 (fun a0 a1 a2 H h => ih h) h
def FX10_again  (a0 : Nat) (a1 : Int32) (H : Hp) : Option (Int32 × Hp) :=
  bd2 (FX10_in (Int32.toInt64 a1) 0 1 H) fun x1 H2 =>
  if (x1 = 0 : Prop) then
    some ((-1), H2)
  else
    bd (gA H2 a0 9 10) fun x3 =>
    bd (aI H2 x3 2 a1) fun x4 =>
    if (x4 = 0 : Prop) then
      some ((-3), H2)
    else
      fX10_again_26  4096 a0 a1 0 H2
set_option maxHeartbeats 4000000 in
set_option maxRecDepth 100000 in
theorem tFX10_again {G : GG} {r : Int32} {H' : Hp}   {a0 : Nat} {a1 : Int32} {H : Hp} (h : FX10_again  a0 a1 H = some (r, H')) : Sn G (T0 G (some (.int r)) H') mX10_again 0 [some (.ref a0), some (.int a1), none] [] H := by
  unfold FX10_again at h
  refine sn_blk _ kX10_again_0_0 (pc' := 4) (L' := [some (.ref a0), some (.int a1), none]) (st' := [.long 1, .long 0, .long (Int32.toInt64 a1)]) rfl rfl ?_
  obtain ⟨x1, H2, hx1, h⟩ := bd2_inv h
  refine sn_calls (av := [.long (Int32.toInt64 a1), .long 0, .long 1]) (st := []) (M2 := mX10_in) dX10_again_4 msX10_in mlX10_127 rfl rfl rfl rfl rfl (sX10_in hx1) ?_
  refine sn_if_ne (tgt := 12) dX10_again_7 (by decide) (fun c => ?_) (fun c => ?_)
  · rw [if_neg c] at h
    refine sn_blk _ kX10_again_0_1 (pc' := 13) (L' := [some (.ref a0), some (.int a1), none]) (st' := [.ref a0]) rfl rfl ?_
    obtain ⟨x3, hx3, h⟩ := bd_inv h
    refine sn_gA dX10_again_13 foX10_31 hx3 ?_
    refine sn_blk _ kX10_again_0_2 (pc' := 17) (L' := [some (.ref a0), some (.int a1), none]) (st' := [.int a1, .ref x3]) rfl rfl ?_
    obtain ⟨x4, hx4, h⟩ := bd_inv h
    refine sn_zald dX10_again_17 hx4 ?_
    refine sn_if_ne (tgt := 24) dX10_again_18 (by decide) (fun c => ?_) (fun c => ?_)
    · rw [if_neg c] at h
      refine sn_blk _ kX10_again_0_3 (pc' := 26) (L' := [some (.ref a0), some (.int a1), some (.int 0)]) (st' := []) rfl rfl ?_
      exact tfX10_again_26  4096 h
    · rw [if_pos c] at h
      refine sn_blk _ kX10_again_0_4 (pc' := 23) (L' := [some (.ref a0), some (.int a1), none]) (st' := [.int (-3)]) rfl rfl ?_
      cases h
      exact sn_iret (ty := .int) dX10_again_23 rfl rfl
  · rw [if_pos c] at h
    refine sn_blk _ kX10_again_0_5 (pc' := 11) (L' := [some (.ref a0), some (.int a1), none]) (st' := [.int (-1)]) rfl rfl ?_
    cases h
    exact sn_iret (ty := .int) dX10_again_11 rfl rfl
theorem sX10_again {G : GG} {r : Int32} {H' : Hp} {a0 : Nat} {a1 : Int32} {H : Hp} (h : FX10_again a0 a1 H = some (r, H')) : SM G mX10_again [.ref a0, .int a1] H (some (.int r)) H' := tFX10_again h
