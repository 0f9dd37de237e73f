/-! SquareFolds.write(I)I -/
theorem kX9_write_0_0 : decB cX9_write 0 [(.iload_n 1, .null)] = true := by decide +kernel
theorem kX9_write_0_1 : decB cX9_write 11 [(.bipush (-2), .int (-2))] = true := by decide +kernel
theorem kX9_write_0_2 : decB cX9_write 4 [(.iload_n 1, .null), (.sipush 255, .int 255)] = true := by decide +kernel
theorem kX9_write_0_3 : decB cX9_write 14 [(.aload_n 0, .null)] = true := by decide +kernel
theorem kX9_write_0_4 : decB cX9_write 18 [(.iload_n 1, .null)] = true := by decide +kernel
theorem kX9_write_0_5 : decB cX9_write 35 [(.bipush (-4), .int (-4))] = true := by decide +kernel
theorem kX9_write_0_6 : decB cX9_write 25 [(.aload_n 0, .null)] = true := by decide +kernel
theorem kX9_write_0_7 : decB cX9_write 32 [(.goto 5, .retAddr 37)] = true := by decide +kernel
theorem kX9_write_0_8 : decB cX9_write 11 [(.bipush (-2), .int (-2))] = true := by decide +kernel
theorem dX9_write_1 : decode cX9_write 1 = .ok (.ifCond .lt 10, 3) := by decide +kernel
theorem dX9_write_8 : decode cX9_write 8 = .ok (.if_icmp .le 6, 3) := by decide +kernel
theorem dX9_write_13 : decode cX9_write 13 = .ok (.ireturn, 1) := by decide +kernel
theorem dX9_write_15 : decode cX9_write 15 = .ok (.getfield 10, 3) := by decide +kernel
theorem dX9_write_19 : decode cX9_write 19 = .ok (.invokevirtual 72, 3) := by decide +kernel
theorem dX9_write_22 : decode cX9_write 22 = .ok (.ifCond .eq 13, 3) := by decide +kernel
theorem dX9_write_26 : decode cX9_write 26 = .ok (.getfield 10, 3) := by decide +kernel
theorem dX9_write_29 : decode cX9_write 29 = .ok (.getfield 76, 3) := by decide +kernel
theorem dX9_write_37 : decode cX9_write 37 = .ok (.ireturn, 1) := by decide +kernel
def FX9_write  (a0 : Nat) (a1 : Int32) (H : Hp) : Option (Int32 × Hp) :=
  if (a1 < 0 : Prop) then
    some ((-2), H)
  else
    if (a1 ≤ 255 : Prop) then
      bd (gA H a0 8 0) fun x1 =>
      gp (isO H x1 3 = true) (
        bd2 (FX3_add x1 a1 H) fun x2 H3 =>
        if (x2 = 0 : Prop) then
          some ((-4), H3)
        else
          bd (gA H3 a0 8 0) fun x4 =>
          bd (gI H3 x4 3 1) fun x5 =>
          some (x5, H3)
        )
    else
      some ((-2), H)
set_option maxHeartbeats 4000000 in
set_option maxRecDepth 100000 in
theorem tFX9_write {G : GG} {r : Int32} {H' : Hp}   {a0 : Nat} {a1 : Int32} {H : Hp} (h : FX9_write  a0 a1 H = some (r, H')) : Sn G (T0 G (some (.int r)) H') mX9_write 0 [some (.ref a0), some (.int a1)] [] H := by
  unfold FX9_write at h
  refine sn_blk _ kX9_write_0_0 (pc' := 1) (L' := [some (.ref a0), some (.int a1)]) (st' := [.int a1]) rfl rfl ?_
  refine sn_if_lt (tgt := 11) dX9_write_1 (by decide) (fun c => ?_) (fun c => ?_)
  · rw [if_pos c] at h
    refine sn_blk _ kX9_write_0_1 (pc' := 13) (L' := [some (.ref a0), some (.int a1)]) (st' := [.int (-2)]) rfl rfl ?_
    cases h
    exact sn_iret (ty := .int) dX9_write_13 rfl rfl
  · rw [if_neg c] at h
    refine sn_blk _ kX9_write_0_2 (pc' := 8) (L' := [some (.ref a0), some (.int a1)]) (st' := [.int 255, .int a1]) rfl rfl ?_
    refine sn_icmp_le (tgt := 14) dX9_write_8 (by decide) (fun c => ?_) (fun c => ?_)
    · rw [if_pos c] at h
      refine sn_blk _ kX9_write_0_3 (pc' := 15) (L' := [some (.ref a0), some (.int a1)]) (st' := [.ref a0]) rfl rfl ?_
      obtain ⟨x1, hx1, h⟩ := bd_inv h
      refine sn_gA dX9_write_15 foX9_10 hx1 ?_
      refine sn_blk _ kX9_write_0_4 (pc' := 19) (L' := [some (.ref a0), some (.int a1)]) (st' := [.int a1, .ref x1]) rfl rfl ?_
      obtain ⟨ho, h⟩ := gp_inv h
      obtain ⟨fs, ho⟩ := isO_inv ho
      obtain ⟨x2, H3, hx2, h⟩ := bd2_inv h
      refine sn_callv (av := [.int a1]) (st := []) (M2 := mX3_add) dX9_write_19 msX3_add mlX9_72 rfl rfl rfl rfl rfl ho (sX3_add hx2) ?_
      refine sn_if_eq (tgt := 35) dX9_write_22 (by decide) (fun c => ?_) (fun c => ?_)
      · rw [if_pos c] at h
        refine sn_blk _ kX9_write_0_5 (pc' := 37) (L' := [some (.ref a0), some (.int a1)]) (st' := [.int (-4)]) rfl rfl ?_
        cases h
        exact sn_iret (ty := .int) dX9_write_37 rfl rfl
      · rw [if_neg c] at h
        refine sn_blk _ kX9_write_0_6 (pc' := 26) (L' := [some (.ref a0), some (.int a1)]) (st' := [.ref a0]) rfl rfl ?_
        obtain ⟨x4, hx4, h⟩ := bd_inv h
        refine sn_gA dX9_write_26 foX9_10 hx4 ?_
        obtain ⟨x5, hx5, h⟩ := bd_inv h
        refine sn_gI dX9_write_29 foX9_76 hx5 ?_
        refine sn_blk _ kX9_write_0_7 (pc' := 37) (L' := [some (.ref a0), some (.int a1)]) (st' := [.int x5]) rfl rfl ?_
        cases h
        exact sn_iret (ty := .int) dX9_write_37 rfl rfl
    · rw [if_neg c] at h
      refine sn_blk _ kX9_write_0_8 (pc' := 13) (L' := [some (.ref a0), some (.int a1)]) (st' := [.int (-2)]) rfl rfl ?_
      cases h
      exact sn_iret (ty := .int) dX9_write_13 rfl rfl
theorem sX9_write {G : GG} {r : Int32} {H' : Hp} {a0 : Nat} {a1 : Int32} {H : Hp} (h : FX9_write a0 a1 H = some (r, H')) : SM G mX9_write [.ref a0, .int a1] H (some (.int r)) H' := tFX9_write h
/-! SquareFolds.wipe()I -/
theorem kX9_wipe_0_0 : decB cX9_wipe 0 [(.aload_n 0, .null)] = true := by decide +kernel
theorem kX9_wipe_0_1 : decB cX9_wipe 7 [(.istore_n 1, .null), (.aload_n 0, .null)] = true := by decide +kernel
theorem kX9_wipe_0_2 : decB cX9_wipe 12 [(.iconst 0, .int 0)] = true := by decide +kernel
theorem kX9_wipe_0_3 : decB cX9_wipe 16 [(.iload_n 1, .null)] = true := by decide +kernel
theorem dX9_wipe_1 : decode cX9_wipe 1 = .ok (.getfield 10, 3) := by decide +kernel
theorem dX9_wipe_4 : decode cX9_wipe 4 = .ok (.getfield 76, 3) := by decide +kernel
theorem dX9_wipe_9 : decode cX9_wipe 9 = .ok (.getfield 10, 3) := by decide +kernel
theorem dX9_wipe_13 : decode cX9_wipe 13 = .ok (.putfield 76, 3) := by decide +kernel
theorem dX9_wipe_17 : decode cX9_wipe 17 = .ok (.ireturn, 1) := by decide +kernel
def FX9_wipe  (a0 : Nat) (H : Hp) : Option (Int32 × Hp) :=
  bd (gA H a0 8 0) fun x1 =>
  bd (gI H x1 3 1) fun x2 =>
  bd (gA H a0 8 0) fun x3 =>
  bd (pV H x3 3 1 (.int 0)) fun H4 =>
  some (x2, H4)
set_option maxHeartbeats 4000000 in
set_option maxRecDepth 100000 in
theorem tFX9_wipe {G : GG} {r : Int32} {H' : Hp}   {a0 : Nat} {H : Hp} (h : FX9_wipe  a0 H = some (r, H')) : Sn G (T0 G (some (.int r)) H') mX9_wipe 0 [some (.ref a0), none] [] H := by
  unfold FX9_wipe at h
  refine sn_blk _ kX9_wipe_0_0 (pc' := 1) (L' := [some (.ref a0), none]) (st' := [.ref a0]) rfl rfl ?_
  obtain ⟨x1, hx1, h⟩ := bd_inv h
  refine sn_gA dX9_wipe_1 foX9_10 hx1 ?_
  obtain ⟨x2, hx2, h⟩ := bd_inv h
  refine sn_gI dX9_wipe_4 foX9_76 hx2 ?_
  refine sn_blk _ kX9_wipe_0_1 (pc' := 9) (L' := [some (.ref a0), some (.int x2)]) (st' := [.ref a0]) rfl rfl ?_
  obtain ⟨x3, hx3, h⟩ := bd_inv h
  refine sn_gA dX9_wipe_9 foX9_10 hx3 ?_
  refine sn_blk _ kX9_wipe_0_2 (pc' := 13) (L' := [some (.ref a0), some (.int x2)]) (st' := [.int 0, .ref x3]) rfl rfl ?_
  obtain ⟨H4, hH4, h⟩ := bd_inv h
  refine sn_pI dX9_wipe_13 foX9_76 fpX3_1 hH4 ?_
  refine sn_blk _ kX9_wipe_0_3 (pc' := 17) (L' := [some (.ref a0), some (.int x2)]) (st' := [.int x2]) rfl rfl ?_
  cases h
  exact sn_iret (ty := .int) dX9_wipe_17 rfl rfl
theorem sX9_wipe {G : GG} {r : Int32} {H' : Hp} {a0 : Nat} {H : Hp} (h : FX9_wipe a0 H = some (r, H')) : SM G mX9_wipe [.ref a0] H (some (.int r)) H' := tFX9_wipe h
/-! SquareFolds.fault()I -/
theorem kX9_fault_0_0 : decB cX9_fault 0 [(.aload_n 0, .null)] = true := by decide +kernel
theorem dX9_fault_1 : decode cX9_fault 1 = .ok (.getfield 10, 3) := by decide +kernel
theorem dX9_fault_4 : decode cX9_fault 4 = .ok (.invokevirtual 80, 3) := by decide +kernel
theorem dX9_fault_7 : decode cX9_fault 7 = .ok (.ireturn, 1) := by decide +kernel
def FX9_fault  (a0 : Nat) (H : Hp) : Option (Int32 × Hp) :=
  bd (gA H a0 8 0) fun x1 =>
  gp (isO H x1 3 = true) (
    bd2 (FX3_firstFault x1  H) fun x2 H3 =>
    some (x2, H3)
    )
set_option maxHeartbeats 4000000 in
set_option maxRecDepth 100000 in
theorem tFX9_fault {G : GG} {r : Int32} {H' : Hp}   {a0 : Nat} {H : Hp} (h : FX9_fault  a0 H = some (r, H')) : Sn G (T0 G (some (.int r)) H') mX9_fault 0 [some (.ref a0)] [] H := by
  unfold FX9_fault at h
  refine sn_blk _ kX9_fault_0_0 (pc' := 1) (L' := [some (.ref a0)]) (st' := [.ref a0]) rfl rfl ?_
  obtain ⟨x1, hx1, h⟩ := bd_inv h
  refine sn_gA dX9_fault_1 foX9_10 hx1 ?_
  obtain ⟨ho, h⟩ := gp_inv h
  obtain ⟨fs, ho⟩ := isO_inv ho
  obtain ⟨x2, H3, hx2, h⟩ := bd2_inv h
  refine sn_callv (av := []) (st := []) (M2 := mX3_firstFault) dX9_fault_4 msX3_firstFault mlX9_80 rfl rfl rfl rfl rfl ho (sX3_firstFault hx2) ?_
  cases h
  exact sn_iret (ty := .int) dX9_fault_7 rfl rfl
theorem sX9_fault {G : GG} {r : Int32} {H' : Hp} {a0 : Nat} {H : Hp} (h : FX9_fault a0 H = some (r, H')) : SM G mX9_fault [.ref a0] H (some (.int r)) H' := tFX9_fault h
/-! SquareFolds.surface()I -/
theorem kX9_surface_0_0 : decB cX9_surface 0 [(.aload_n 0, .null)] = true := by decide +kernel
theorem kX9_surface_0_1 : decB cX9_surface 7 [(.bipush (-9), .int (-9))] = true := by decide +kernel
theorem kX9_surface_0_2 : decB cX9_surface 15 [(.aload_n 0, .null)] = true := by decide +kernel
theorem kX9_surface_0_3 : decB cX9_surface 19 [(.iconst 1, .int 1)] = true := by decide +kernel
theorem kX9_surface_0_4 : decB cX9_surface 23 [(.istore_n 1, .null), (.aload_n 0, .null)] = true := by decide +kernel
theorem kX9_surface_0_5 : decB cX9_surface 28 [(.iload_n 1, .null), (.aload_n 0, .null)] = true := by decide +kernel
theorem kX9_surface_0_6 : decB cX9_surface 33 [(.iconst 2, .int 2), (.iload_n 1, .null)] = true := by decide +kernel
theorem kX9_surface_0_7 : decB cX9_surface 38 [(.aload_n 0, .null)] = true := by decide +kernel
theorem kX9_surface_0_8 : decB cX9_surface 42 [(.iconst 2, .int 2), (.iload_n 1, .null), (.iadd, .null), (.iload_n 1, .null)] = true := by decide +kernel
theorem kX9_surface_0_9 : decB cX9_surface 52 [(.aload_n 0, .null)] = true := by decide +kernel
theorem kX9_surface_0_10 : decB cX9_surface 56 [(.iconst 0, .int 0)] = true := by decide +kernel
theorem kX9_surface_0_11 : decB cX9_surface 60 [(.aload_n 0, .null)] = true := by decide +kernel
theorem kX9_surface_0_12 : decB cX9_surface 67 [(.aload_n 0, .null)] = true := by decide +kernel
theorem kX9_surface_0_13 : decB cX9_surface 71 [(.aload_n 0, .null)] = true := by decide +kernel
theorem kX9_surface_0_14 : decB cX9_surface 12 [(.bipush (-3), .int (-3))] = true := by decide +kernel
theorem dX9_surface_1 : decode cX9_surface 1 = .ok (.getfield 10, 3) := by decide +kernel
theorem dX9_surface_4 : decode cX9_surface 4 = .ok (.invokevirtual 80, 3) := by decide +kernel
theorem dX9_surface_9 : decode cX9_surface 9 = .ok (.if_icmp .eq 6, 3) := by decide +kernel
theorem dX9_surface_14 : decode cX9_surface 14 = .ok (.ireturn, 1) := by decide +kernel
theorem dX9_surface_16 : decode cX9_surface 16 = .ok (.getfield 10, 3) := by decide +kernel
theorem dX9_surface_20 : decode cX9_surface 20 = .ok (.invokevirtual 84, 3) := by decide +kernel
theorem dX9_surface_25 : decode cX9_surface 25 = .ok (.getfield 19, 3) := by decide +kernel
theorem dX9_surface_30 : decode cX9_surface 30 = .ok (.getfield 10, 3) := by decide +kernel
theorem dX9_surface_35 : decode cX9_surface 35 = .ok (.invokevirtual 88, 3) := by decide +kernel
theorem dX9_surface_39 : decode cX9_surface 39 = .ok (.getfield 10, 3) := by decide +kernel
theorem dX9_surface_46 : decode cX9_surface 46 = .ok (.invokevirtual 88, 3) := by decide +kernel
theorem dX9_surface_49 : decode cX9_surface 49 = .ok (.invokevirtual 92, 3) := by decide +kernel
theorem dX9_surface_53 : decode cX9_surface 53 = .ok (.getfield 29, 3) := by decide +kernel
theorem dX9_surface_57 : decode cX9_surface 57 = .ok (.putfield 96, 3) := by decide +kernel
theorem dX9_surface_61 : decode cX9_surface 61 = .ok (.getfield 36, 3) := by decide +kernel
theorem dX9_surface_64 : decode cX9_surface 64 = .ok (.invokevirtual 99, 3) := by decide +kernel
theorem dX9_surface_68 : decode cX9_surface 68 = .ok (.getfield 19, 3) := by decide +kernel
theorem dX9_surface_72 : decode cX9_surface 72 = .ok (.getfield 19, 3) := by decide +kernel
theorem dX9_surface_75 : decode cX9_surface 75 = .ok (.invokevirtual 102, 3) := by decide +kernel
theorem dX9_surface_78 : decode cX9_surface 78 = .ok (.invokevirtual 105, 3) := by decide +kernel
theorem dX9_surface_81 : decode cX9_surface 81 = .ok (.ireturn, 1) := by decide +kernel
def FX9_surface  (a0 : Nat) (H : Hp) : Option (Int32 × Hp) :=
  bd (gA H a0 8 0) fun x1 =>
  gp (isO H x1 3 = true) (
    bd2 (FX3_firstFault x1  H) fun x2 H3 =>
    if (x2 = (-9) : Prop) then
      bd (gA H3 a0 8 0) fun x4 =>
      gp (isO H3 x4 3 = true) (
        bd2 (FX3_figure x4 1 H3) fun x5 H6 =>
        bd (gA H6 a0 8 1) fun x7 =>
        bd (gA H6 a0 8 0) fun x8 =>
        gp (isO H6 x8 3 = true) (
          bd2 (FX3_rowFrom x8 2 x5 H6) fun x9 H10 =>
          bd (gA H10 a0 8 0) fun x11 =>
          gp (isO H10 x11 3 = true) (
            bd2 (FX3_rowFrom x11 (2 + x5) x5 H10) fun x12 H13 =>
            gp (isO H13 x7 2 = true) (
              bd2 (FX2_become x7 x5 x9 x12 H13) fun _ H15 =>
              bd (gA H15 a0 8 3) fun x16 =>
              bd (pV H15 x16 5 2 (.int 0)) fun H17 =>
              bd (gA H17 a0 8 4) fun x18 =>
              gp (isO H17 x18 7 = true) (
                bd2 (FX8_clear x18  H17) fun _ H20 =>
                bd (gA H20 a0 8 1) fun x21 =>
                bd (gA H20 a0 8 1) fun x22 =>
                gp (isO H20 x22 2 = true) (
                  bd2 (FX2_all x22  H20) fun x23 H24 =>
                  gp (isO H24 x21 2 = true) (
                    bd2 (FX2_pieces x21 x23 H24) fun x25 H26 =>
                    some (x25, H26)
                    )
                  )
                )
              )
            )
          )
        )
    else
      some ((-3), H3)
    )
set_option maxHeartbeats 4000000 in
set_option maxRecDepth 100000 in
theorem tFX9_surface {G : GG} {r : Int32} {H' : Hp}   {a0 : Nat} {H : Hp} (h : FX9_surface  a0 H = some (r, H')) : Sn G (T0 G (some (.int r)) H') mX9_surface 0 [some (.ref a0), none] [] H := by
  unfold FX9_surface at h
  refine sn_blk _ kX9_surface_0_0 (pc' := 1) (L' := [some (.ref a0), none]) (st' := [.ref a0]) rfl rfl ?_
  obtain ⟨x1, hx1, h⟩ := bd_inv h
  refine sn_gA dX9_surface_1 foX9_10 hx1 ?_
  obtain ⟨ho, h⟩ := gp_inv h
  obtain ⟨fs, ho⟩ := isO_inv ho
  obtain ⟨x2, H3, hx2, h⟩ := bd2_inv h
  refine sn_callv (av := []) (st := []) (M2 := mX3_firstFault) dX9_surface_4 msX3_firstFault mlX9_80 rfl rfl rfl rfl rfl ho (sX3_firstFault hx2) ?_
  refine sn_blk _ kX9_surface_0_1 (pc' := 9) (L' := [some (.ref a0), none]) (st' := [.int (-9), .int x2]) rfl rfl ?_
  refine sn_icmp_eq (tgt := 15) dX9_surface_9 (by decide) (fun c => ?_) (fun c => ?_)
  · rw [if_pos c] at h
    refine sn_blk _ kX9_surface_0_2 (pc' := 16) (L' := [some (.ref a0), none]) (st' := [.ref a0]) rfl rfl ?_
    obtain ⟨x4, hx4, h⟩ := bd_inv h
    refine sn_gA dX9_surface_16 foX9_10 hx4 ?_
    refine sn_blk _ kX9_surface_0_3 (pc' := 20) (L' := [some (.ref a0), none]) (st' := [.int 1, .ref x4]) rfl rfl ?_
    obtain ⟨ho, h⟩ := gp_inv h
    obtain ⟨fs, ho⟩ := isO_inv ho
    obtain ⟨x5, H6, hx5, h⟩ := bd2_inv h
    refine sn_callv (av := [.int 1]) (st := []) (M2 := mX3_figure) dX9_surface_20 msX3_figure mlX9_84 rfl rfl rfl rfl rfl ho (sX3_figure hx5) ?_
    refine sn_blk _ kX9_surface_0_4 (pc' := 25) (L' := [some (.ref a0), some (.int x5)]) (st' := [.ref a0]) rfl rfl ?_
    obtain ⟨x7, hx7, h⟩ := bd_inv h
    refine sn_gA dX9_surface_25 foX9_19 hx7 ?_
    refine sn_blk _ kX9_surface_0_5 (pc' := 30) (L' := [some (.ref a0), some (.int x5)]) (st' := [.ref a0, .int x5, .ref x7]) rfl rfl ?_
    obtain ⟨x8, hx8, h⟩ := bd_inv h
    refine sn_gA dX9_surface_30 foX9_10 hx8 ?_
    refine sn_blk _ kX9_surface_0_6 (pc' := 35) (L' := [some (.ref a0), some (.int x5)]) (st' := [.int x5, .int 2, .ref x8, .int x5, .ref x7]) rfl rfl ?_
    obtain ⟨ho, h⟩ := gp_inv h
    obtain ⟨fs, ho⟩ := isO_inv ho
    obtain ⟨x9, H10, hx9, h⟩ := bd2_inv h
    refine sn_callv (av := [.int 2, .int x5]) (st := [.int x5, .ref x7]) (M2 := mX3_rowFrom) dX9_surface_35 msX3_rowFrom mlX9_88 rfl rfl rfl rfl rfl ho (sX3_rowFrom hx9) ?_
    refine sn_blk _ kX9_surface_0_7 (pc' := 39) (L' := [some (.ref a0), some (.int x5)]) (st' := [.ref a0, .int x9, .int x5, .ref x7]) rfl rfl ?_
    obtain ⟨x11, hx11, h⟩ := bd_inv h
    refine sn_gA dX9_surface_39 foX9_10 hx11 ?_
    refine sn_blk _ kX9_surface_0_8 (pc' := 46) (L' := [some (.ref a0), some (.int x5)]) (st' := [.int x5, .int (2 + x5), .ref x11, .int x9, .int x5, .ref x7]) rfl rfl ?_
    obtain ⟨ho, h⟩ := gp_inv h
    obtain ⟨fs, ho⟩ := isO_inv ho
    obtain ⟨x12, H13, hx12, h⟩ := bd2_inv h
    refine sn_callv (av := [.int (2 + x5), .int x5]) (st := [.int x9, .int x5, .ref x7]) (M2 := mX3_rowFrom) dX9_surface_46 msX3_rowFrom mlX9_88 rfl rfl rfl rfl rfl ho (sX3_rowFrom hx12) ?_
    obtain ⟨ho, h⟩ := gp_inv h
    obtain ⟨fs, ho⟩ := isO_inv ho
    obtain ⟨x14, H15, hx14, h⟩ := bd2_inv h
    refine sn_callv (av := [.int x5, .int x9, .int x12]) (st := []) (M2 := mX2_become) dX9_surface_49 msX2_become mlX9_92 rfl rfl rfl rfl rfl ho (sX2_become hx14) ?_
    refine sn_blk _ kX9_surface_0_9 (pc' := 53) (L' := [some (.ref a0), some (.int x5)]) (st' := [.ref a0]) rfl rfl ?_
    obtain ⟨x16, hx16, h⟩ := bd_inv h
    refine sn_gA dX9_surface_53 foX9_29 hx16 ?_
    refine sn_blk _ kX9_surface_0_10 (pc' := 57) (L' := [some (.ref a0), some (.int x5)]) (st' := [.int 0, .ref x16]) rfl rfl ?_
    obtain ⟨H17, hH17, h⟩ := bd_inv h
    refine sn_pI dX9_surface_57 foX9_96 fpX5_2 hH17 ?_
    refine sn_blk _ kX9_surface_0_11 (pc' := 61) (L' := [some (.ref a0), some (.int x5)]) (st' := [.ref a0]) rfl rfl ?_
    obtain ⟨x18, hx18, h⟩ := bd_inv h
    refine sn_gA dX9_surface_61 foX9_36 hx18 ?_
    obtain ⟨ho, h⟩ := gp_inv h
    obtain ⟨fs, ho⟩ := isO_inv ho
    obtain ⟨x19, H20, hx19, h⟩ := bd2_inv h
    refine sn_callv (av := []) (st := []) (M2 := mX8_clear) dX9_surface_64 msX8_clear mlX9_99 rfl rfl rfl rfl rfl ho (sX8_clear hx19) ?_
    refine sn_blk _ kX9_surface_0_12 (pc' := 68) (L' := [some (.ref a0), some (.int x5)]) (st' := [.ref a0]) rfl rfl ?_
    obtain ⟨x21, hx21, h⟩ := bd_inv h
    refine sn_gA dX9_surface_68 foX9_19 hx21 ?_
    refine sn_blk _ kX9_surface_0_13 (pc' := 72) (L' := [some (.ref a0), some (.int x5)]) (st' := [.ref a0, .ref x21]) rfl rfl ?_
    obtain ⟨x22, hx22, h⟩ := bd_inv h
    refine sn_gA dX9_surface_72 foX9_19 hx22 ?_
    obtain ⟨ho, h⟩ := gp_inv h
    obtain ⟨fs, ho⟩ := isO_inv ho
    obtain ⟨x23, H24, hx23, h⟩ := bd2_inv h
    refine sn_callv (av := []) (st := [.ref x21]) (M2 := mX2_all) dX9_surface_75 msX2_all mlX9_102 rfl rfl rfl rfl rfl ho (sX2_all hx23) ?_
    obtain ⟨ho, h⟩ := gp_inv h
    obtain ⟨fs, ho⟩ := isO_inv ho
    obtain ⟨x25, H26, hx25, h⟩ := bd2_inv h
    refine sn_callv (av := [.int x23]) (st := []) (M2 := mX2_pieces) dX9_surface_78 msX2_pieces mlX9_105 rfl rfl rfl rfl rfl ho (sX2_pieces hx25) ?_
    cases h
    exact sn_iret (ty := .int) dX9_surface_81 rfl rfl
  · rw [if_neg c] at h
    refine sn_blk _ kX9_surface_0_14 (pc' := 14) (L' := [some (.ref a0), none]) (st' := [.int (-3)]) rfl rfl ?_
    cases h
    exact sn_iret (ty := .int) dX9_surface_14 rfl rfl
theorem sX9_surface {G : GG} {r : Int32} {H' : Hp} {a0 : Nat} {H : Hp} (h : FX9_surface a0 H = some (r, H')) : SM G mX9_surface [.ref a0] H (some (.int r)) H' := tFX9_surface h
/-! SquareFolds.groupSize()I -/
theorem kX9_groupSize_0_0 : decB cX9_groupSize 0 [(.aload_n 0, .null)] = true := by decide +kernel
theorem kX9_groupSize_0_1 : decB cX9_groupSize 4 [(.iconst 0, .int 0)] = true := by decide +kernel
theorem kX9_groupSize_0_2 : decB cX9_groupSize 8 [(.aload_n 0, .null)] = true := by decide +kernel
theorem kX9_groupSize_0_3 : decB cX9_groupSize 12 [(.aload_n 0, .null)] = true := by decide +kernel
theorem kX9_groupSize_0_4 : decB cX9_groupSize 22 [(.i2l, .null)] = true := by decide +kernel
theorem kX9_groupSize_0_5 : decB cX9_groupSize 26 [(.pop, .null), (.iconst 0, .int 0), (.istore_n 1, .null)] = true := by decide +kernel
theorem kX9_groupSize_29_0 : decB cX9_groupSize 29 [(.iload_n 1, .null), (.aload_n 0, .null)] = true := by decide +kernel
theorem kX9_groupSize_29_1 : decB cX9_groupSize 40 [(.iload_n 1, .null), (.sipush 128, .int 128)] = true := by decide +kernel
theorem kX9_groupSize_29_2 : decB cX9_groupSize 47 [(.aload_n 0, .null)] = true := by decide +kernel
theorem kX9_groupSize_29_3 : decB cX9_groupSize 51 [(.iload_n 1, .null)] = true := by decide +kernel
theorem kX9_groupSize_29_4 : decB cX9_groupSize 55 [(.l2i, .null), (.istore_n 2, .null), (.aload_n 0, .null)] = true := by decide +kernel
theorem kX9_groupSize_29_5 : decB cX9_groupSize 61 [(.iload_n 2, .null), (.aload_n 0, .null)] = true := by decide +kernel
theorem kX9_groupSize_29_6 : decB cX9_groupSize 69 [(.aload_n 0, .null)] = true := by decide +kernel
theorem kX9_groupSize_29_7 : decB cX9_groupSize 79 [(.i2l, .null)] = true := by decide +kernel
theorem kX9_groupSize_29_8 : decB cX9_groupSize 83 [(.pop, .null), (.aload_n 0, .null)] = true := by decide +kernel
theorem kX9_groupSize_29_9 : decB cX9_groupSize 88 [(.iload_n 2, .null), (.aload_n 0, .null)] = true := by decide +kernel
theorem kX9_groupSize_29_10 : decB cX9_groupSize 96 [(.aload_n 0, .null)] = true := by decide +kernel
theorem kX9_groupSize_29_11 : decB cX9_groupSize 106 [(.i2l, .null)] = true := by decide +kernel
theorem kX9_groupSize_29_12 : decB cX9_groupSize 110 [(.pop, .null), (.iinc 1 1, .int 1), (.goto (-85), .retAddr 29)] = true := by decide +kernel
theorem kX9_groupSize_117_0 : decB cX9_groupSize 117 [(.aload_n 0, .null)] = true := by decide +kernel
theorem dX9_groupSize_1 : decode cX9_groupSize 1 = .ok (.getfield 57, 3) := by decide +kernel
theorem dX9_groupSize_5 : decode cX9_groupSize 5 = .ok (.putfield 208, 3) := by decide +kernel
theorem dX9_groupSize_9 : decode cX9_groupSize 9 = .ok (.getfield 57, 3) := by decide +kernel
theorem dX9_groupSize_13 : decode cX9_groupSize 13 = .ok (.getfield 19, 3) := by decide +kernel
theorem dX9_groupSize_16 : decode cX9_groupSize 16 = .ok (.getfield 108, 3) := by decide +kernel
theorem dX9_groupSize_19 : decode cX9_groupSize 19 = .ok (.invokestatic 275, 3) := by decide +kernel
theorem dX9_groupSize_23 : decode cX9_groupSize 23 = .ok (.invokevirtual 278, 3) := by decide +kernel
theorem dX9_groupSize_31 : decode cX9_groupSize 31 = .ok (.getfield 57, 3) := by decide +kernel
theorem dX9_groupSize_34 : decode cX9_groupSize 34 = .ok (.getfield 208, 3) := by decide +kernel
theorem dX9_groupSize_37 : decode cX9_groupSize 37 = .ok (.if_icmp .ge 80, 3) := by decide +kernel
theorem dX9_groupSize_44 : decode cX9_groupSize 44 = .ok (.if_icmp .ge 73, 3) := by decide +kernel
theorem dX9_groupSize_48 : decode cX9_groupSize 48 = .ok (.getfield 57, 3) := by decide +kernel
theorem dX9_groupSize_52 : decode cX9_groupSize 52 = .ok (.invokevirtual 281, 3) := by decide +kernel
theorem dX9_groupSize_58 : decode cX9_groupSize 58 = .ok (.getfield 57, 3) := by decide +kernel
theorem dX9_groupSize_63 : decode cX9_groupSize 63 = .ok (.getfield 19, 3) := by decide +kernel
theorem dX9_groupSize_66 : decode cX9_groupSize 66 = .ok (.getfield 162, 3) := by decide +kernel
theorem dX9_groupSize_70 : decode cX9_groupSize 70 = .ok (.getfield 19, 3) := by decide +kernel
theorem dX9_groupSize_73 : decode cX9_groupSize 73 = .ok (.getfield 108, 3) := by decide +kernel
theorem dX9_groupSize_76 : decode cX9_groupSize 76 = .ok (.invokestatic 283, 3) := by decide +kernel
theorem dX9_groupSize_80 : decode cX9_groupSize 80 = .ok (.invokevirtual 278, 3) := by decide +kernel
theorem dX9_groupSize_85 : decode cX9_groupSize 85 = .ok (.getfield 57, 3) := by decide +kernel
theorem dX9_groupSize_90 : decode cX9_groupSize 90 = .ok (.getfield 19, 3) := by decide +kernel
theorem dX9_groupSize_93 : decode cX9_groupSize 93 = .ok (.getfield 182, 3) := by decide +kernel
theorem dX9_groupSize_97 : decode cX9_groupSize 97 = .ok (.getfield 19, 3) := by decide +kernel
theorem dX9_groupSize_100 : decode cX9_groupSize 100 = .ok (.getfield 108, 3) := by decide +kernel
theorem dX9_groupSize_103 : decode cX9_groupSize 103 = .ok (.invokestatic 283, 3) := by decide +kernel
theorem dX9_groupSize_107 : decode cX9_groupSize 107 = .ok (.invokevirtual 278, 3) := by decide +kernel
theorem dX9_groupSize_118 : decode cX9_groupSize 118 = .ok (.getfield 57, 3) := by decide +kernel
theorem dX9_groupSize_121 : decode cX9_groupSize 121 = .ok (.getfield 208, 3) := by decide +kernel
theorem dX9_groupSize_124 : decode cX9_groupSize 124 = .ok (.ireturn, 1) := by decide +kernel
def fX9_groupSize_117  (a0 : Nat) (H : Hp) : Option (Int32 × Hp) :=
  bd (gA H a0 8 7) fun x1 =>
  bd (gI H x1 0 1) fun x2 =>
  some (x2, H)
set_option maxHeartbeats 4000000 in
set_option maxRecDepth 100000 in
theorem tfX9_groupSize_117 {G : GG} {r : Int32} {H' : Hp}   {a0 : Nat} {H : Hp} (h : fX9_groupSize_117  a0 H = some (r, H')) : Sn G (T0 G (some (.int r)) H') mX9_groupSize 117 [some (.ref a0), none, none] [] H := by
  unfold fX9_groupSize_117 at h
  refine sn_blk _ kX9_groupSize_117_0 (pc' := 118) (L' := [some (.ref a0), none, none]) (st' := [.ref a0]) rfl rfl ?_
  obtain ⟨x1, hx1, h⟩ := bd_inv h
  refine sn_gA dX9_groupSize_118 foX9_57 hx1 ?_
  obtain ⟨x2, hx2, h⟩ := bd_inv h
  refine sn_gI dX9_groupSize_121 foX9_208 hx2 ?_
  cases h
  exact sn_iret (ty := .int) dX9_groupSize_124 rfl rfl
def bX9_groupSize_29 (K29 : Nat → Int32 → Hp → Option (Int32 × Hp)) (a0 : Nat) (a1 : Int32) (H : Hp) : Option (Int32 × Hp) :=
  bd (gA H a0 8 7) fun x1 =>
  bd (gI H x1 0 1) fun x2 =>
  if (x2 ≤ a1 : Prop) then
    fX9_groupSize_117  a0 H
  else
    if (128 ≤ a1 : Prop) then
      fX9_groupSize_117  a0 H
    else
      bd (gA H a0 8 7) fun x3 =>
      gp (isO H x3 0 = true) (
        bd2 (FX0_at x3 a1 H) fun x4 H5 =>
        bd (gA H5 a0 8 7) fun x6 =>
        bd (gA H5 a0 8 1) fun x7 =>
        bd (gI H5 x7 2 1) fun x8 =>
        bd (gA H5 a0 8 1) fun x9 =>
        bd (gI H5 x9 2 0) fun x10 =>
        bd2 (FX6_then (Int64.toInt32 x4) x8 x10 H5) fun x11 H12 =>
        gp (isO H12 x6 0 = true) (
          bd2 (FX0_placeOf x6 (Int32.toInt64 x11) H12) fun x13 H14 =>
          bd (gA H14 a0 8 7) fun x15 =>
          bd (gA H14 a0 8 1) fun x16 =>
          bd (gI H14 x16 2 2) fun x17 =>
          bd (gA H14 a0 8 1) fun x18 =>
          bd (gI H14 x18 2 0) fun x19 =>
          bd2 (FX6_then (Int64.toInt32 x4) x17 x19 H14) fun x20 H21 =>
          gp (isO H21 x15 0 = true) (
            bd2 (FX0_placeOf x15 (Int32.toInt64 x20) H21) fun x22 H23 =>
            K29 a0 (a1 + 1) H23
            )
          )
        )
set_option maxHeartbeats 4000000 in
set_option maxRecDepth 100000 in
theorem tbX9_groupSize_29 {G : GG} {r : Int32} {H' : Hp} {K29 : Nat → Int32 → Hp → Option (Int32 × Hp)} (hK29 : ∀ (a0 : Nat) (a1 : Int32) (H : Hp), K29 a0 a1 H = some (r, H') → Sn G (T0 G (some (.int r)) H') mX9_groupSize 29 [some (.ref a0), some (.int a1), none] [] H) {a0 : Nat} {a1 : Int32} {H : Hp} (h : bX9_groupSize_29 K29 a0 a1 H = some (r, H')) : Sn G (T0 G (some (.int r)) H') mX9_groupSize 29 [some (.ref a0), some (.int a1), none] [] H := by
  unfold bX9_groupSize_29 at h
  refine sn_blk _ kX9_groupSize_29_0 (pc' := 31) (L' := [some (.ref a0), some (.int a1), none]) (st' := [.ref a0, .int a1]) rfl rfl ?_
  obtain ⟨x1, hx1, h⟩ := bd_inv h
  refine sn_gA dX9_groupSize_31 foX9_57 hx1 ?_
  obtain ⟨x2, hx2, h⟩ := bd_inv h
  refine sn_gI dX9_groupSize_34 foX9_208 hx2 ?_
  refine sn_icmp_ge (tgt := 117) dX9_groupSize_37 (by decide) (fun c => ?_) (fun c => ?_)
  · rw [if_pos c] at h
    refine sn_msk [true, false, true] (L2 := [some (.ref a0), none, none]) rfl ?_
    exact tfX9_groupSize_117  h
  · rw [if_neg c] at h
    refine sn_blk _ kX9_groupSize_29_1 (pc' := 44) (L' := [some (.ref a0), some (.int a1), none]) (st' := [.int 128, .int a1]) rfl rfl ?_
    refine sn_icmp_ge (tgt := 117) dX9_groupSize_44 (by decide) (fun c => ?_) (fun c => ?_)
    · rw [if_pos c] at h
      refine sn_msk [true, false, true] (L2 := [some (.ref a0), none, none]) rfl ?_
      exact tfX9_groupSize_117  h
    · rw [if_neg c] at h
      refine sn_blk _ kX9_groupSize_29_2 (pc' := 48) (L' := [some (.ref a0), some (.int a1), none]) (st' := [.ref a0]) rfl rfl ?_
      obtain ⟨x3, hx3, h⟩ := bd_inv h
      refine sn_gA dX9_groupSize_48 foX9_57 hx3 ?_
      refine sn_blk _ kX9_groupSize_29_3 (pc' := 52) (L' := [some (.ref a0), some (.int a1), none]) (st' := [.int a1, .ref x3]) rfl rfl ?_
      obtain ⟨ho, h⟩ := gp_inv h
      obtain ⟨fs, ho⟩ := isO_inv ho
      obtain ⟨x4, H5, hx4, h⟩ := bd2_inv h
      refine sn_callv (av := [.int a1]) (st := []) (M2 := mX0_at) dX9_groupSize_52 msX0_at mlX9_281 rfl rfl rfl rfl rfl ho (sX0_at hx4) ?_
      refine sn_blk _ kX9_groupSize_29_4 (pc' := 58) (L' := [some (.ref a0), some (.int a1), some (.int (Int64.toInt32 x4))]) (st' := [.ref a0]) rfl rfl ?_
      obtain ⟨x6, hx6, h⟩ := bd_inv h
      refine sn_gA dX9_groupSize_58 foX9_57 hx6 ?_
      refine sn_blk _ kX9_groupSize_29_5 (pc' := 63) (L' := [some (.ref a0), some (.int a1), some (.int (Int64.toInt32 x4))]) (st' := [.ref a0, .int (Int64.toInt32 x4), .ref x6]) rfl rfl ?_
      obtain ⟨x7, hx7, h⟩ := bd_inv h
      refine sn_gA dX9_groupSize_63 foX9_19 hx7 ?_
      obtain ⟨x8, hx8, h⟩ := bd_inv h
      refine sn_gI dX9_groupSize_66 foX9_162 hx8 ?_
      refine sn_blk _ kX9_groupSize_29_6 (pc' := 70) (L' := [some (.ref a0), some (.int a1), some (.int (Int64.toInt32 x4))]) (st' := [.ref a0, .int x8, .int (Int64.toInt32 x4), .ref x6]) rfl rfl ?_
      obtain ⟨x9, hx9, h⟩ := bd_inv h
      refine sn_gA dX9_groupSize_70 foX9_19 hx9 ?_
      obtain ⟨x10, hx10, h⟩ := bd_inv h
      refine sn_gI dX9_groupSize_73 foX9_108 hx10 ?_
      obtain ⟨x11, H12, hx11, h⟩ := bd2_inv h
      refine sn_calls (av := [.int (Int64.toInt32 x4), .int x8, .int x10]) (st := [.ref x6]) (M2 := mX6_then) dX9_groupSize_76 msX6_then mlX9_283 rfl rfl rfl rfl rfl (sX6_then hx11) ?_
      refine sn_blk _ kX9_groupSize_29_7 (pc' := 80) (L' := [some (.ref a0), some (.int a1), some (.int (Int64.toInt32 x4))]) (st' := [.long (Int32.toInt64 x11), .ref x6]) rfl rfl ?_
      obtain ⟨ho, h⟩ := gp_inv h
      obtain ⟨fs, ho⟩ := isO_inv ho
      obtain ⟨x13, H14, hx13, h⟩ := bd2_inv h
      refine sn_callv (av := [.long (Int32.toInt64 x11)]) (st := []) (M2 := mX0_placeOf) dX9_groupSize_80 msX0_placeOf mlX9_278 rfl rfl rfl rfl rfl ho (sX0_placeOf hx13) ?_
      refine sn_blk _ kX9_groupSize_29_8 (pc' := 85) (L' := [some (.ref a0), some (.int a1), some (.int (Int64.toInt32 x4))]) (st' := [.ref a0]) rfl rfl ?_
      obtain ⟨x15, hx15, h⟩ := bd_inv h
      refine sn_gA dX9_groupSize_85 foX9_57 hx15 ?_
      refine sn_blk _ kX9_groupSize_29_9 (pc' := 90) (L' := [some (.ref a0), some (.int a1), some (.int (Int64.toInt32 x4))]) (st' := [.ref a0, .int (Int64.toInt32 x4), .ref x15]) rfl rfl ?_
      obtain ⟨x16, hx16, h⟩ := bd_inv h
      refine sn_gA dX9_groupSize_90 foX9_19 hx16 ?_
      obtain ⟨x17, hx17, h⟩ := bd_inv h
      refine sn_gI dX9_groupSize_93 foX9_182 hx17 ?_
      refine sn_blk _ kX9_groupSize_29_10 (pc' := 97) (L' := [some (.ref a0), some (.int a1), some (.int (Int64.toInt32 x4))]) (st' := [.ref a0, .int x17, .int (Int64.toInt32 x4), .ref x15]) rfl rfl ?_
      obtain ⟨x18, hx18, h⟩ := bd_inv h
      refine sn_gA dX9_groupSize_97 foX9_19 hx18 ?_
      obtain ⟨x19, hx19, h⟩ := bd_inv h
      refine sn_gI dX9_groupSize_100 foX9_108 hx19 ?_
      obtain ⟨x20, H21, hx20, h⟩ := bd2_inv h
      refine sn_calls (av := [.int (Int64.toInt32 x4), .int x17, .int x19]) (st := [.ref x15]) (M2 := mX6_then) dX9_groupSize_103 msX6_then mlX9_283 rfl rfl rfl rfl rfl (sX6_then hx20) ?_
      refine sn_blk _ kX9_groupSize_29_11 (pc' := 107) (L' := [some (.ref a0), some (.int a1), some (.int (Int64.toInt32 x4))]) (st' := [.long (Int32.toInt64 x20), .ref x15]) rfl rfl ?_
      obtain ⟨ho, h⟩ := gp_inv h
      obtain ⟨fs, ho⟩ := isO_inv ho
      obtain ⟨x22, H23, hx22, h⟩ := bd2_inv h
      refine sn_callv (av := [.long (Int32.toInt64 x20)]) (st := []) (M2 := mX0_placeOf) dX9_groupSize_107 msX0_placeOf mlX9_278 rfl rfl rfl rfl rfl ho (sX0_placeOf hx22) ?_
      refine sn_blk _ kX9_groupSize_29_12 (pc' := 29) (L' := [some (.ref a0), some (.int (a1 + 1)), some (.int (Int64.toInt32 x4))]) (st' := []) rfl rfl ?_
      refine sn_msk [true, true, false] (L2 := [some (.ref a0), some (.int (a1 + 1)), none]) rfl ?_
      exact hK29 _ _ _ h
def fX9_groupSize_29  : Nat → Nat → Int32 → Hp → Option (Int32 × Hp)
  | 0, _, _, _ => none
  | d + 1, a0, a1, H => bX9_groupSize_29 (fX9_groupSize_29  d) a0 a1 H
theorem tfX9_groupSize_29 {G : GG} {r : Int32} {H' : Hp}   : ∀ (d : Nat) {a0 : Nat} {a1 : Int32} {H : Hp}, fX9_groupSize_29  d a0 a1 H = some (r, H') → Sn G (T0 G (some (.int r)) H') mX9_groupSize 29 [some (.ref a0), some (.int a1), none] [] H := by
  intro d
  induction d with
  | zero => intro a0 a1 H h; cases h
  | succ d ih => intro a0 a1 H h; exact tbX9_groupSize_29 (fun a0 a1 H h => ih h) h
def FX9_groupSize  (a0 : Nat) (H : Hp) : Option (Int32 × Hp) :=
  bd (gA H a0 8 7) fun x1 =>
  bd (pV H x1 0 1 (.int 0)) fun H2 =>
  bd (gA H2 a0 8 7) fun x3 =>
  bd (gA H2 a0 8 1) fun x4 =>
  bd (gI H2 x4 2 0) fun x5 =>
  bd2 (FX6_staying x5 H2) fun x6 H7 =>
  gp (isO H7 x3 0 = true) (
    bd2 (FX0_placeOf x3 (Int32.toInt64 x6) H7) fun x8 H9 =>
    fX9_groupSize_29  4096 a0 0 H9
    )
set_option maxHeartbeats 4000000 in
set_option maxRecDepth 100000 in
theorem tFX9_groupSize {G : GG} {r : Int32} {H' : Hp}   {a0 : Nat} {H : Hp} (h : FX9_groupSize  a0 H = some (r, H')) : Sn G (T0 G (some (.int r)) H') mX9_groupSize 0 [some (.ref a0), none, none] [] H := by
  unfold FX9_groupSize at h
  refine sn_blk _ kX9_groupSize_0_0 (pc' := 1) (L' := [some (.ref a0), none, none]) (st' := [.ref a0]) rfl rfl ?_
  obtain ⟨x1, hx1, h⟩ := bd_inv h
  refine sn_gA dX9_groupSize_1 foX9_57 hx1 ?_
  refine sn_blk _ kX9_groupSize_0_1 (pc' := 5) (L' := [some (.ref a0), none, none]) (st' := [.int 0, .ref x1]) rfl rfl ?_
  obtain ⟨H2, hH2, h⟩ := bd_inv h
  refine sn_pI dX9_groupSize_5 foX9_208 fpX0_1 hH2 ?_
  refine sn_blk _ kX9_groupSize_0_2 (pc' := 9) (L' := [some (.ref a0), none, none]) (st' := [.ref a0]) rfl rfl ?_
  obtain ⟨x3, hx3, h⟩ := bd_inv h
  refine sn_gA dX9_groupSize_9 foX9_57 hx3 ?_
  refine sn_blk _ kX9_groupSize_0_3 (pc' := 13) (L' := [some (.ref a0), none, none]) (st' := [.ref a0, .ref x3]) rfl rfl ?_
  obtain ⟨x4, hx4, h⟩ := bd_inv h
  refine sn_gA dX9_groupSize_13 foX9_19 hx4 ?_
  obtain ⟨x5, hx5, h⟩ := bd_inv h
  refine sn_gI dX9_groupSize_16 foX9_108 hx5 ?_
  obtain ⟨x6, H7, hx6, h⟩ := bd2_inv h
  refine sn_calls (av := [.int x5]) (st := [.ref x3]) (M2 := mX6_staying) dX9_groupSize_19 msX6_staying mlX9_275 rfl rfl rfl rfl rfl (sX6_staying hx6) ?_
  refine sn_blk _ kX9_groupSize_0_4 (pc' := 23) (L' := [some (.ref a0), none, none]) (st' := [.long (Int32.toInt64 x6), .ref x3]) rfl rfl ?_
  obtain ⟨ho, h⟩ := gp_inv h
  obtain ⟨fs, ho⟩ := isO_inv ho
  obtain ⟨x8, H9, hx8, h⟩ := bd2_inv h
  refine sn_callv (av := [.long (Int32.toInt64 x6)]) (st := []) (M2 := mX0_placeOf) dX9_groupSize_23 msX0_placeOf mlX9_278 rfl rfl rfl rfl rfl ho (sX0_placeOf hx8) ?_
  refine sn_blk _ kX9_groupSize_0_5 (pc' := 29) (L' := [some (.ref a0), some (.int 0), none]) (st' := []) rfl rfl ?_
  exact tfX9_groupSize_29  4096 h
theorem sX9_groupSize {G : GG} {r : Int32} {H' : Hp} {a0 : Nat} {H : Hp} (h : FX9_groupSize a0 H = some (r, H')) : SM G mX9_groupSize [.ref a0] H (some (.int r)) H' := tFX9_groupSize h
/-! SquareFolds.about(I)I -/
theorem kX9_about_0_0 : decB cX9_about 0 [(.iload_n 1, .null)] = true := by decide +kernel
theorem kX9_about_0_1 : decB cX9_about 60 [(.aload_n 0, .null)] = true := by decide +kernel
theorem kX9_about_0_2 : decB cX9_about 68 [(.aload_n 0, .null)] = true := by decide +kernel
theorem kX9_about_0_3 : decB cX9_about 72 [(.aload_n 0, .null)] = true := by decide +kernel
theorem kX9_about_0_4 : decB cX9_about 83 [(.aload_n 0, .null)] = true := by decide +kernel
theorem kX9_about_0_5 : decB cX9_about 91 [(.aload_n 0, .null)] = true := by decide +kernel
theorem kX9_about_0_6 : decB cX9_about 99 [(.aload_n 0, .null)] = true := by decide +kernel
theorem kX9_about_0_7 : decB cX9_about 107 [(.aload_n 0, .null)] = true := by decide +kernel
theorem kX9_about_0_8 : decB cX9_about 115 [(.aload_n 0, .null)] = true := by decide +kernel
theorem kX9_about_0_9 : decB cX9_about 123 [(.aload_n 0, .null)] = true := by decide +kernel
theorem kX9_about_0_10 : decB cX9_about 128 [(.aload_n 0, .null)] = true := by decide +kernel
theorem kX9_about_0_11 : decB cX9_about 136 [(.aload_n 0, .null)] = true := by decide +kernel
theorem kX9_about_0_12 : decB cX9_about 144 [(.aload_n 0, .null)] = true := by decide +kernel
theorem kX9_about_0_13 : decB cX9_about 152 [(.bipush (-2), .int (-2))] = true := by decide +kernel
theorem dX9_about_1 : decode cX9_about 1 = .ok (.tableswitch 151 0 10 #[59, 67, 82, 90, 98, 106, 114, 122, 127, 135, 143], 59) := by decide +kernel
theorem dX9_about_61 : decode cX9_about 61 = .ok (.getfield 19, 3) := by decide +kernel
theorem dX9_about_64 : decode cX9_about 64 = .ok (.getfield 108, 3) := by decide +kernel
theorem dX9_about_67 : decode cX9_about 67 = .ok (.ireturn, 1) := by decide +kernel
theorem dX9_about_69 : decode cX9_about 69 = .ok (.getfield 19, 3) := by decide +kernel
theorem dX9_about_73 : decode cX9_about 73 = .ok (.getfield 19, 3) := by decide +kernel
theorem dX9_about_76 : decode cX9_about 76 = .ok (.invokevirtual 102, 3) := by decide +kernel
theorem dX9_about_79 : decode cX9_about 79 = .ok (.invokevirtual 105, 3) := by decide +kernel
theorem dX9_about_82 : decode cX9_about 82 = .ok (.ireturn, 1) := by decide +kernel
theorem dX9_about_84 : decode cX9_about 84 = .ok (.getfield 19, 3) := by decide +kernel
theorem dX9_about_87 : decode cX9_about 87 = .ok (.invokevirtual 111, 3) := by decide +kernel
theorem dX9_about_90 : decode cX9_about 90 = .ok (.ireturn, 1) := by decide +kernel
theorem dX9_about_92 : decode cX9_about 92 = .ok (.getfield 19, 3) := by decide +kernel
theorem dX9_about_95 : decode cX9_about 95 = .ok (.invokevirtual 114, 3) := by decide +kernel
theorem dX9_about_98 : decode cX9_about 98 = .ok (.ireturn, 1) := by decide +kernel
theorem dX9_about_100 : decode cX9_about 100 = .ok (.getfield 19, 3) := by decide +kernel
theorem dX9_about_103 : decode cX9_about 103 = .ok (.invokevirtual 117, 3) := by decide +kernel
theorem dX9_about_106 : decode cX9_about 106 = .ok (.ireturn, 1) := by decide +kernel
theorem dX9_about_108 : decode cX9_about 108 = .ok (.getfield 19, 3) := by decide +kernel
theorem dX9_about_111 : decode cX9_about 111 = .ok (.invokevirtual 120, 3) := by decide +kernel
theorem dX9_about_114 : decode cX9_about 114 = .ok (.ireturn, 1) := by decide +kernel
theorem dX9_about_116 : decode cX9_about 116 = .ok (.getfield 19, 3) := by decide +kernel
theorem dX9_about_119 : decode cX9_about 119 = .ok (.invokevirtual 123, 3) := by decide +kernel
theorem dX9_about_122 : decode cX9_about 122 = .ok (.ireturn, 1) := by decide +kernel
theorem dX9_about_124 : decode cX9_about 124 = .ok (.invokevirtual 126, 3) := by decide +kernel
theorem dX9_about_127 : decode cX9_about 127 = .ok (.ireturn, 1) := by decide +kernel
theorem dX9_about_129 : decode cX9_about 129 = .ok (.getfield 29, 3) := by decide +kernel
theorem dX9_about_132 : decode cX9_about 132 = .ok (.getfield 96, 3) := by decide +kernel
theorem dX9_about_135 : decode cX9_about 135 = .ok (.ireturn, 1) := by decide +kernel
theorem dX9_about_137 : decode cX9_about 137 = .ok (.getfield 43, 3) := by decide +kernel
theorem dX9_about_140 : decode cX9_about 140 = .ok (.getfield 129, 3) := by decide +kernel
theorem dX9_about_143 : decode cX9_about 143 = .ok (.ireturn, 1) := by decide +kernel
theorem dX9_about_145 : decode cX9_about 145 = .ok (.getfield 10, 3) := by decide +kernel
theorem dX9_about_148 : decode cX9_about 148 = .ok (.getfield 76, 3) := by decide +kernel
theorem dX9_about_151 : decode cX9_about 151 = .ok (.ireturn, 1) := by decide +kernel
theorem dX9_about_154 : decode cX9_about 154 = .ok (.ireturn, 1) := by decide +kernel
def FX9_about  (a0 : Nat) (a1 : Int32) (H : Hp) : Option (Int32 × Hp) :=
  if a1 = (0 : Int32) then
    bd (gA H a0 8 1) fun x1 =>
    bd (gI H x1 2 0) fun x2 =>
    some (x2, H)
  else
    if a1 = (1 : Int32) then
      bd (gA H a0 8 1) fun x3 =>
      bd (gA H a0 8 1) fun x4 =>
      gp (isO H x4 2 = true) (
        bd2 (FX2_all x4  H) fun x5 H6 =>
        gp (isO H6 x3 2 = true) (
          bd2 (FX2_pieces x3 x5 H6) fun x7 H8 =>
          some (x7, H8)
          )
        )
    else
      if a1 = (2 : Int32) then
        bd (gA H a0 8 1) fun x9 =>
        gp (isO H x9 2 = true) (
          bd2 (FX2_corners x9  H) fun x10 H11 =>
          some (x10, H11)
          )
      else
        if a1 = (3 : Int32) then
          bd (gA H a0 8 1) fun x12 =>
          gp (isO H x12 2 = true) (
            bd2 (FX2_ordinaryCorners x12  H) fun x13 H14 =>
            some (x13, H14)
            )
        else
          if a1 = (4 : Int32) then
            bd (gA H a0 8 1) fun x15 =>
            gp (isO H x15 2 = true) (
              bd2 (FX2_mostTurns x15  H) fun x16 H17 =>
              some (x16, H17)
              )
          else
            if a1 = (5 : Int32) then
              bd (gA H a0 8 1) fun x18 =>
              gp (isO H x18 2 = true) (
                bd2 (FX2_rows x18  H) fun x19 H20 =>
                some (x19, H20)
                )
            else
              if a1 = (6 : Int32) then
                bd (gA H a0 8 1) fun x21 =>
                gp (isO H x21 2 = true) (
                  bd2 (FX2_bands x21  H) fun x22 H23 =>
                  some (x22, H23)
                  )
              else
                if a1 = (7 : Int32) then
                  gp (isO H a0 8 = true) (
                    bd2 (FX9_groupSize a0  H) fun x24 H25 =>
                    some (x24, H25)
                    )
                else
                  if a1 = (8 : Int32) then
                    bd (gA H a0 8 3) fun x26 =>
                    bd (gI H x26 5 2) fun x27 =>
                    some (x27, H)
                  else
                    if a1 = (9 : Int32) then
                      bd (gA H a0 8 5) fun x28 =>
                      bd (gI H x28 6 2) fun x29 =>
                      some (x29, H)
                    else
                      if a1 = (10 : Int32) then
                        bd (gA H a0 8 0) fun x30 =>
                        bd (gI H x30 3 1) fun x31 =>
                        some (x31, H)
                      else
                        some ((-2), H)
set_option maxHeartbeats 4000000 in
set_option maxRecDepth 100000 in
theorem tFX9_about {G : GG} {r : Int32} {H' : Hp}   {a0 : Nat} {a1 : Int32} {H : Hp} (h : FX9_about  a0 a1 H = some (r, H')) : Sn G (T0 G (some (.int r)) H') mX9_about 0 [some (.ref a0), some (.int a1)] [] H := by
  unfold FX9_about at h
  refine sn_blk _ kX9_about_0_0 (pc' := 1) (L' := [some (.ref a0), some (.int a1)]) (st' := [.int a1]) rfl rfl ?_
  by_cases c1_0 : a1 = (0 : Int32)
  · rw [if_pos c1_0] at h
    refine sn_tblIn (off := 59) (tgt := 60) dX9_about_1 (by rw [c1_0]; decide) (by rw [c1_0]; decide) (by rw [c1_0]; decide +kernel) (by decide) ?_
    refine sn_blk _ kX9_about_0_1 (pc' := 61) (L' := [some (.ref a0), some (.int a1)]) (st' := [.ref a0]) rfl rfl ?_
    obtain ⟨x1, hx1, h⟩ := bd_inv h
    refine sn_gA dX9_about_61 foX9_19 hx1 ?_
    obtain ⟨x2, hx2, h⟩ := bd_inv h
    refine sn_gI dX9_about_64 foX9_108 hx2 ?_
    cases h
    exact sn_iret (ty := .int) dX9_about_67 rfl rfl
  · rw [if_neg c1_0] at h
    by_cases c1_1 : a1 = (1 : Int32)
    · rw [if_pos c1_1] at h
      refine sn_tblIn (off := 67) (tgt := 68) dX9_about_1 (by rw [c1_1]; decide) (by rw [c1_1]; decide) (by rw [c1_1]; decide +kernel) (by decide) ?_
      refine sn_blk _ kX9_about_0_2 (pc' := 69) (L' := [some (.ref a0), some (.int a1)]) (st' := [.ref a0]) rfl rfl ?_
      obtain ⟨x3, hx3, h⟩ := bd_inv h
      refine sn_gA dX9_about_69 foX9_19 hx3 ?_
      refine sn_blk _ kX9_about_0_3 (pc' := 73) (L' := [some (.ref a0), some (.int a1)]) (st' := [.ref a0, .ref x3]) rfl rfl ?_
      obtain ⟨x4, hx4, h⟩ := bd_inv h
      refine sn_gA dX9_about_73 foX9_19 hx4 ?_
      obtain ⟨ho, h⟩ := gp_inv h
      obtain ⟨fs, ho⟩ := isO_inv ho
      obtain ⟨x5, H6, hx5, h⟩ := bd2_inv h
      refine sn_callv (av := []) (st := [.ref x3]) (M2 := mX2_all) dX9_about_76 msX2_all mlX9_102 rfl rfl rfl rfl rfl ho (sX2_all hx5) ?_
      obtain ⟨ho, h⟩ := gp_inv h
      obtain ⟨fs, ho⟩ := isO_inv ho
      obtain ⟨x7, H8, hx7, h⟩ := bd2_inv h
      refine sn_callv (av := [.int x5]) (st := []) (M2 := mX2_pieces) dX9_about_79 msX2_pieces mlX9_105 rfl rfl rfl rfl rfl ho (sX2_pieces hx7) ?_
      cases h
      exact sn_iret (ty := .int) dX9_about_82 rfl rfl
    · rw [if_neg c1_1] at h
      by_cases c1_2 : a1 = (2 : Int32)
      · rw [if_pos c1_2] at h
        refine sn_tblIn (off := 82) (tgt := 83) dX9_about_1 (by rw [c1_2]; decide) (by rw [c1_2]; decide) (by rw [c1_2]; decide +kernel) (by decide) ?_
        refine sn_blk _ kX9_about_0_4 (pc' := 84) (L' := [some (.ref a0), some (.int a1)]) (st' := [.ref a0]) rfl rfl ?_
        obtain ⟨x9, hx9, h⟩ := bd_inv h
        refine sn_gA dX9_about_84 foX9_19 hx9 ?_
        obtain ⟨ho, h⟩ := gp_inv h
        obtain ⟨fs, ho⟩ := isO_inv ho
        obtain ⟨x10, H11, hx10, h⟩ := bd2_inv h
        refine sn_callv (av := []) (st := []) (M2 := mX2_corners) dX9_about_87 msX2_corners mlX9_111 rfl rfl rfl rfl rfl ho (sX2_corners hx10) ?_
        cases h
        exact sn_iret (ty := .int) dX9_about_90 rfl rfl
      · rw [if_neg c1_2] at h
        by_cases c1_3 : a1 = (3 : Int32)
        · rw [if_pos c1_3] at h
          refine sn_tblIn (off := 90) (tgt := 91) dX9_about_1 (by rw [c1_3]; decide) (by rw [c1_3]; decide) (by rw [c1_3]; decide +kernel) (by decide) ?_
          refine sn_blk _ kX9_about_0_5 (pc' := 92) (L' := [some (.ref a0), some (.int a1)]) (st' := [.ref a0]) rfl rfl ?_
          obtain ⟨x12, hx12, h⟩ := bd_inv h
          refine sn_gA dX9_about_92 foX9_19 hx12 ?_
          obtain ⟨ho, h⟩ := gp_inv h
          obtain ⟨fs, ho⟩ := isO_inv ho
          obtain ⟨x13, H14, hx13, h⟩ := bd2_inv h
          refine sn_callv (av := []) (st := []) (M2 := mX2_ordinaryCorners) dX9_about_95 msX2_ordinaryCorners mlX9_114 rfl rfl rfl rfl rfl ho (sX2_ordinaryCorners hx13) ?_
          cases h
          exact sn_iret (ty := .int) dX9_about_98 rfl rfl
        · rw [if_neg c1_3] at h
          by_cases c1_4 : a1 = (4 : Int32)
          · rw [if_pos c1_4] at h
            refine sn_tblIn (off := 98) (tgt := 99) dX9_about_1 (by rw [c1_4]; decide) (by rw [c1_4]; decide) (by rw [c1_4]; decide +kernel) (by decide) ?_
            refine sn_blk _ kX9_about_0_6 (pc' := 100) (L' := [some (.ref a0), some (.int a1)]) (st' := [.ref a0]) rfl rfl ?_
            obtain ⟨x15, hx15, h⟩ := bd_inv h
            refine sn_gA dX9_about_100 foX9_19 hx15 ?_
            obtain ⟨ho, h⟩ := gp_inv h
            obtain ⟨fs, ho⟩ := isO_inv ho
            obtain ⟨x16, H17, hx16, h⟩ := bd2_inv h
            refine sn_callv (av := []) (st := []) (M2 := mX2_mostTurns) dX9_about_103 msX2_mostTurns mlX9_117 rfl rfl rfl rfl rfl ho (sX2_mostTurns hx16) ?_
            cases h
            exact sn_iret (ty := .int) dX9_about_106 rfl rfl
          · rw [if_neg c1_4] at h
            by_cases c1_5 : a1 = (5 : Int32)
            · rw [if_pos c1_5] at h
              refine sn_tblIn (off := 106) (tgt := 107) dX9_about_1 (by rw [c1_5]; decide) (by rw [c1_5]; decide) (by rw [c1_5]; decide +kernel) (by decide) ?_
              refine sn_blk _ kX9_about_0_7 (pc' := 108) (L' := [some (.ref a0), some (.int a1)]) (st' := [.ref a0]) rfl rfl ?_
              obtain ⟨x18, hx18, h⟩ := bd_inv h
              refine sn_gA dX9_about_108 foX9_19 hx18 ?_
              obtain ⟨ho, h⟩ := gp_inv h
              obtain ⟨fs, ho⟩ := isO_inv ho
              obtain ⟨x19, H20, hx19, h⟩ := bd2_inv h
              refine sn_callv (av := []) (st := []) (M2 := mX2_rows) dX9_about_111 msX2_rows mlX9_120 rfl rfl rfl rfl rfl ho (sX2_rows hx19) ?_
              cases h
              exact sn_iret (ty := .int) dX9_about_114 rfl rfl
            · rw [if_neg c1_5] at h
              by_cases c1_6 : a1 = (6 : Int32)
              · rw [if_pos c1_6] at h
                refine sn_tblIn (off := 114) (tgt := 115) dX9_about_1 (by rw [c1_6]; decide) (by rw [c1_6]; decide) (by rw [c1_6]; decide +kernel) (by decide) ?_
                refine sn_blk _ kX9_about_0_8 (pc' := 116) (L' := [some (.ref a0), some (.int a1)]) (st' := [.ref a0]) rfl rfl ?_
                obtain ⟨x21, hx21, h⟩ := bd_inv h
                refine sn_gA dX9_about_116 foX9_19 hx21 ?_
                obtain ⟨ho, h⟩ := gp_inv h
                obtain ⟨fs, ho⟩ := isO_inv ho
                obtain ⟨x22, H23, hx22, h⟩ := bd2_inv h
                refine sn_callv (av := []) (st := []) (M2 := mX2_bands) dX9_about_119 msX2_bands mlX9_123 rfl rfl rfl rfl rfl ho (sX2_bands hx22) ?_
                cases h
                exact sn_iret (ty := .int) dX9_about_122 rfl rfl
              · rw [if_neg c1_6] at h
                by_cases c1_7 : a1 = (7 : Int32)
                · rw [if_pos c1_7] at h
                  refine sn_tblIn (off := 122) (tgt := 123) dX9_about_1 (by rw [c1_7]; decide) (by rw [c1_7]; decide) (by rw [c1_7]; decide +kernel) (by decide) ?_
                  refine sn_blk _ kX9_about_0_9 (pc' := 124) (L' := [some (.ref a0), some (.int a1)]) (st' := [.ref a0]) rfl rfl ?_
                  obtain ⟨ho, h⟩ := gp_inv h
                  obtain ⟨fs, ho⟩ := isO_inv ho
                  obtain ⟨x24, H25, hx24, h⟩ := bd2_inv h
                  refine sn_callv (av := []) (st := []) (M2 := mX9_groupSize) dX9_about_124 msX9_groupSize mlX9_126 rfl rfl rfl rfl rfl ho (sX9_groupSize hx24) ?_
                  cases h
                  exact sn_iret (ty := .int) dX9_about_127 rfl rfl
                · rw [if_neg c1_7] at h
                  by_cases c1_8 : a1 = (8 : Int32)
                  · rw [if_pos c1_8] at h
                    refine sn_tblIn (off := 127) (tgt := 128) dX9_about_1 (by rw [c1_8]; decide) (by rw [c1_8]; decide) (by rw [c1_8]; decide +kernel) (by decide) ?_
                    refine sn_blk _ kX9_about_0_10 (pc' := 129) (L' := [some (.ref a0), some (.int a1)]) (st' := [.ref a0]) rfl rfl ?_
                    obtain ⟨x26, hx26, h⟩ := bd_inv h
                    refine sn_gA dX9_about_129 foX9_29 hx26 ?_
                    obtain ⟨x27, hx27, h⟩ := bd_inv h
                    refine sn_gI dX9_about_132 foX9_96 hx27 ?_
                    cases h
                    exact sn_iret (ty := .int) dX9_about_135 rfl rfl
                  · rw [if_neg c1_8] at h
                    by_cases c1_9 : a1 = (9 : Int32)
                    · rw [if_pos c1_9] at h
                      refine sn_tblIn (off := 135) (tgt := 136) dX9_about_1 (by rw [c1_9]; decide) (by rw [c1_9]; decide) (by rw [c1_9]; decide +kernel) (by decide) ?_
                      refine sn_blk _ kX9_about_0_11 (pc' := 137) (L' := [some (.ref a0), some (.int a1)]) (st' := [.ref a0]) rfl rfl ?_
                      obtain ⟨x28, hx28, h⟩ := bd_inv h
                      refine sn_gA dX9_about_137 foX9_43 hx28 ?_
                      obtain ⟨x29, hx29, h⟩ := bd_inv h
                      refine sn_gI dX9_about_140 foX9_129 hx29 ?_
                      cases h
                      exact sn_iret (ty := .int) dX9_about_143 rfl rfl
                    · rw [if_neg c1_9] at h
                      by_cases c1_10 : a1 = (10 : Int32)
                      · rw [if_pos c1_10] at h
                        refine sn_tblIn (off := 143) (tgt := 144) dX9_about_1 (by rw [c1_10]; decide) (by rw [c1_10]; decide) (by rw [c1_10]; decide +kernel) (by decide) ?_
                        refine sn_blk _ kX9_about_0_12 (pc' := 145) (L' := [some (.ref a0), some (.int a1)]) (st' := [.ref a0]) rfl rfl ?_
                        obtain ⟨x30, hx30, h⟩ := bd_inv h
                        refine sn_gA dX9_about_145 foX9_10 hx30 ?_
                        obtain ⟨x31, hx31, h⟩ := bd_inv h
                        refine sn_gI dX9_about_148 foX9_76 hx31 ?_
                        cases h
                        exact sn_iret (ty := .int) dX9_about_151 rfl rfl
                      · rw [if_neg c1_10] at h
                        refine sn_tblOut (tgt := 152) dX9_about_1 (sw_out (fun k h1 h2 e => ?_)) (by decide) ?_
                        · rcases (show k = 0 ∨ k = 1 ∨ k = 2 ∨ k = 3 ∨ k = 4 ∨ k = 5 ∨ k = 6 ∨ k = 7 ∨ k = 8 ∨ k = 9 ∨ k = 10 by omega) with rfl | rfl | rfl | rfl | rfl | rfl | rfl | rfl | rfl | rfl | rfl
                          · exact c1_0 (Int32.toInt_inj.mp e)
                          · exact c1_1 (Int32.toInt_inj.mp e)
                          · exact c1_2 (Int32.toInt_inj.mp e)
                          · exact c1_3 (Int32.toInt_inj.mp e)
                          · exact c1_4 (Int32.toInt_inj.mp e)
                          · exact c1_5 (Int32.toInt_inj.mp e)
                          · exact c1_6 (Int32.toInt_inj.mp e)
                          · exact c1_7 (Int32.toInt_inj.mp e)
                          · exact c1_8 (Int32.toInt_inj.mp e)
                          · exact c1_9 (Int32.toInt_inj.mp e)
                          · exact c1_10 (Int32.toInt_inj.mp e)
                        · refine sn_blk _ kX9_about_0_13 (pc' := 154) (L' := [some (.ref a0), some (.int a1)]) (st' := [.int (-2)]) rfl rfl ?_
                          cases h
                          exact sn_iret (ty := .int) dX9_about_154 rfl rfl
theorem sX9_about {G : GG} {r : Int32} {H' : Hp} {a0 : Nat} {a1 : Int32} {H : Hp} (h : FX9_about a0 a1 H = some (r, H')) : SM G mX9_about [.ref a0, .int a1] H (some (.int r)) H' := tFX9_about h
/-! SquareFolds.go(II)I -/
theorem kX9_go_0_0 : decB cX9_go 0 [(.aload_n 0, .null)] = true := by decide +kernel
theorem kX9_go_0_1 : decB cX9_go 4 [(.iload_n 1, .null)] = true := by decide +kernel
theorem kX9_go_0_2 : decB cX9_go 13 [(.iload_n 2, .null), (.iconst 1, .int 1)] = true := by decide +kernel
theorem kX9_go_0_3 : decB cX9_go 23 [(.bipush (-2), .int (-2)), (.goto 12, .retAddr 37)] = true := by decide +kernel
theorem kX9_go_0_4 : decB cX9_go 18 [(.iload_n 2, .null), (.iconst 4, .int 4)] = true := by decide +kernel
theorem kX9_go_0_5 : decB cX9_go 28 [(.aload_n 0, .null)] = true := by decide +kernel
theorem kX9_go_0_6 : decB cX9_go 32 [(.iload_n 1, .null), (.iload_n 2, .null)] = true := by decide +kernel
theorem kX9_go_0_7 : decB cX9_go 23 [(.bipush (-2), .int (-2)), (.goto 12, .retAddr 37)] = true := by decide +kernel
theorem kX9_go_0_8 : decB cX9_go 11 [(.iconst (-1), .int (-1))] = true := by decide +kernel
theorem dX9_go_1 : decode cX9_go 1 = .ok (.getfield 19, 3) := by decide +kernel
theorem dX9_go_5 : decode cX9_go 5 = .ok (.invokevirtual 130, 3) := by decide +kernel
theorem dX9_go_8 : decode cX9_go 8 = .ok (.ifCond .ne 5, 3) := by decide +kernel
theorem dX9_go_12 : decode cX9_go 12 = .ok (.ireturn, 1) := by decide +kernel
theorem dX9_go_15 : decode cX9_go 15 = .ok (.if_icmp .lt 8, 3) := by decide +kernel
theorem dX9_go_20 : decode cX9_go 20 = .ok (.if_icmp .le 8, 3) := by decide +kernel
theorem dX9_go_29 : decode cX9_go 29 = .ok (.getfield 19, 3) := by decide +kernel
theorem dX9_go_34 : decode cX9_go 34 = .ok (.invokevirtual 133, 3) := by decide +kernel
theorem dX9_go_37 : decode cX9_go 37 = .ok (.ireturn, 1) := by decide +kernel
def FX9_go  (a0 : Nat) (a1 : Int32) (a2 : Int32) (H : Hp) : Option (Int32 × Hp) :=
  bd (gA H a0 8 1) fun x1 =>
  gp (isO H x1 2 = true) (
    bd2 (FX2_has x1 a1 H) fun x2 H3 =>
    if (x2 = 0 : Prop) then
      some ((-1), H3)
    else
      if (a2 < 1 : Prop) then
        some ((-2), H3)
      else
        if (a2 ≤ 4 : Prop) then
          bd (gA H3 a0 8 1) fun x4 =>
          gp (isO H3 x4 2 = true) (
            bd2 (FX2_moved x4 a1 a2 H3) fun x5 H6 =>
            some (x5, H6)
            )
        else
          some ((-2), H3)
    )
set_option maxHeartbeats 4000000 in
set_option maxRecDepth 100000 in
theorem tFX9_go {G : GG} {r : Int32} {H' : Hp}   {a0 : Nat} {a1 : Int32} {a2 : Int32} {H : Hp} (h : FX9_go  a0 a1 a2 H = some (r, H')) : Sn G (T0 G (some (.int r)) H') mX9_go 0 [some (.ref a0), some (.int a1), some (.int a2)] [] H := by
  unfold FX9_go at h
  refine sn_blk _ kX9_go_0_0 (pc' := 1) (L' := [some (.ref a0), some (.int a1), some (.int a2)]) (st' := [.ref a0]) rfl rfl ?_
  obtain ⟨x1, hx1, h⟩ := bd_inv h
  refine sn_gA dX9_go_1 foX9_19 hx1 ?_
  refine sn_blk _ kX9_go_0_1 (pc' := 5) (L' := [some (.ref a0), some (.int a1), some (.int a2)]) (st' := [.int a1, .ref x1]) rfl rfl ?_
  obtain ⟨ho, h⟩ := gp_inv h
  obtain ⟨fs, ho⟩ := isO_inv ho
  obtain ⟨x2, H3, hx2, h⟩ := bd2_inv h
  refine sn_callv (av := [.int a1]) (st := []) (M2 := mX2_has) dX9_go_5 msX2_has mlX9_130 rfl rfl rfl rfl rfl ho (sX2_has hx2) ?_
  refine sn_if_ne (tgt := 13) dX9_go_8 (by decide) (fun c => ?_) (fun c => ?_)
  · rw [if_neg c] at h
    refine sn_blk _ kX9_go_0_2 (pc' := 15) (L' := [some (.ref a0), some (.int a1), some (.int a2)]) (st' := [.int 1, .int a2]) rfl rfl ?_
    refine sn_icmp_lt (tgt := 23) dX9_go_15 (by decide) (fun c => ?_) (fun c => ?_)
    · rw [if_pos c] at h
      refine sn_blk _ kX9_go_0_3 (pc' := 37) (L' := [some (.ref a0), some (.int a1), some (.int a2)]) (st' := [.int (-2)]) rfl rfl ?_
      cases h
      exact sn_iret (ty := .int) dX9_go_37 rfl rfl
    · rw [if_neg c] at h
      refine sn_blk _ kX9_go_0_4 (pc' := 20) (L' := [some (.ref a0), some (.int a1), some (.int a2)]) (st' := [.int 4, .int a2]) rfl rfl ?_
      refine sn_icmp_le (tgt := 28) dX9_go_20 (by decide) (fun c => ?_) (fun c => ?_)
      · rw [if_pos c] at h
        refine sn_blk _ kX9_go_0_5 (pc' := 29) (L' := [some (.ref a0), some (.int a1), some (.int a2)]) (st' := [.ref a0]) rfl rfl ?_
        obtain ⟨x4, hx4, h⟩ := bd_inv h
        refine sn_gA dX9_go_29 foX9_19 hx4 ?_
        refine sn_blk _ kX9_go_0_6 (pc' := 34) (L' := [some (.ref a0), some (.int a1), some (.int a2)]) (st' := [.int a2, .int a1, .ref x4]) rfl rfl ?_
        obtain ⟨ho, h⟩ := gp_inv h
        obtain ⟨fs, ho⟩ := isO_inv ho
        obtain ⟨x5, H6, hx5, h⟩ := bd2_inv h
        refine sn_callv (av := [.int a1, .int a2]) (st := []) (M2 := mX2_moved) dX9_go_34 msX2_moved mlX9_133 rfl rfl rfl rfl rfl ho (sX2_moved hx5) ?_
        cases h
        exact sn_iret (ty := .int) dX9_go_37 rfl rfl
      · rw [if_neg c] at h
        refine sn_blk _ kX9_go_0_7 (pc' := 37) (L' := [some (.ref a0), some (.int a1), some (.int a2)]) (st' := [.int (-2)]) rfl rfl ?_
        cases h
        exact sn_iret (ty := .int) dX9_go_37 rfl rfl
  · rw [if_pos c] at h
    refine sn_blk _ kX9_go_0_8 (pc' := 12) (L' := [some (.ref a0), some (.int a1), some (.int a2)]) (st' := [.int (-1)]) rfl rfl ?_
    cases h
    exact sn_iret (ty := .int) dX9_go_12 rfl rfl
theorem sX9_go {G : GG} {r : Int32} {H' : Hp} {a0 : Nat} {a1 : Int32} {a2 : Int32} {H : Hp} (h : FX9_go a0 a1 a2 H = some (r, H')) : SM G mX9_go [.ref a0, .int a1, .int a2] H (some (.int r)) H' := tFX9_go h
/-! SquareFolds.isWay(I)Z -/
theorem kX9_isWay_0_0 : decB cX9_isWay 0 [(.iload_n 0, .null), (.iconst 1, .int 1)] = true := by decide +kernel
theorem kX9_isWay_0_1 : decB cX9_isWay 12 [(.iconst 0, .int 0)] = true := by decide +kernel
theorem kX9_isWay_0_2 : decB cX9_isWay 5 [(.iload_n 0, .null), (.sipush 4444, .int 4444)] = true := by decide +kernel
theorem kX9_isWay_0_3 : decB cX9_isWay 14 [(.iload_n 0, .null), (.istore_n 1, .null)] = true := by decide +kernel
theorem kX9_isWay_0_4 : decB cX9_isWay 12 [(.iconst 0, .int 0)] = true := by decide +kernel
theorem kX9_isWay_16_0 : decB cX9_isWay 16 [(.iload_n 1, .null)] = true := by decide +kernel
theorem kX9_isWay_16_1 : decB cX9_isWay 45 [(.iconst 1, .int 1)] = true := by decide +kernel
theorem kX9_isWay_16_2 : decB cX9_isWay 20 [(.iload_n 1, .null), (.bipush 10, .int 10)] = true := by decide +kernel
theorem kX9_isWay_16_3 : decB cX9_isWay 24 [(.istore_n 2, .null), (.iload_n 2, .null), (.iconst 1, .int 1)] = true := by decide +kernel
theorem kX9_isWay_16_4 : decB cX9_isWay 35 [(.iconst 0, .int 0)] = true := by decide +kernel
theorem kX9_isWay_16_5 : decB cX9_isWay 30 [(.iload_n 2, .null), (.iconst 4, .int 4)] = true := by decide +kernel
theorem kX9_isWay_16_6 : decB cX9_isWay 37 [(.iload_n 1, .null), (.bipush 10, .int 10)] = true := by decide +kernel
theorem kX9_isWay_16_7 : decB cX9_isWay 41 [(.istore_n 1, .null), (.goto (-26), .retAddr 16)] = true := by decide +kernel
theorem kX9_isWay_16_8 : decB cX9_isWay 35 [(.iconst 0, .int 0)] = true := by decide +kernel
theorem dX9_isWay_2 : decode cX9_isWay 2 = .ok (.if_icmp .lt 10, 3) := by decide +kernel
theorem dX9_isWay_9 : decode cX9_isWay 9 = .ok (.if_icmp .le 5, 3) := by decide +kernel
theorem dX9_isWay_13 : decode cX9_isWay 13 = .ok (.ireturn, 1) := by decide +kernel
theorem dX9_isWay_17 : decode cX9_isWay 17 = .ok (.ifCond .le 28, 3) := by decide +kernel
theorem dX9_isWay_23 : decode cX9_isWay 23 = .ok (.irem, 1) := by decide +kernel
theorem dX9_isWay_27 : decode cX9_isWay 27 = .ok (.if_icmp .lt 8, 3) := by decide +kernel
theorem dX9_isWay_32 : decode cX9_isWay 32 = .ok (.if_icmp .le 5, 3) := by decide +kernel
theorem dX9_isWay_36 : decode cX9_isWay 36 = .ok (.ireturn, 1) := by decide +kernel
theorem dX9_isWay_40 : decode cX9_isWay 40 = .ok (.idiv, 1) := by decide +kernel
theorem dX9_isWay_46 : decode cX9_isWay 46 = .ok (.ireturn, 1) := by decide +kernel
def bX9_isWay_16 (K16 : Int32 → Hp → Option (Int32 × Hp)) (a1 : Int32) (H : Hp) : Option (Int32 × Hp) :=
  if (a1 ≤ 0 : Prop) then
    some (1, H)
  else
    if ((rI a1 10) < 1 : Prop) then
      some (0, H)
    else
      if ((rI a1 10) ≤ 4 : Prop) then
        K16 (a1 / 10) H
      else
        some (0, H)
set_option maxHeartbeats 4000000 in
set_option maxRecDepth 100000 in
theorem tbX9_isWay_16 {G : GG} {r : Int32} {H' : Hp} {K16 : Int32 → Hp → Option (Int32 × Hp)} (hK16 : ∀ (a1 : Int32) (H : Hp), K16 a1 H = some (r, H') → Sn G (T0 G (some (.int r)) H') mX9_isWay 16 [none, some (.int a1), none] [] H) {a1 : Int32} {H : Hp} (h : bX9_isWay_16 K16 a1 H = some (r, H')) : Sn G (T0 G (some (.int r)) H') mX9_isWay 16 [none, some (.int a1), none] [] H := by
  unfold bX9_isWay_16 at h
  refine sn_blk _ kX9_isWay_16_0 (pc' := 17) (L' := [none, some (.int a1), none]) (st' := [.int a1]) rfl rfl ?_
  refine sn_if_le (tgt := 45) dX9_isWay_17 (by decide) (fun c => ?_) (fun c => ?_)
  · rw [if_pos c] at h
    refine sn_blk _ kX9_isWay_16_1 (pc' := 46) (L' := [none, some (.int a1), none]) (st' := [.int 1]) rfl rfl ?_
    cases h
    exact sn_iret (ty := .boolean) dX9_isWay_46 rfl rfl
  · rw [if_neg c] at h
    refine sn_blk _ kX9_isWay_16_2 (pc' := 23) (L' := [none, some (.int a1), none]) (st' := [.int 10, .int a1]) rfl rfl ?_
    refine sn_irem dX9_isWay_23 (by decide) ?_
    refine sn_blk _ kX9_isWay_16_3 (pc' := 27) (L' := [none, some (.int a1), some (.int (rI a1 10))]) (st' := [.int 1, .int (rI a1 10)]) rfl rfl ?_
    refine sn_icmp_lt (tgt := 35) dX9_isWay_27 (by decide) (fun c => ?_) (fun c => ?_)
    · rw [if_pos c] at h
      refine sn_blk _ kX9_isWay_16_4 (pc' := 36) (L' := [none, some (.int a1), some (.int (rI a1 10))]) (st' := [.int 0]) rfl rfl ?_
      cases h
      exact sn_iret (ty := .boolean) dX9_isWay_36 rfl rfl
    · rw [if_neg c] at h
      refine sn_blk _ kX9_isWay_16_5 (pc' := 32) (L' := [none, some (.int a1), some (.int (rI a1 10))]) (st' := [.int 4, .int (rI a1 10)]) rfl rfl ?_
      refine sn_icmp_le (tgt := 37) dX9_isWay_32 (by decide) (fun c => ?_) (fun c => ?_)
      · rw [if_pos c] at h
        refine sn_blk _ kX9_isWay_16_6 (pc' := 40) (L' := [none, some (.int a1), some (.int (rI a1 10))]) (st' := [.int 10, .int a1]) rfl rfl ?_
        refine sn_idiv dX9_isWay_40 (by decide) ?_
        refine sn_blk _ kX9_isWay_16_7 (pc' := 16) (L' := [none, some (.int (a1 / 10)), some (.int (rI a1 10))]) (st' := []) rfl rfl ?_
        refine sn_msk [true, true, false] (L2 := [none, some (.int (a1 / 10)), none]) rfl ?_
        exact hK16 _ _ h
      · rw [if_neg c] at h
        refine sn_blk _ kX9_isWay_16_8 (pc' := 36) (L' := [none, some (.int a1), some (.int (rI a1 10))]) (st' := [.int 0]) rfl rfl ?_
        cases h
        exact sn_iret (ty := .boolean) dX9_isWay_36 rfl rfl
def fX9_isWay_16  : Nat → Int32 → Hp → Option (Int32 × Hp)
  | 0, _, _ => none
  | d + 1, a1, H => bX9_isWay_16 (fX9_isWay_16  d) a1 H
theorem tfX9_isWay_16 {G : GG} {r : Int32} {H' : Hp}   : ∀ (d : Nat) {a1 : Int32} {H : Hp}, fX9_isWay_16  d a1 H = some (r, H') → Sn G (T0 G (some (.int r)) H') mX9_isWay 16 [none, some (.int a1), none] [] H := by
  intro d
  induction d with
  | zero => intro a1 H h; cases h
  | succ d ih => intro a1 H h; exact tbX9_isWay_16 (fun a1 H h => ih h) h
def FX9_isWay  (a0 : Int32) (H : Hp) : Option (Int32 × Hp) :=
  if (a0 < 1 : Prop) then
    some (0, H)
  else
    if (a0 ≤ 4444 : Prop) then
      fX9_isWay_16  4096 a0 H
    else
      some (0, H)
set_option maxHeartbeats 4000000 in
set_option maxRecDepth 100000 in
theorem tFX9_isWay {G : GG} {r : Int32} {H' : Hp}   {a0 : Int32} {H : Hp} (h : FX9_isWay  a0 H = some (r, H')) : Sn G (T0 G (some (.int r)) H') mX9_isWay 0 [some (.int a0), none, none] [] H := by
  unfold FX9_isWay at h
  refine sn_blk _ kX9_isWay_0_0 (pc' := 2) (L' := [some (.int a0), none, none]) (st' := [.int 1, .int a0]) rfl rfl ?_
  refine sn_icmp_lt (tgt := 12) dX9_isWay_2 (by decide) (fun c => ?_) (fun c => ?_)
  · rw [if_pos c] at h
    refine sn_blk _ kX9_isWay_0_1 (pc' := 13) (L' := [some (.int a0), none, none]) (st' := [.int 0]) rfl rfl ?_
    cases h
    exact sn_iret (ty := .boolean) dX9_isWay_13 rfl rfl
  · rw [if_neg c] at h
    refine sn_blk _ kX9_isWay_0_2 (pc' := 9) (L' := [some (.int a0), none, none]) (st' := [.int 4444, .int a0]) rfl rfl ?_
    refine sn_icmp_le (tgt := 14) dX9_isWay_9 (by decide) (fun c => ?_) (fun c => ?_)
    · rw [if_pos c] at h
      refine sn_blk _ kX9_isWay_0_3 (pc' := 16) (L' := [some (.int a0), some (.int a0), none]) (st' := []) rfl rfl ?_
      refine sn_msk [false, true, true] (L2 := [none, some (.int a0), none]) rfl ?_
      exact tfX9_isWay_16  4096 h
    · rw [if_neg c] at h
      refine sn_blk _ kX9_isWay_0_4 (pc' := 13) (L' := [some (.int a0), none, none]) (st' := [.int 0]) rfl rfl ?_
      cases h
      exact sn_iret (ty := .boolean) dX9_isWay_13 rfl rfl
theorem sX9_isWay {G : GG} {r : Int32} {H' : Hp} {a0 : Int32} {H : Hp} (h : FX9_isWay a0 H = some (r, H')) : SM G mX9_isWay [.int a0] H (some (.int r)) H' := tFX9_isWay h
/-! SquareFolds.walk(II)I -/
theorem kX9_walk_0_0 : decB cX9_walk 0 [(.aload_n 0, .null)] = true := by decide +kernel
theorem kX9_walk_0_1 : decB cX9_walk 4 [(.iload_n 1, .null)] = true := by decide +kernel
theorem kX9_walk_0_2 : decB cX9_walk 13 [(.iload_n 2, .null)] = true := by decide +kernel
theorem kX9_walk_0_3 : decB cX9_walk 32 [(.bipush (-2), .int (-2))] = true := by decide +kernel
theorem kX9_walk_0_4 : decB cX9_walk 20 [(.aload_n 0, .null)] = true := by decide +kernel
theorem kX9_walk_0_5 : decB cX9_walk 24 [(.iload_n 1, .null), (.iload_n 2, .null)] = true := by decide +kernel
theorem kX9_walk_0_6 : decB cX9_walk 29 [(.goto 5, .retAddr 34)] = true := by decide +kernel
theorem kX9_walk_0_7 : decB cX9_walk 11 [(.iconst (-1), .int (-1))] = true := by decide +kernel
theorem dX9_walk_1 : decode cX9_walk 1 = .ok (.getfield 19, 3) := by decide +kernel
theorem dX9_walk_5 : decode cX9_walk 5 = .ok (.invokevirtual 130, 3) := by decide +kernel
theorem dX9_walk_8 : decode cX9_walk 8 = .ok (.ifCond .ne 5, 3) := by decide +kernel
theorem dX9_walk_12 : decode cX9_walk 12 = .ok (.ireturn, 1) := by decide +kernel
theorem dX9_walk_14 : decode cX9_walk 14 = .ok (.invokestatic 136, 3) := by decide +kernel
theorem dX9_walk_17 : decode cX9_walk 17 = .ok (.ifCond .eq 15, 3) := by decide +kernel
theorem dX9_walk_21 : decode cX9_walk 21 = .ok (.getfield 19, 3) := by decide +kernel
theorem dX9_walk_26 : decode cX9_walk 26 = .ok (.invokevirtual 139, 3) := by decide +kernel
theorem dX9_walk_34 : decode cX9_walk 34 = .ok (.ireturn, 1) := by decide +kernel
def FX9_walk  (a0 : Nat) (a1 : Int32) (a2 : Int32) (H : Hp) : Option (Int32 × Hp) :=
  bd (gA H a0 8 1) fun x1 =>
  gp (isO H x1 2 = true) (
    bd2 (FX2_has x1 a1 H) fun x2 H3 =>
    if (x2 = 0 : Prop) then
      some ((-1), H3)
    else
      bd2 (FX9_isWay a2 H3) fun x4 H5 =>
      if (x4 = 0 : Prop) then
        some ((-2), H5)
      else
        bd (gA H5 a0 8 1) fun x6 =>
        gp (isO H5 x6 2 = true) (
          bd2 (FX2_walked x6 a1 a2 H5) fun x7 H8 =>
          some (x7, H8)
          )
    )
set_option maxHeartbeats 4000000 in
set_option maxRecDepth 100000 in
theorem tFX9_walk {G : GG} {r : Int32} {H' : Hp}   {a0 : Nat} {a1 : Int32} {a2 : Int32} {H : Hp} (h : FX9_walk  a0 a1 a2 H = some (r, H')) : Sn G (T0 G (some (.int r)) H') mX9_walk 0 [some (.ref a0), some (.int a1), some (.int a2)] [] H := by
  unfold FX9_walk at h
  refine sn_blk _ kX9_walk_0_0 (pc' := 1) (L' := [some (.ref a0), some (.int a1), some (.int a2)]) (st' := [.ref a0]) rfl rfl ?_
  obtain ⟨x1, hx1, h⟩ := bd_inv h
  refine sn_gA dX9_walk_1 foX9_19 hx1 ?_
  refine sn_blk _ kX9_walk_0_1 (pc' := 5) (L' := [some (.ref a0), some (.int a1), some (.int a2)]) (st' := [.int a1, .ref x1]) rfl rfl ?_
  obtain ⟨ho, h⟩ := gp_inv h
  obtain ⟨fs, ho⟩ := isO_inv ho
  obtain ⟨x2, H3, hx2, h⟩ := bd2_inv h
  refine sn_callv (av := [.int a1]) (st := []) (M2 := mX2_has) dX9_walk_5 msX2_has mlX9_130 rfl rfl rfl rfl rfl ho (sX2_has hx2) ?_
  refine sn_if_ne (tgt := 13) dX9_walk_8 (by decide) (fun c => ?_) (fun c => ?_)
  · rw [if_neg c] at h
    refine sn_blk _ kX9_walk_0_2 (pc' := 14) (L' := [some (.ref a0), some (.int a1), some (.int a2)]) (st' := [.int a2]) rfl rfl ?_
    obtain ⟨x4, H5, hx4, h⟩ := bd2_inv h
    refine sn_calls (av := [.int a2]) (st := []) (M2 := mX9_isWay) dX9_walk_14 msX9_isWay mlX9_136 rfl rfl rfl rfl rfl (sX9_isWay hx4) ?_
    refine sn_if_eq (tgt := 32) dX9_walk_17 (by decide) (fun c => ?_) (fun c => ?_)
    · rw [if_pos c] at h
      refine sn_blk _ kX9_walk_0_3 (pc' := 34) (L' := [some (.ref a0), some (.int a1), some (.int a2)]) (st' := [.int (-2)]) rfl rfl ?_
      cases h
      exact sn_iret (ty := .int) dX9_walk_34 rfl rfl
    · rw [if_neg c] at h
      refine sn_blk _ kX9_walk_0_4 (pc' := 21) (L' := [some (.ref a0), some (.int a1), some (.int a2)]) (st' := [.ref a0]) rfl rfl ?_
      obtain ⟨x6, hx6, h⟩ := bd_inv h
      refine sn_gA dX9_walk_21 foX9_19 hx6 ?_
      refine sn_blk _ kX9_walk_0_5 (pc' := 26) (L' := [some (.ref a0), some (.int a1), some (.int a2)]) (st' := [.int a2, .int a1, .ref x6]) rfl rfl ?_
      obtain ⟨ho, h⟩ := gp_inv h
      obtain ⟨fs, ho⟩ := isO_inv ho
      obtain ⟨x7, H8, hx7, h⟩ := bd2_inv h
      refine sn_callv (av := [.int a1, .int a2]) (st := []) (M2 := mX2_walked) dX9_walk_26 msX2_walked mlX9_139 rfl rfl rfl rfl rfl ho (sX2_walked hx7) ?_
      refine sn_blk _ kX9_walk_0_6 (pc' := 34) (L' := [some (.ref a0), some (.int a1), some (.int a2)]) (st' := [.int x7]) rfl rfl ?_
      cases h
      exact sn_iret (ty := .int) dX9_walk_34 rfl rfl
  · rw [if_pos c] at h
    refine sn_blk _ kX9_walk_0_7 (pc' := 12) (L' := [some (.ref a0), some (.int a1), some (.int a2)]) (st' := [.int (-1)]) rfl rfl ?_
    cases h
    exact sn_iret (ty := .int) dX9_walk_12 rfl rfl
theorem sX9_walk {G : GG} {r : Int32} {H' : Hp} {a0 : Nat} {a1 : Int32} {a2 : Int32} {H : Hp} (h : FX9_walk a0 a1 a2 H = some (r, H')) : SM G mX9_walk [.ref a0, .int a1, .int a2] H (some (.int r)) H' := tFX9_walk h
/-! SquareFolds.square(II)I -/
theorem kX9_square_0_0 : decB cX9_square 0 [(.aload_n 0, .null)] = true := by decide +kernel
theorem kX9_square_0_1 : decB cX9_square 4 [(.iload_n 1, .null)] = true := by decide +kernel
theorem kX9_square_0_2 : decB cX9_square 13 [(.iload_n 2, .null)] = true := by decide +kernel
theorem kX9_square_0_3 : decB cX9_square 52 [(.aload_n 0, .null)] = true := by decide +kernel
theorem kX9_square_0_4 : decB cX9_square 56 [(.iload_n 1, .null)] = true := by decide +kernel
theorem kX9_square_0_5 : decB cX9_square 61 [(.aload_n 0, .null)] = true := by decide +kernel
theorem kX9_square_0_6 : decB cX9_square 68 [(.iload_n 1, .null)] = true := by decide +kernel
theorem kX9_square_0_7 : decB cX9_square 73 [(.aload_n 0, .null)] = true := by decide +kernel
theorem kX9_square_0_8 : decB cX9_square 80 [(.iload_n 1, .null), (.aload_n 0, .null)] = true := by decide +kernel
theorem kX9_square_0_9 : decB cX9_square 95 [(.aload_n 0, .null)] = true := by decide +kernel
theorem kX9_square_0_10 : decB cX9_square 102 [(.iload_n 1, .null), (.aload_n 0, .null)] = true := by decide +kernel
theorem kX9_square_0_11 : decB cX9_square 114 [(.aload_n 0, .null)] = true := by decide +kernel
theorem kX9_square_0_12 : decB cX9_square 118 [(.iload_n 1, .null)] = true := by decide +kernel
theorem kX9_square_0_13 : decB cX9_square 123 [(.aload_n 0, .null)] = true := by decide +kernel
theorem kX9_square_0_14 : decB cX9_square 127 [(.iload_n 1, .null)] = true := by decide +kernel
theorem kX9_square_0_15 : decB cX9_square 132 [(.bipush (-2), .int (-2))] = true := by decide +kernel
theorem kX9_square_0_16 : decB cX9_square 11 [(.iconst (-1), .int (-1))] = true := by decide +kernel
theorem dX9_square_1 : decode cX9_square 1 = .ok (.getfield 19, 3) := by decide +kernel
theorem dX9_square_5 : decode cX9_square 5 = .ok (.invokevirtual 130, 3) := by decide +kernel
theorem dX9_square_8 : decode cX9_square 8 = .ok (.ifCond .ne 5, 3) := by decide +kernel
theorem dX9_square_12 : decode cX9_square 12 = .ok (.ireturn, 1) := by decide +kernel
theorem dX9_square_14 : decode cX9_square 14 = .ok (.tableswitch 118 0 5 #[38, 47, 59, 81, 100, 109], 38) := by decide +kernel
theorem dX9_square_53 : decode cX9_square 53 = .ok (.getfield 19, 3) := by decide +kernel
theorem dX9_square_57 : decode cX9_square 57 = .ok (.invokevirtual 142, 3) := by decide +kernel
theorem dX9_square_60 : decode cX9_square 60 = .ok (.ireturn, 1) := by decide +kernel
theorem dX9_square_62 : decode cX9_square 62 = .ok (.getfield 19, 3) := by decide +kernel
theorem dX9_square_65 : decode cX9_square 65 = .ok (.invokevirtual 145, 3) := by decide +kernel
theorem dX9_square_69 : decode cX9_square 69 = .ok (.invokestatic 148, 3) := by decide +kernel
theorem dX9_square_72 : decode cX9_square 72 = .ok (.ireturn, 1) := by decide +kernel
theorem dX9_square_74 : decode cX9_square 74 = .ok (.getfield 19, 3) := by decide +kernel
theorem dX9_square_77 : decode cX9_square 77 = .ok (.invokevirtual 145, 3) := by decide +kernel
theorem dX9_square_82 : decode cX9_square 82 = .ok (.getfield 19, 3) := by decide +kernel
theorem dX9_square_85 : decode cX9_square 85 = .ok (.getfield 108, 3) := by decide +kernel
theorem dX9_square_88 : decode cX9_square 88 = .ok (.invokestatic 153, 3) := by decide +kernel
theorem dX9_square_91 : decode cX9_square 91 = .ok (.invokestatic 157, 3) := by decide +kernel
theorem dX9_square_94 : decode cX9_square 94 = .ok (.ireturn, 1) := by decide +kernel
theorem dX9_square_96 : decode cX9_square 96 = .ok (.getfield 19, 3) := by decide +kernel
theorem dX9_square_99 : decode cX9_square 99 = .ok (.getfield 162, 3) := by decide +kernel
theorem dX9_square_104 : decode cX9_square 104 = .ok (.getfield 19, 3) := by decide +kernel
theorem dX9_square_107 : decode cX9_square 107 = .ok (.getfield 108, 3) := by decide +kernel
theorem dX9_square_110 : decode cX9_square 110 = .ok (.invokestatic 153, 3) := by decide +kernel
theorem dX9_square_113 : decode cX9_square 113 = .ok (.ireturn, 1) := by decide +kernel
theorem dX9_square_115 : decode cX9_square 115 = .ok (.getfield 19, 3) := by decide +kernel
theorem dX9_square_119 : decode cX9_square 119 = .ok (.invokevirtual 165, 3) := by decide +kernel
theorem dX9_square_122 : decode cX9_square 122 = .ok (.ireturn, 1) := by decide +kernel
theorem dX9_square_124 : decode cX9_square 124 = .ok (.getfield 19, 3) := by decide +kernel
theorem dX9_square_128 : decode cX9_square 128 = .ok (.invokevirtual 168, 3) := by decide +kernel
theorem dX9_square_131 : decode cX9_square 131 = .ok (.ireturn, 1) := by decide +kernel
theorem dX9_square_134 : decode cX9_square 134 = .ok (.ireturn, 1) := by decide +kernel
def FX9_square  (a0 : Nat) (a1 : Int32) (a2 : Int32) (H : Hp) : Option (Int32 × Hp) :=
  bd (gA H a0 8 1) fun x1 =>
  gp (isO H x1 2 = true) (
    bd2 (FX2_has x1 a1 H) fun x2 H3 =>
    if (x2 = 0 : Prop) then
      some ((-1), H3)
    else
      if a2 = (0 : Int32) then
        bd (gA H3 a0 8 1) fun x4 =>
        gp (isO H3 x4 2 = true) (
          bd2 (FX2_piece x4 a1 H3) fun x5 H6 =>
          some (x5, H6)
          )
      else
        if a2 = (1 : Int32) then
          bd (gA H3 a0 8 1) fun x7 =>
          gp (isO H3 x7 2 = true) (
            bd2 (FX2_turnedRound x7  H3) fun x8 H9 =>
            bd2 (FX6_at x8 a1 H9) fun x10 H11 =>
            some (x10, H11)
            )
        else
          if a2 = (2 : Int32) then
            bd (gA H3 a0 8 1) fun x12 =>
            gp (isO H3 x12 2 = true) (
              bd2 (FX2_turnedRound x12  H3) fun x13 H14 =>
              bd (gA H14 a0 8 1) fun x15 =>
              bd (gI H14 x15 2 0) fun x16 =>
              bd2 (FX6_ring x13 a1 x16 H14) fun x17 H18 =>
              bd2 (FJ6_bitCount_0f7a4 x17 H18) fun x19 H20 =>
              some (x19, H20)
              )
          else
            if a2 = (3 : Int32) then
              bd (gA H3 a0 8 1) fun x21 =>
              bd (gI H3 x21 2 1) fun x22 =>
              bd (gA H3 a0 8 1) fun x23 =>
              bd (gI H3 x23 2 0) fun x24 =>
              bd2 (FX6_ring x22 a1 x24 H3) fun x25 H26 =>
              some (x25, H26)
            else
              if a2 = (4 : Int32) then
                bd (gA H3 a0 8 1) fun x27 =>
                gp (isO H3 x27 2 = true) (
                  bd2 (FX2_band x27 a1 H3) fun x28 H29 =>
                  some (x28, H29)
                  )
              else
                if a2 = (5 : Int32) then
                  bd (gA H3 a0 8 1) fun x30 =>
                  gp (isO H3 x30 2 = true) (
                    bd2 (FX2_holes x30 a1 H3) fun x31 H32 =>
                    some (x31, H32)
                    )
                else
                  some ((-2), H3)
    )
set_option maxHeartbeats 4000000 in
set_option maxRecDepth 100000 in
theorem tFX9_square {G : GG} {r : Int32} {H' : Hp}   {a0 : Nat} {a1 : Int32} {a2 : Int32} {H : Hp} (h : FX9_square  a0 a1 a2 H = some (r, H')) : Sn G (T0 G (some (.int r)) H') mX9_square 0 [some (.ref a0), some (.int a1), some (.int a2)] [] H := by
  unfold FX9_square at h
  refine sn_blk _ kX9_square_0_0 (pc' := 1) (L' := [some (.ref a0), some (.int a1), some (.int a2)]) (st' := [.ref a0]) rfl rfl ?_
  obtain ⟨x1, hx1, h⟩ := bd_inv h
  refine sn_gA dX9_square_1 foX9_19 hx1 ?_
  refine sn_blk _ kX9_square_0_1 (pc' := 5) (L' := [some (.ref a0), some (.int a1), some (.int a2)]) (st' := [.int a1, .ref x1]) rfl rfl ?_
  obtain ⟨ho, h⟩ := gp_inv h
  obtain ⟨fs, ho⟩ := isO_inv ho
  obtain ⟨x2, H3, hx2, h⟩ := bd2_inv h
  refine sn_callv (av := [.int a1]) (st := []) (M2 := mX2_has) dX9_square_5 msX2_has mlX9_130 rfl rfl rfl rfl rfl ho (sX2_has hx2) ?_
  refine sn_if_ne (tgt := 13) dX9_square_8 (by decide) (fun c => ?_) (fun c => ?_)
  · rw [if_neg c] at h
    refine sn_blk _ kX9_square_0_2 (pc' := 14) (L' := [some (.ref a0), some (.int a1), some (.int a2)]) (st' := [.int a2]) rfl rfl ?_
    by_cases c14_0 : a2 = (0 : Int32)
    · rw [if_pos c14_0] at h
      refine sn_tblIn (off := 38) (tgt := 52) dX9_square_14 (by rw [c14_0]; decide) (by rw [c14_0]; decide) (by rw [c14_0]; decide +kernel) (by decide) ?_
      refine sn_blk _ kX9_square_0_3 (pc' := 53) (L' := [some (.ref a0), some (.int a1), some (.int a2)]) (st' := [.ref a0]) rfl rfl ?_
      obtain ⟨x4, hx4, h⟩ := bd_inv h
      refine sn_gA dX9_square_53 foX9_19 hx4 ?_
      refine sn_blk _ kX9_square_0_4 (pc' := 57) (L' := [some (.ref a0), some (.int a1), some (.int a2)]) (st' := [.int a1, .ref x4]) rfl rfl ?_
      obtain ⟨ho, h⟩ := gp_inv h
      obtain ⟨fs, ho⟩ := isO_inv ho
      obtain ⟨x5, H6, hx5, h⟩ := bd2_inv h
      refine sn_callv (av := [.int a1]) (st := []) (M2 := mX2_piece) dX9_square_57 msX2_piece mlX9_142 rfl rfl rfl rfl rfl ho (sX2_piece hx5) ?_
      cases h
      exact sn_iret (ty := .int) dX9_square_60 rfl rfl
    · rw [if_neg c14_0] at h
      by_cases c14_1 : a2 = (1 : Int32)
      · rw [if_pos c14_1] at h
        refine sn_tblIn (off := 47) (tgt := 61) dX9_square_14 (by rw [c14_1]; decide) (by rw [c14_1]; decide) (by rw [c14_1]; decide +kernel) (by decide) ?_
        refine sn_blk _ kX9_square_0_5 (pc' := 62) (L' := [some (.ref a0), some (.int a1), some (.int a2)]) (st' := [.ref a0]) rfl rfl ?_
        obtain ⟨x7, hx7, h⟩ := bd_inv h
        refine sn_gA dX9_square_62 foX9_19 hx7 ?_
        obtain ⟨ho, h⟩ := gp_inv h
        obtain ⟨fs, ho⟩ := isO_inv ho
        obtain ⟨x8, H9, hx8, h⟩ := bd2_inv h
        refine sn_callv (av := []) (st := []) (M2 := mX2_turnedRound) dX9_square_65 msX2_turnedRound mlX9_145 rfl rfl rfl rfl rfl ho (sX2_turnedRound hx8) ?_
        refine sn_blk _ kX9_square_0_6 (pc' := 69) (L' := [some (.ref a0), some (.int a1), some (.int a2)]) (st' := [.int a1, .int x8]) rfl rfl ?_
        obtain ⟨x10, H11, hx10, h⟩ := bd2_inv h
        refine sn_calls (av := [.int x8, .int a1]) (st := []) (M2 := mX6_at) dX9_square_69 msX6_at mlX9_148 rfl rfl rfl rfl rfl (sX6_at hx10) ?_
        cases h
        exact sn_iret (ty := .int) dX9_square_72 rfl rfl
      · rw [if_neg c14_1] at h
        by_cases c14_2 : a2 = (2 : Int32)
        · rw [if_pos c14_2] at h
          refine sn_tblIn (off := 59) (tgt := 73) dX9_square_14 (by rw [c14_2]; decide) (by rw [c14_2]; decide) (by rw [c14_2]; decide +kernel) (by decide) ?_
          refine sn_blk _ kX9_square_0_7 (pc' := 74) (L' := [some (.ref a0), some (.int a1), some (.int a2)]) (st' := [.ref a0]) rfl rfl ?_
          obtain ⟨x12, hx12, h⟩ := bd_inv h
          refine sn_gA dX9_square_74 foX9_19 hx12 ?_
          obtain ⟨ho, h⟩ := gp_inv h
          obtain ⟨fs, ho⟩ := isO_inv ho
          obtain ⟨x13, H14, hx13, h⟩ := bd2_inv h
          refine sn_callv (av := []) (st := []) (M2 := mX2_turnedRound) dX9_square_77 msX2_turnedRound mlX9_145 rfl rfl rfl rfl rfl ho (sX2_turnedRound hx13) ?_
          refine sn_blk _ kX9_square_0_8 (pc' := 82) (L' := [some (.ref a0), some (.int a1), some (.int a2)]) (st' := [.ref a0, .int a1, .int x13]) rfl rfl ?_
          obtain ⟨x15, hx15, h⟩ := bd_inv h
          refine sn_gA dX9_square_82 foX9_19 hx15 ?_
          obtain ⟨x16, hx16, h⟩ := bd_inv h
          refine sn_gI dX9_square_85 foX9_108 hx16 ?_
          obtain ⟨x17, H18, hx17, h⟩ := bd2_inv h
          refine sn_calls (av := [.int x13, .int a1, .int x16]) (st := []) (M2 := mX6_ring) dX9_square_88 msX6_ring mlX9_153 rfl rfl rfl rfl rfl (sX6_ring hx17) ?_
          obtain ⟨x19, H20, hx19, h⟩ := bd2_inv h
          refine sn_calls (av := [.int x17]) (st := []) (M2 := mJ6_bitCount_0f7a4) dX9_square_91 msJ6_bitCount_0f7a4 mlX9_157 rfl rfl rfl rfl rfl (sJ6_bitCount_0f7a4 hx19) ?_
          cases h
          exact sn_iret (ty := .int) dX9_square_94 rfl rfl
        · rw [if_neg c14_2] at h
          by_cases c14_3 : a2 = (3 : Int32)
          · rw [if_pos c14_3] at h
            refine sn_tblIn (off := 81) (tgt := 95) dX9_square_14 (by rw [c14_3]; decide) (by rw [c14_3]; decide) (by rw [c14_3]; decide +kernel) (by decide) ?_
            refine sn_blk _ kX9_square_0_9 (pc' := 96) (L' := [some (.ref a0), some (.int a1), some (.int a2)]) (st' := [.ref a0]) rfl rfl ?_
            obtain ⟨x21, hx21, h⟩ := bd_inv h
            refine sn_gA dX9_square_96 foX9_19 hx21 ?_
            obtain ⟨x22, hx22, h⟩ := bd_inv h
            refine sn_gI dX9_square_99 foX9_162 hx22 ?_
            refine sn_blk _ kX9_square_0_10 (pc' := 104) (L' := [some (.ref a0), some (.int a1), some (.int a2)]) (st' := [.ref a0, .int a1, .int x22]) rfl rfl ?_
            obtain ⟨x23, hx23, h⟩ := bd_inv h
            refine sn_gA dX9_square_104 foX9_19 hx23 ?_
            obtain ⟨x24, hx24, h⟩ := bd_inv h
            refine sn_gI dX9_square_107 foX9_108 hx24 ?_
            obtain ⟨x25, H26, hx25, h⟩ := bd2_inv h
            refine sn_calls (av := [.int x22, .int a1, .int x24]) (st := []) (M2 := mX6_ring) dX9_square_110 msX6_ring mlX9_153 rfl rfl rfl rfl rfl (sX6_ring hx25) ?_
            cases h
            exact sn_iret (ty := .int) dX9_square_113 rfl rfl
          · rw [if_neg c14_3] at h
            by_cases c14_4 : a2 = (4 : Int32)
            · rw [if_pos c14_4] at h
              refine sn_tblIn (off := 100) (tgt := 114) dX9_square_14 (by rw [c14_4]; decide) (by rw [c14_4]; decide) (by rw [c14_4]; decide +kernel) (by decide) ?_
              refine sn_blk _ kX9_square_0_11 (pc' := 115) (L' := [some (.ref a0), some (.int a1), some (.int a2)]) (st' := [.ref a0]) rfl rfl ?_
              obtain ⟨x27, hx27, h⟩ := bd_inv h
              refine sn_gA dX9_square_115 foX9_19 hx27 ?_
              refine sn_blk _ kX9_square_0_12 (pc' := 119) (L' := [some (.ref a0), some (.int a1), some (.int a2)]) (st' := [.int a1, .ref x27]) rfl rfl ?_
              obtain ⟨ho, h⟩ := gp_inv h
              obtain ⟨fs, ho⟩ := isO_inv ho
              obtain ⟨x28, H29, hx28, h⟩ := bd2_inv h
              refine sn_callv (av := [.int a1]) (st := []) (M2 := mX2_band) dX9_square_119 msX2_band mlX9_165 rfl rfl rfl rfl rfl ho (sX2_band hx28) ?_
              cases h
              exact sn_iret (ty := .int) dX9_square_122 rfl rfl
            · rw [if_neg c14_4] at h
              by_cases c14_5 : a2 = (5 : Int32)
              · rw [if_pos c14_5] at h
                refine sn_tblIn (off := 109) (tgt := 123) dX9_square_14 (by rw [c14_5]; decide) (by rw [c14_5]; decide) (by rw [c14_5]; decide +kernel) (by decide) ?_
                refine sn_blk _ kX9_square_0_13 (pc' := 124) (L' := [some (.ref a0), some (.int a1), some (.int a2)]) (st' := [.ref a0]) rfl rfl ?_
                obtain ⟨x30, hx30, h⟩ := bd_inv h
                refine sn_gA dX9_square_124 foX9_19 hx30 ?_
                refine sn_blk _ kX9_square_0_14 (pc' := 128) (L' := [some (.ref a0), some (.int a1), some (.int a2)]) (st' := [.int a1, .ref x30]) rfl rfl ?_
                obtain ⟨ho, h⟩ := gp_inv h
                obtain ⟨fs, ho⟩ := isO_inv ho
                obtain ⟨x31, H32, hx31, h⟩ := bd2_inv h
                refine sn_callv (av := [.int a1]) (st := []) (M2 := mX2_holes) dX9_square_128 msX2_holes mlX9_168 rfl rfl rfl rfl rfl ho (sX2_holes hx31) ?_
                cases h
                exact sn_iret (ty := .int) dX9_square_131 rfl rfl
              · rw [if_neg c14_5] at h
                refine sn_tblOut (tgt := 132) dX9_square_14 (sw_out (fun k h1 h2 e => ?_)) (by decide) ?_
                · rcases (show k = 0 ∨ k = 1 ∨ k = 2 ∨ k = 3 ∨ k = 4 ∨ k = 5 by omega) with rfl | rfl | rfl | rfl | rfl | rfl
                  · exact c14_0 (Int32.toInt_inj.mp e)
                  · exact c14_1 (Int32.toInt_inj.mp e)
                  · exact c14_2 (Int32.toInt_inj.mp e)
                  · exact c14_3 (Int32.toInt_inj.mp e)
                  · exact c14_4 (Int32.toInt_inj.mp e)
                  · exact c14_5 (Int32.toInt_inj.mp e)
                · refine sn_blk _ kX9_square_0_15 (pc' := 134) (L' := [some (.ref a0), some (.int a1), some (.int a2)]) (st' := [.int (-2)]) rfl rfl ?_
                  cases h
                  exact sn_iret (ty := .int) dX9_square_134 rfl rfl
  · rw [if_pos c] at h
    refine sn_blk _ kX9_square_0_16 (pc' := 12) (L' := [some (.ref a0), some (.int a1), some (.int a2)]) (st' := [.int (-1)]) rfl rfl ?_
    cases h
    exact sn_iret (ty := .int) dX9_square_12 rfl rfl
theorem sX9_square {G : GG} {r : Int32} {H' : Hp} {a0 : Nat} {a1 : Int32} {a2 : Int32} {H : Hp} (h : FX9_square a0 a1 a2 H = some (r, H')) : SM G mX9_square [.ref a0, .int a1, .int a2] H (some (.int r)) H' := tFX9_square h
/-! SquareFolds.name(II)J -/
theorem kX9_name_0_0 : decB cX9_name 0 [(.aload_n 0, .null)] = true := by decide +kernel
theorem kX9_name_0_1 : decB cX9_name 4 [(.iload_n 1, .null)] = true := by decide +kernel
theorem kX9_name_0_2 : decB cX9_name 15 [(.iload_n 2, .null)] = true := by decide +kernel
theorem kX9_name_0_3 : decB cX9_name 44 [(.aload_n 0, .null)] = true := by decide +kernel
theorem kX9_name_0_4 : decB cX9_name 48 [(.iload_n 1, .null)] = true := by decide +kernel
theorem kX9_name_0_5 : decB cX9_name 53 [(.aload_n 0, .null)] = true := by decide +kernel
theorem kX9_name_0_6 : decB cX9_name 57 [(.iload_n 1, .null)] = true := by decide +kernel
theorem dX9_name_1 : decode cX9_name 1 = .ok (.getfield 19, 3) := by decide +kernel
theorem dX9_name_5 : decode cX9_name 5 = .ok (.invokevirtual 130, 3) := by decide +kernel
theorem dX9_name_8 : decode cX9_name 8 = .ok (.ifCond .ne 7, 3) := by decide +kernel
theorem dX9_name_11 : decode cX9_name 11 = .ok (.ldc2_w 171, 3) := by decide +kernel
theorem dX9_name_14 : decode cX9_name 14 = .ok (.lreturn, 1) := by decide +kernel
theorem dX9_name_16 : decode cX9_name 16 = .ok (.lookupswitch 46 #[(0, 28), (1, 37)], 28) := by decide +kernel
theorem dX9_name_45 : decode cX9_name 45 = .ok (.getfield 19, 3) := by decide +kernel
theorem dX9_name_49 : decode cX9_name 49 = .ok (.invokevirtual 173, 3) := by decide +kernel
theorem dX9_name_52 : decode cX9_name 52 = .ok (.lreturn, 1) := by decide +kernel
theorem dX9_name_54 : decode cX9_name 54 = .ok (.getfield 19, 3) := by decide +kernel
theorem dX9_name_58 : decode cX9_name 58 = .ok (.invokevirtual 177, 3) := by decide +kernel
theorem dX9_name_61 : decode cX9_name 61 = .ok (.lreturn, 1) := by decide +kernel
theorem dX9_name_62 : decode cX9_name 62 = .ok (.ldc2_w 180, 3) := by decide +kernel
theorem dX9_name_65 : decode cX9_name 65 = .ok (.lreturn, 1) := by decide +kernel
def FX9_name  (a0 : Nat) (a1 : Int32) (a2 : Int32) (H : Hp) : Option (Int64 × Hp) :=
  bd (gA H a0 8 1) fun x1 =>
  gp (isO H x1 2 = true) (
    bd2 (FX2_has x1 a1 H) fun x2 H3 =>
    if (x2 = 0 : Prop) then
      some ((-1), H3)
    else
      if a2 = (0 : Int32) then
        bd (gA H3 a0 8 1) fun x4 =>
        gp (isO H3 x4 2 = true) (
          bd2 (FX2_nameFrom x4 a1 H3) fun x5 H6 =>
          some (x5, H6)
          )
      else
        if a2 = (1 : Int32) then
          bd (gA H3 a0 8 1) fun x7 =>
          gp (isO H3 x7 2 = true) (
            bd2 (FX2_leastName x7 a1 H3) fun x8 H9 =>
            some (x8, H9)
            )
        else
          some ((-2), H3)
    )
set_option maxHeartbeats 4000000 in
set_option maxRecDepth 100000 in
theorem tFX9_name {G : GG} {r : Int64} {H' : Hp}   {a0 : Nat} {a1 : Int32} {a2 : Int32} {H : Hp} (h : FX9_name  a0 a1 a2 H = some (r, H')) : Sn G (T0 G (some (.long r)) H') mX9_name 0 [some (.ref a0), some (.int a1), some (.int a2)] [] H := by
  unfold FX9_name at h
  refine sn_blk _ kX9_name_0_0 (pc' := 1) (L' := [some (.ref a0), some (.int a1), some (.int a2)]) (st' := [.ref a0]) rfl rfl ?_
  obtain ⟨x1, hx1, h⟩ := bd_inv h
  refine sn_gA dX9_name_1 foX9_19 hx1 ?_
  refine sn_blk _ kX9_name_0_1 (pc' := 5) (L' := [some (.ref a0), some (.int a1), some (.int a2)]) (st' := [.int a1, .ref x1]) rfl rfl ?_
  obtain ⟨ho, h⟩ := gp_inv h
  obtain ⟨fs, ho⟩ := isO_inv ho
  obtain ⟨x2, H3, hx2, h⟩ := bd2_inv h
  refine sn_callv (av := [.int a1]) (st := []) (M2 := mX2_has) dX9_name_5 msX2_has mlX9_130 rfl rfl rfl rfl rfl ho (sX2_has hx2) ?_
  refine sn_if_ne (tgt := 15) dX9_name_8 (by decide) (fun c => ?_) (fun c => ?_)
  · rw [if_neg c] at h
    refine sn_blk _ kX9_name_0_2 (pc' := 16) (L' := [some (.ref a0), some (.int a1), some (.int a2)]) (st' := [.int a2]) rfl rfl ?_
    by_cases c16_0 : a2 = (0 : Int32)
    · rw [if_pos c16_0] at h
      refine sn_lkp (off := 28) (tgt := 44) dX9_name_16 (by decide) (by rw [c16_0]; decide +kernel) (by decide) ?_
      refine sn_blk _ kX9_name_0_3 (pc' := 45) (L' := [some (.ref a0), some (.int a1), some (.int a2)]) (st' := [.ref a0]) rfl rfl ?_
      obtain ⟨x4, hx4, h⟩ := bd_inv h
      refine sn_gA dX9_name_45 foX9_19 hx4 ?_
      refine sn_blk _ kX9_name_0_4 (pc' := 49) (L' := [some (.ref a0), some (.int a1), some (.int a2)]) (st' := [.int a1, .ref x4]) rfl rfl ?_
      obtain ⟨ho, h⟩ := gp_inv h
      obtain ⟨fs, ho⟩ := isO_inv ho
      obtain ⟨x5, H6, hx5, h⟩ := bd2_inv h
      refine sn_callv (av := [.int a1]) (st := []) (M2 := mX2_nameFrom) dX9_name_49 msX2_nameFrom mlX9_173 rfl rfl rfl rfl rfl ho (sX2_nameFrom hx5) ?_
      cases h
      exact sn_lret dX9_name_52 rfl
    · rw [if_neg c16_0] at h
      by_cases c16_1 : a2 = (1 : Int32)
      · rw [if_pos c16_1] at h
        refine sn_lkp (off := 37) (tgt := 53) dX9_name_16 (by decide) (by rw [c16_1]; decide +kernel) (by decide) ?_
        refine sn_blk _ kX9_name_0_5 (pc' := 54) (L' := [some (.ref a0), some (.int a1), some (.int a2)]) (st' := [.ref a0]) rfl rfl ?_
        obtain ⟨x7, hx7, h⟩ := bd_inv h
        refine sn_gA dX9_name_54 foX9_19 hx7 ?_
        refine sn_blk _ kX9_name_0_6 (pc' := 58) (L' := [some (.ref a0), some (.int a1), some (.int a2)]) (st' := [.int a1, .ref x7]) rfl rfl ?_
        obtain ⟨ho, h⟩ := gp_inv h
        obtain ⟨fs, ho⟩ := isO_inv ho
        obtain ⟨x8, H9, hx8, h⟩ := bd2_inv h
        refine sn_callv (av := [.int a1]) (st := []) (M2 := mX2_leastName) dX9_name_58 msX2_leastName mlX9_177 rfl rfl rfl rfl rfl ho (sX2_leastName hx8) ?_
        cases h
        exact sn_lret dX9_name_61 rfl
      · rw [if_neg c16_1] at h
        refine sn_lkp (off := 46) (tgt := 62) dX9_name_16 (by decide) (by show Op.lookupswitch.offset [(0, 28), (1, 37)] (46) _ = _; rw [lv_osw c16_0 (by decide)]; rw [lv_osw c16_1 (by decide)]; rfl) (by decide) ?_
        refine sn_ldc2 dX9_name_62 kcX9_180 ?_
        cases h
        exact sn_lret dX9_name_65 rfl
  · rw [if_pos c] at h
    refine sn_ldc2 dX9_name_11 kcX9_171 ?_
    cases h
    exact sn_lret dX9_name_14 rfl
theorem sX9_name {G : GG} {r : Int64} {H' : Hp} {a0 : Nat} {a1 : Int32} {a2 : Int32} {H : Hp} (h : FX9_name a0 a1 a2 H = some (r, H')) : SM G mX9_name [.ref a0, .int a1, .int a2] H (some (.long r)) H' := tFX9_name h
/-! SquareFolds.shear(I)I -/
theorem kX9_shear_0_0 : decB cX9_shear 0 [(.iload_n 1, .null)] = true := by decide +kernel
theorem kX9_shear_0_1 : decB cX9_shear 9 [(.bipush (-2), .int (-2))] = true := by decide +kernel
theorem kX9_shear_0_2 : decB cX9_shear 4 [(.iload_n 1, .null), (.iconst 2, .int 2)] = true := by decide +kernel
theorem kX9_shear_0_3 : decB cX9_shear 12 [(.aload_n 0, .null)] = true := by decide +kernel
theorem kX9_shear_0_4 : decB cX9_shear 16 [(.aload_n 0, .null)] = true := by decide +kernel
theorem kX9_shear_0_5 : decB cX9_shear 23 [(.aload_n 0, .null)] = true := by decide +kernel
theorem kX9_shear_0_6 : decB cX9_shear 33 [(.aload_n 0, .null)] = true := by decide +kernel
theorem kX9_shear_0_7 : decB cX9_shear 37 [(.iload_n 1, .null)] = true := by decide +kernel
theorem kX9_shear_0_8 : decB cX9_shear 41 [(.aload_n 0, .null)] = true := by decide +kernel
theorem kX9_shear_0_9 : decB cX9_shear 9 [(.bipush (-2), .int (-2))] = true := by decide +kernel
theorem dX9_shear_1 : decode cX9_shear 1 = .ok (.ifCond .lt 8, 3) := by decide +kernel
theorem dX9_shear_6 : decode cX9_shear 6 = .ok (.if_icmp .le 6, 3) := by decide +kernel
theorem dX9_shear_11 : decode cX9_shear 11 = .ok (.ireturn, 1) := by decide +kernel
theorem dX9_shear_13 : decode cX9_shear 13 = .ok (.getfield 29, 3) := by decide +kernel
theorem dX9_shear_17 : decode cX9_shear 17 = .ok (.getfield 19, 3) := by decide +kernel
theorem dX9_shear_20 : decode cX9_shear 20 = .ok (.getfield 162, 3) := by decide +kernel
theorem dX9_shear_24 : decode cX9_shear 24 = .ok (.getfield 19, 3) := by decide +kernel
theorem dX9_shear_27 : decode cX9_shear 27 = .ok (.getfield 182, 3) := by decide +kernel
theorem dX9_shear_30 : decode cX9_shear 30 = .ok (.invokevirtual 185, 3) := by decide +kernel
theorem dX9_shear_34 : decode cX9_shear 34 = .ok (.getfield 19, 3) := by decide +kernel
theorem dX9_shear_38 : decode cX9_shear 38 = .ok (.invokevirtual 188, 3) := by decide +kernel
theorem dX9_shear_42 : decode cX9_shear 42 = .ok (.getfield 19, 3) := by decide +kernel
theorem dX9_shear_45 : decode cX9_shear 45 = .ok (.invokevirtual 111, 3) := by decide +kernel
theorem dX9_shear_48 : decode cX9_shear 48 = .ok (.ireturn, 1) := by decide +kernel
def FX9_shear  (a0 : Nat) (a1 : Int32) (H : Hp) : Option (Int32 × Hp) :=
  if (a1 < 0 : Prop) then
    some ((-2), H)
  else
    if (a1 ≤ 2 : Prop) then
      bd (gA H a0 8 3) fun x1 =>
      bd (gA H a0 8 1) fun x2 =>
      bd (gI H x2 2 1) fun x3 =>
      bd (gA H a0 8 1) fun x4 =>
      bd (gI H x4 2 2) fun x5 =>
      gp (isO H x1 5 = true) (
        bd2 (FX5_add x1 x3 x5 H) fun _ H7 =>
        bd (gA H7 a0 8 1) fun x8 =>
        gp (isO H7 x8 2 = true) (
          bd2 (FX2_doShear x8 a1 H7) fun _ H10 =>
          bd (gA H10 a0 8 1) fun x11 =>
          gp (isO H10 x11 2 = true) (
            bd2 (FX2_corners x11  H10) fun x12 H13 =>
            some (x12, H13)
            )
          )
        )
    else
      some ((-2), H)
set_option maxHeartbeats 4000000 in
set_option maxRecDepth 100000 in
theorem tFX9_shear {G : GG} {r : Int32} {H' : Hp}   {a0 : Nat} {a1 : Int32} {H : Hp} (h : FX9_shear  a0 a1 H = some (r, H')) : Sn G (T0 G (some (.int r)) H') mX9_shear 0 [some (.ref a0), some (.int a1)] [] H := by
  unfold FX9_shear at h
  refine sn_blk _ kX9_shear_0_0 (pc' := 1) (L' := [some (.ref a0), some (.int a1)]) (st' := [.int a1]) rfl rfl ?_
  refine sn_if_lt (tgt := 9) dX9_shear_1 (by decide) (fun c => ?_) (fun c => ?_)
  · rw [if_pos c] at h
    refine sn_blk _ kX9_shear_0_1 (pc' := 11) (L' := [some (.ref a0), some (.int a1)]) (st' := [.int (-2)]) rfl rfl ?_
    cases h
    exact sn_iret (ty := .int) dX9_shear_11 rfl rfl
  · rw [if_neg c] at h
    refine sn_blk _ kX9_shear_0_2 (pc' := 6) (L' := [some (.ref a0), some (.int a1)]) (st' := [.int 2, .int a1]) rfl rfl ?_
    refine sn_icmp_le (tgt := 12) dX9_shear_6 (by decide) (fun c => ?_) (fun c => ?_)
    · rw [if_pos c] at h
      refine sn_blk _ kX9_shear_0_3 (pc' := 13) (L' := [some (.ref a0), some (.int a1)]) (st' := [.ref a0]) rfl rfl ?_
      obtain ⟨x1, hx1, h⟩ := bd_inv h
      refine sn_gA dX9_shear_13 foX9_29 hx1 ?_
      refine sn_blk _ kX9_shear_0_4 (pc' := 17) (L' := [some (.ref a0), some (.int a1)]) (st' := [.ref a0, .ref x1]) rfl rfl ?_
      obtain ⟨x2, hx2, h⟩ := bd_inv h
      refine sn_gA dX9_shear_17 foX9_19 hx2 ?_
      obtain ⟨x3, hx3, h⟩ := bd_inv h
      refine sn_gI dX9_shear_20 foX9_162 hx3 ?_
      refine sn_blk _ kX9_shear_0_5 (pc' := 24) (L' := [some (.ref a0), some (.int a1)]) (st' := [.ref a0, .int x3, .ref x1]) rfl rfl ?_
      obtain ⟨x4, hx4, h⟩ := bd_inv h
      refine sn_gA dX9_shear_24 foX9_19 hx4 ?_
      obtain ⟨x5, hx5, h⟩ := bd_inv h
      refine sn_gI dX9_shear_27 foX9_182 hx5 ?_
      obtain ⟨ho, h⟩ := gp_inv h
      obtain ⟨fs, ho⟩ := isO_inv ho
      obtain ⟨x6, H7, hx6, h⟩ := bd2_inv h
      refine sn_callv (av := [.int x3, .int x5]) (st := []) (M2 := mX5_add) dX9_shear_30 msX5_add mlX9_185 rfl rfl rfl rfl rfl ho (sX5_add hx6) ?_
      refine sn_blk _ kX9_shear_0_6 (pc' := 34) (L' := [some (.ref a0), some (.int a1)]) (st' := [.ref a0]) rfl rfl ?_
      obtain ⟨x8, hx8, h⟩ := bd_inv h
      refine sn_gA dX9_shear_34 foX9_19 hx8 ?_
      refine sn_blk _ kX9_shear_0_7 (pc' := 38) (L' := [some (.ref a0), some (.int a1)]) (st' := [.int a1, .ref x8]) rfl rfl ?_
      obtain ⟨ho, h⟩ := gp_inv h
      obtain ⟨fs, ho⟩ := isO_inv ho
      obtain ⟨x9, H10, hx9, h⟩ := bd2_inv h
      refine sn_callv (av := [.int a1]) (st := []) (M2 := mX2_doShear) dX9_shear_38 msX2_doShear mlX9_188 rfl rfl rfl rfl rfl ho (sX2_doShear hx9) ?_
      refine sn_blk _ kX9_shear_0_8 (pc' := 42) (L' := [some (.ref a0), some (.int a1)]) (st' := [.ref a0]) rfl rfl ?_
      obtain ⟨x11, hx11, h⟩ := bd_inv h
      refine sn_gA dX9_shear_42 foX9_19 hx11 ?_
      obtain ⟨ho, h⟩ := gp_inv h
      obtain ⟨fs, ho⟩ := isO_inv ho
      obtain ⟨x12, H13, hx12, h⟩ := bd2_inv h
      refine sn_callv (av := []) (st := []) (M2 := mX2_corners) dX9_shear_45 msX2_corners mlX9_111 rfl rfl rfl rfl rfl ho (sX2_corners hx12) ?_
      cases h
      exact sn_iret (ty := .int) dX9_shear_48 rfl rfl
    · rw [if_neg c] at h
      refine sn_blk _ kX9_shear_0_9 (pc' := 11) (L' := [some (.ref a0), some (.int a1)]) (st' := [.int (-2)]) rfl rfl ?_
      cases h
      exact sn_iret (ty := .int) dX9_shear_11 rfl rfl
theorem sX9_shear {G : GG} {r : Int32} {H' : Hp} {a0 : Nat} {a1 : Int32} {H : Hp} (h : FX9_shear a0 a1 H = some (r, H')) : SM G mX9_shear [.ref a0, .int a1] H (some (.int r)) H' := tFX9_shear h
/-! SquareFolds.trade(II)I -/
theorem kX9_trade_0_0 : decB cX9_trade 0 [(.aload_n 0, .null)] = true := by decide +kernel
theorem kX9_trade_0_1 : decB cX9_trade 4 [(.iload_n 1, .null)] = true := by decide +kernel
theorem kX9_trade_0_2 : decB cX9_trade 22 [(.iconst (-1), .int (-1))] = true := by decide +kernel
theorem kX9_trade_0_3 : decB cX9_trade 11 [(.aload_n 0, .null)] = true := by decide +kernel
theorem kX9_trade_0_4 : decB cX9_trade 15 [(.iload_n 2, .null)] = true := by decide +kernel
theorem kX9_trade_0_5 : decB cX9_trade 24 [(.iload_n 1, .null), (.iload_n 2, .null)] = true := by decide +kernel
theorem kX9_trade_0_6 : decB cX9_trade 32 [(.aload_n 0, .null)] = true := by decide +kernel
theorem kX9_trade_0_7 : decB cX9_trade 36 [(.aload_n 0, .null)] = true := by decide +kernel
theorem kX9_trade_0_8 : decB cX9_trade 43 [(.aload_n 0, .null)] = true := by decide +kernel
theorem kX9_trade_0_9 : decB cX9_trade 53 [(.aload_n 0, .null)] = true := by decide +kernel
theorem kX9_trade_0_10 : decB cX9_trade 57 [(.iload_n 1, .null), (.iload_n 2, .null)] = true := by decide +kernel
theorem kX9_trade_0_11 : decB cX9_trade 62 [(.iconst 1, .int 1)] = true := by decide +kernel
theorem kX9_trade_0_12 : decB cX9_trade 29 [(.bipush (-2), .int (-2))] = true := by decide +kernel
theorem kX9_trade_0_13 : decB cX9_trade 22 [(.iconst (-1), .int (-1))] = true := by decide +kernel
theorem dX9_trade_1 : decode cX9_trade 1 = .ok (.getfield 19, 3) := by decide +kernel
theorem dX9_trade_5 : decode cX9_trade 5 = .ok (.invokevirtual 130, 3) := by decide +kernel
theorem dX9_trade_8 : decode cX9_trade 8 = .ok (.ifCond .eq 14, 3) := by decide +kernel
theorem dX9_trade_12 : decode cX9_trade 12 = .ok (.getfield 19, 3) := by decide +kernel
theorem dX9_trade_16 : decode cX9_trade 16 = .ok (.invokevirtual 130, 3) := by decide +kernel
theorem dX9_trade_19 : decode cX9_trade 19 = .ok (.ifCond .ne 5, 3) := by decide +kernel
theorem dX9_trade_23 : decode cX9_trade 23 = .ok (.ireturn, 1) := by decide +kernel
theorem dX9_trade_26 : decode cX9_trade 26 = .ok (.if_icmp .ne 6, 3) := by decide +kernel
theorem dX9_trade_31 : decode cX9_trade 31 = .ok (.ireturn, 1) := by decide +kernel
theorem dX9_trade_33 : decode cX9_trade 33 = .ok (.getfield 29, 3) := by decide +kernel
theorem dX9_trade_37 : decode cX9_trade 37 = .ok (.getfield 19, 3) := by decide +kernel
theorem dX9_trade_40 : decode cX9_trade 40 = .ok (.getfield 162, 3) := by decide +kernel
theorem dX9_trade_44 : decode cX9_trade 44 = .ok (.getfield 19, 3) := by decide +kernel
theorem dX9_trade_47 : decode cX9_trade 47 = .ok (.getfield 182, 3) := by decide +kernel
theorem dX9_trade_50 : decode cX9_trade 50 = .ok (.invokevirtual 185, 3) := by decide +kernel
theorem dX9_trade_54 : decode cX9_trade 54 = .ok (.getfield 19, 3) := by decide +kernel
theorem dX9_trade_59 : decode cX9_trade 59 = .ok (.invokevirtual 192, 3) := by decide +kernel
theorem dX9_trade_63 : decode cX9_trade 63 = .ok (.ireturn, 1) := by decide +kernel
def FX9_trade  (a0 : Nat) (a1 : Int32) (a2 : Int32) (H : Hp) : Option (Int32 × Hp) :=
  bd (gA H a0 8 1) fun x1 =>
  gp (isO H x1 2 = true) (
    bd2 (FX2_has x1 a1 H) fun x2 H3 =>
    if (x2 = 0 : Prop) then
      some ((-1), H3)
    else
      bd (gA H3 a0 8 1) fun x4 =>
      gp (isO H3 x4 2 = true) (
        bd2 (FX2_has x4 a2 H3) fun x5 H6 =>
        if (x5 = 0 : Prop) then
          some ((-1), H6)
        else
          if (a1 = a2 : Prop) then
            some ((-2), H6)
          else
            bd (gA H6 a0 8 3) fun x7 =>
            bd (gA H6 a0 8 1) fun x8 =>
            bd (gI H6 x8 2 1) fun x9 =>
            bd (gA H6 a0 8 1) fun x10 =>
            bd (gI H6 x10 2 2) fun x11 =>
            gp (isO H6 x7 5 = true) (
              bd2 (FX5_add x7 x9 x11 H6) fun _ H13 =>
              bd (gA H13 a0 8 1) fun x14 =>
              gp (isO H13 x14 2 = true) (
                bd2 (FX2_doTrade x14 a1 a2 H13) fun _ H16 =>
                some (1, H16)
                )
              )
        )
    )
set_option maxHeartbeats 4000000 in
set_option maxRecDepth 100000 in
theorem tFX9_trade {G : GG} {r : Int32} {H' : Hp}   {a0 : Nat} {a1 : Int32} {a2 : Int32} {H : Hp} (h : FX9_trade  a0 a1 a2 H = some (r, H')) : Sn G (T0 G (some (.int r)) H') mX9_trade 0 [some (.ref a0), some (.int a1), some (.int a2)] [] H := by
  unfold FX9_trade at h
  refine sn_blk _ kX9_trade_0_0 (pc' := 1) (L' := [some (.ref a0), some (.int a1), some (.int a2)]) (st' := [.ref a0]) rfl rfl ?_
  obtain ⟨x1, hx1, h⟩ := bd_inv h
  refine sn_gA dX9_trade_1 foX9_19 hx1 ?_
  refine sn_blk _ kX9_trade_0_1 (pc' := 5) (L' := [some (.ref a0), some (.int a1), some (.int a2)]) (st' := [.int a1, .ref x1]) rfl rfl ?_
  obtain ⟨ho, h⟩ := gp_inv h
  obtain ⟨fs, ho⟩ := isO_inv ho
  obtain ⟨x2, H3, hx2, h⟩ := bd2_inv h
  refine sn_callv (av := [.int a1]) (st := []) (M2 := mX2_has) dX9_trade_5 msX2_has mlX9_130 rfl rfl rfl rfl rfl ho (sX2_has hx2) ?_
  refine sn_if_eq (tgt := 22) dX9_trade_8 (by decide) (fun c => ?_) (fun c => ?_)
  · rw [if_pos c] at h
    refine sn_blk _ kX9_trade_0_2 (pc' := 23) (L' := [some (.ref a0), some (.int a1), some (.int a2)]) (st' := [.int (-1)]) rfl rfl ?_
    cases h
    exact sn_iret (ty := .int) dX9_trade_23 rfl rfl
  · rw [if_neg c] at h
    refine sn_blk _ kX9_trade_0_3 (pc' := 12) (L' := [some (.ref a0), some (.int a1), some (.int a2)]) (st' := [.ref a0]) rfl rfl ?_
    obtain ⟨x4, hx4, h⟩ := bd_inv h
    refine sn_gA dX9_trade_12 foX9_19 hx4 ?_
    refine sn_blk _ kX9_trade_0_4 (pc' := 16) (L' := [some (.ref a0), some (.int a1), some (.int a2)]) (st' := [.int a2, .ref x4]) rfl rfl ?_
    obtain ⟨ho, h⟩ := gp_inv h
    obtain ⟨fs, ho⟩ := isO_inv ho
    obtain ⟨x5, H6, hx5, h⟩ := bd2_inv h
    refine sn_callv (av := [.int a2]) (st := []) (M2 := mX2_has) dX9_trade_16 msX2_has mlX9_130 rfl rfl rfl rfl rfl ho (sX2_has hx5) ?_
    refine sn_if_ne (tgt := 24) dX9_trade_19 (by decide) (fun c => ?_) (fun c => ?_)
    · rw [if_neg c] at h
      refine sn_blk _ kX9_trade_0_5 (pc' := 26) (L' := [some (.ref a0), some (.int a1), some (.int a2)]) (st' := [.int a2, .int a1]) rfl rfl ?_
      refine sn_icmp_ne (tgt := 32) dX9_trade_26 (by decide) (fun c => ?_) (fun c => ?_)
      · rw [if_neg c] at h
        refine sn_blk _ kX9_trade_0_6 (pc' := 33) (L' := [some (.ref a0), some (.int a1), some (.int a2)]) (st' := [.ref a0]) rfl rfl ?_
        obtain ⟨x7, hx7, h⟩ := bd_inv h
        refine sn_gA dX9_trade_33 foX9_29 hx7 ?_
        refine sn_blk _ kX9_trade_0_7 (pc' := 37) (L' := [some (.ref a0), some (.int a1), some (.int a2)]) (st' := [.ref a0, .ref x7]) rfl rfl ?_
        obtain ⟨x8, hx8, h⟩ := bd_inv h
        refine sn_gA dX9_trade_37 foX9_19 hx8 ?_
        obtain ⟨x9, hx9, h⟩ := bd_inv h
        refine sn_gI dX9_trade_40 foX9_162 hx9 ?_
        refine sn_blk _ kX9_trade_0_8 (pc' := 44) (L' := [some (.ref a0), some (.int a1), some (.int a2)]) (st' := [.ref a0, .int x9, .ref x7]) rfl rfl ?_
        obtain ⟨x10, hx10, h⟩ := bd_inv h
        refine sn_gA dX9_trade_44 foX9_19 hx10 ?_
        obtain ⟨x11, hx11, h⟩ := bd_inv h
        refine sn_gI dX9_trade_47 foX9_182 hx11 ?_
        obtain ⟨ho, h⟩ := gp_inv h
        obtain ⟨fs, ho⟩ := isO_inv ho
        obtain ⟨x12, H13, hx12, h⟩ := bd2_inv h
        refine sn_callv (av := [.int x9, .int x11]) (st := []) (M2 := mX5_add) dX9_trade_50 msX5_add mlX9_185 rfl rfl rfl rfl rfl ho (sX5_add hx12) ?_
        refine sn_blk _ kX9_trade_0_9 (pc' := 54) (L' := [some (.ref a0), some (.int a1), some (.int a2)]) (st' := [.ref a0]) rfl rfl ?_
        obtain ⟨x14, hx14, h⟩ := bd_inv h
        refine sn_gA dX9_trade_54 foX9_19 hx14 ?_
        refine sn_blk _ kX9_trade_0_10 (pc' := 59) (L' := [some (.ref a0), some (.int a1), some (.int a2)]) (st' := [.int a2, .int a1, .ref x14]) rfl rfl ?_
        obtain ⟨ho, h⟩ := gp_inv h
        obtain ⟨fs, ho⟩ := isO_inv ho
        obtain ⟨x15, H16, hx15, h⟩ := bd2_inv h
        refine sn_callv (av := [.int a1, .int a2]) (st := []) (M2 := mX2_doTrade) dX9_trade_59 msX2_doTrade mlX9_192 rfl rfl rfl rfl rfl ho (sX2_doTrade hx15) ?_
        refine sn_blk _ kX9_trade_0_11 (pc' := 63) (L' := [some (.ref a0), some (.int a1), some (.int a2)]) (st' := [.int 1]) rfl rfl ?_
        cases h
        exact sn_iret (ty := .int) dX9_trade_63 rfl rfl
      · rw [if_pos c] at h
        refine sn_blk _ kX9_trade_0_12 (pc' := 31) (L' := [some (.ref a0), some (.int a1), some (.int a2)]) (st' := [.int (-2)]) rfl rfl ?_
        cases h
        exact sn_iret (ty := .int) dX9_trade_31 rfl rfl
    · rw [if_pos c] at h
      refine sn_blk _ kX9_trade_0_13 (pc' := 23) (L' := [some (.ref a0), some (.int a1), some (.int a2)]) (st' := [.int (-1)]) rfl rfl ?_
      cases h
      exact sn_iret (ty := .int) dX9_trade_23 rfl rfl
theorem sX9_trade {G : GG} {r : Int32} {H' : Hp} {a0 : Nat} {a1 : Int32} {a2 : Int32} {H : Hp} (h : FX9_trade a0 a1 a2 H = some (r, H')) : SM G mX9_trade [.ref a0, .int a1, .int a2] H (some (.int r)) H' := tFX9_trade h
/-! SquareFolds.undo()I -/
theorem kX9_undo_0_0 : decB cX9_undo 0 [(.aload_n 0, .null)] = true := by decide +kernel
theorem kX9_undo_0_1 : decB cX9_undo 13 [(.aload_n 0, .null)] = true := by decide +kernel
theorem kX9_undo_0_2 : decB cX9_undo 17 [(.dup, .null)] = true := by decide +kernel
theorem kX9_undo_0_3 : decB cX9_undo 21 [(.iconst 1, .int 1), (.isub, .null)] = true := by decide +kernel
theorem kX9_undo_0_4 : decB cX9_undo 26 [(.aload_n 0, .null)] = true := by decide +kernel
theorem kX9_undo_0_5 : decB cX9_undo 30 [(.aload_n 0, .null)] = true := by decide +kernel
theorem kX9_undo_0_6 : decB cX9_undo 37 [(.aload_n 0, .null)] = true := by decide +kernel
theorem kX9_undo_0_7 : decB cX9_undo 41 [(.aload_n 0, .null)] = true := by decide +kernel
theorem kX9_undo_0_8 : decB cX9_undo 51 [(.aload_n 0, .null)] = true := by decide +kernel
theorem kX9_undo_0_9 : decB cX9_undo 55 [(.aload_n 0, .null)] = true := by decide +kernel
theorem kX9_undo_0_10 : decB cX9_undo 68 [(.aload_n 0, .null)] = true := by decide +kernel
theorem kX9_undo_0_11 : decB cX9_undo 10 [(.bipush (-3), .int (-3))] = true := by decide +kernel
theorem dX9_undo_1 : decode cX9_undo 1 = .ok (.getfield 29, 3) := by decide +kernel
theorem dX9_undo_4 : decode cX9_undo 4 = .ok (.getfield 96, 3) := by decide +kernel
theorem dX9_undo_7 : decode cX9_undo 7 = .ok (.ifCond .ne 6, 3) := by decide +kernel
theorem dX9_undo_12 : decode cX9_undo 12 = .ok (.ireturn, 1) := by decide +kernel
theorem dX9_undo_14 : decode cX9_undo 14 = .ok (.getfield 29, 3) := by decide +kernel
theorem dX9_undo_18 : decode cX9_undo 18 = .ok (.getfield 96, 3) := by decide +kernel
theorem dX9_undo_23 : decode cX9_undo 23 = .ok (.putfield 96, 3) := by decide +kernel
theorem dX9_undo_27 : decode cX9_undo 27 = .ok (.getfield 19, 3) := by decide +kernel
theorem dX9_undo_31 : decode cX9_undo 31 = .ok (.getfield 19, 3) := by decide +kernel
theorem dX9_undo_34 : decode cX9_undo 34 = .ok (.getfield 108, 3) := by decide +kernel
theorem dX9_undo_38 : decode cX9_undo 38 = .ok (.getfield 29, 3) := by decide +kernel
theorem dX9_undo_42 : decode cX9_undo 42 = .ok (.getfield 29, 3) := by decide +kernel
theorem dX9_undo_45 : decode cX9_undo 45 = .ok (.getfield 96, 3) := by decide +kernel
theorem dX9_undo_48 : decode cX9_undo 48 = .ok (.invokevirtual 195, 3) := by decide +kernel
theorem dX9_undo_52 : decode cX9_undo 52 = .ok (.getfield 29, 3) := by decide +kernel
theorem dX9_undo_56 : decode cX9_undo 56 = .ok (.getfield 29, 3) := by decide +kernel
theorem dX9_undo_59 : decode cX9_undo 59 = .ok (.getfield 96, 3) := by decide +kernel
theorem dX9_undo_62 : decode cX9_undo 62 = .ok (.invokevirtual 198, 3) := by decide +kernel
theorem dX9_undo_65 : decode cX9_undo 65 = .ok (.invokevirtual 92, 3) := by decide +kernel
theorem dX9_undo_69 : decode cX9_undo 69 = .ok (.getfield 29, 3) := by decide +kernel
theorem dX9_undo_72 : decode cX9_undo 72 = .ok (.getfield 96, 3) := by decide +kernel
theorem dX9_undo_75 : decode cX9_undo 75 = .ok (.ireturn, 1) := by decide +kernel
def FX9_undo  (a0 : Nat) (H : Hp) : Option (Int32 × Hp) :=
  bd (gA H a0 8 3) fun x1 =>
  bd (gI H x1 5 2) fun x2 =>
  if (x2 = 0 : Prop) then
    some ((-3), H)
  else
    bd (gA H a0 8 3) fun x3 =>
    bd (gI H x3 5 2) fun x4 =>
    bd (pV H x3 5 2 (.int (x4 - 1))) fun H5 =>
    bd (gA H5 a0 8 1) fun x6 =>
    bd (gA H5 a0 8 1) fun x7 =>
    bd (gI H5 x7 2 0) fun x8 =>
    bd (gA H5 a0 8 3) fun x9 =>
    bd (gA H5 a0 8 3) fun x10 =>
    bd (gI H5 x10 5 2) fun x11 =>
    gp (isO H5 x9 5 = true) (
      bd2 (FX5_rightAt x9 x11 H5) fun x12 H13 =>
      bd (gA H13 a0 8 3) fun x14 =>
      bd (gA H13 a0 8 3) fun x15 =>
      bd (gI H13 x15 5 2) fun x16 =>
      gp (isO H13 x14 5 = true) (
        bd2 (FX5_upAt x14 x16 H13) fun x17 H18 =>
        gp (isO H18 x6 2 = true) (
          bd2 (FX2_become x6 x8 x12 x17 H18) fun _ H20 =>
          bd (gA H20 a0 8 3) fun x21 =>
          bd (gI H20 x21 5 2) fun x22 =>
          some (x22, H20)
          )
        )
      )
set_option maxHeartbeats 4000000 in
set_option maxRecDepth 100000 in
theorem tFX9_undo {G : GG} {r : Int32} {H' : Hp}   {a0 : Nat} {H : Hp} (h : FX9_undo  a0 H = some (r, H')) : Sn G (T0 G (some (.int r)) H') mX9_undo 0 [some (.ref a0)] [] H := by
  unfold FX9_undo at h
  refine sn_blk _ kX9_undo_0_0 (pc' := 1) (L' := [some (.ref a0)]) (st' := [.ref a0]) rfl rfl ?_
  obtain ⟨x1, hx1, h⟩ := bd_inv h
  refine sn_gA dX9_undo_1 foX9_29 hx1 ?_
  obtain ⟨x2, hx2, h⟩ := bd_inv h
  refine sn_gI dX9_undo_4 foX9_96 hx2 ?_
  refine sn_if_ne (tgt := 13) dX9_undo_7 (by decide) (fun c => ?_) (fun c => ?_)
  · rw [if_neg c] at h
    refine sn_blk _ kX9_undo_0_1 (pc' := 14) (L' := [some (.ref a0)]) (st' := [.ref a0]) rfl rfl ?_
    obtain ⟨x3, hx3, h⟩ := bd_inv h
    refine sn_gA dX9_undo_14 foX9_29 hx3 ?_
    refine sn_blk _ kX9_undo_0_2 (pc' := 18) (L' := [some (.ref a0)]) (st' := [.ref x3, .ref x3]) rfl rfl ?_
    obtain ⟨x4, hx4, h⟩ := bd_inv h
    refine sn_gI dX9_undo_18 foX9_96 hx4 ?_
    refine sn_blk _ kX9_undo_0_3 (pc' := 23) (L' := [some (.ref a0)]) (st' := [.int (x4 - 1), .ref x3]) rfl rfl ?_
    obtain ⟨H5, hH5, h⟩ := bd_inv h
    refine sn_pI dX9_undo_23 foX9_96 fpX5_2 hH5 ?_
    refine sn_blk _ kX9_undo_0_4 (pc' := 27) (L' := [some (.ref a0)]) (st' := [.ref a0]) rfl rfl ?_
    obtain ⟨x6, hx6, h⟩ := bd_inv h
    refine sn_gA dX9_undo_27 foX9_19 hx6 ?_
    refine sn_blk _ kX9_undo_0_5 (pc' := 31) (L' := [some (.ref a0)]) (st' := [.ref a0, .ref x6]) rfl rfl ?_
    obtain ⟨x7, hx7, h⟩ := bd_inv h
    refine sn_gA dX9_undo_31 foX9_19 hx7 ?_
    obtain ⟨x8, hx8, h⟩ := bd_inv h
    refine sn_gI dX9_undo_34 foX9_108 hx8 ?_
    refine sn_blk _ kX9_undo_0_6 (pc' := 38) (L' := [some (.ref a0)]) (st' := [.ref a0, .int x8, .ref x6]) rfl rfl ?_
    obtain ⟨x9, hx9, h⟩ := bd_inv h
    refine sn_gA dX9_undo_38 foX9_29 hx9 ?_
    refine sn_blk _ kX9_undo_0_7 (pc' := 42) (L' := [some (.ref a0)]) (st' := [.ref a0, .ref x9, .int x8, .ref x6]) rfl rfl ?_
    obtain ⟨x10, hx10, h⟩ := bd_inv h
    refine sn_gA dX9_undo_42 foX9_29 hx10 ?_
    obtain ⟨x11, hx11, h⟩ := bd_inv h
    refine sn_gI dX9_undo_45 foX9_96 hx11 ?_
    obtain ⟨ho, h⟩ := gp_inv h
    obtain ⟨fs, ho⟩ := isO_inv ho
    obtain ⟨x12, H13, hx12, h⟩ := bd2_inv h
    refine sn_callv (av := [.int x11]) (st := [.int x8, .ref x6]) (M2 := mX5_rightAt) dX9_undo_48 msX5_rightAt mlX9_195 rfl rfl rfl rfl rfl ho (sX5_rightAt hx12) ?_
    refine sn_blk _ kX9_undo_0_8 (pc' := 52) (L' := [some (.ref a0)]) (st' := [.ref a0, .int x12, .int x8, .ref x6]) rfl rfl ?_
    obtain ⟨x14, hx14, h⟩ := bd_inv h
    refine sn_gA dX9_undo_52 foX9_29 hx14 ?_
    refine sn_blk _ kX9_undo_0_9 (pc' := 56) (L' := [some (.ref a0)]) (st' := [.ref a0, .ref x14, .int x12, .int x8, .ref x6]) rfl rfl ?_
    obtain ⟨x15, hx15, h⟩ := bd_inv h
    refine sn_gA dX9_undo_56 foX9_29 hx15 ?_
    obtain ⟨x16, hx16, h⟩ := bd_inv h
    refine sn_gI dX9_undo_59 foX9_96 hx16 ?_
    obtain ⟨ho, h⟩ := gp_inv h
    obtain ⟨fs, ho⟩ := isO_inv ho
    obtain ⟨x17, H18, hx17, h⟩ := bd2_inv h
    refine sn_callv (av := [.int x16]) (st := [.int x12, .int x8, .ref x6]) (M2 := mX5_upAt) dX9_undo_62 msX5_upAt mlX9_198 rfl rfl rfl rfl rfl ho (sX5_upAt hx17) ?_
    obtain ⟨ho, h⟩ := gp_inv h
    obtain ⟨fs, ho⟩ := isO_inv ho
    obtain ⟨x19, H20, hx19, h⟩ := bd2_inv h
    refine sn_callv (av := [.int x8, .int x12, .int x17]) (st := []) (M2 := mX2_become) dX9_undo_65 msX2_become mlX9_92 rfl rfl rfl rfl rfl ho (sX2_become hx19) ?_
    refine sn_blk _ kX9_undo_0_10 (pc' := 69) (L' := [some (.ref a0)]) (st' := [.ref a0]) rfl rfl ?_
    obtain ⟨x21, hx21, h⟩ := bd_inv h
    refine sn_gA dX9_undo_69 foX9_29 hx21 ?_
    obtain ⟨x22, hx22, h⟩ := bd_inv h
    refine sn_gI dX9_undo_72 foX9_96 hx22 ?_
    cases h
    exact sn_iret (ty := .int) dX9_undo_75 rfl rfl
  · rw [if_pos c] at h
    refine sn_blk _ kX9_undo_0_11 (pc' := 12) (L' := [some (.ref a0)]) (st' := [.int (-3)]) rfl rfl ?_
    cases h
    exact sn_iret (ty := .int) dX9_undo_12 rfl rfl
theorem sX9_undo {G : GG} {r : Int32} {H' : Hp} {a0 : Nat} {H : Hp} (h : FX9_undo a0 H = some (r, H')) : SM G mX9_undo [.ref a0] H (some (.int r)) H' := tFX9_undo h
/-! SquareFolds.orbit(II)I -/
theorem kX9_orbit_0_0 : decB cX9_orbit 0 [(.aload_n 0, .null)] = true := by decide +kernel
theorem kX9_orbit_0_1 : decB cX9_orbit 4 [(.iload_n 1, .null)] = true := by decide +kernel
theorem kX9_orbit_0_2 : decB cX9_orbit 13 [(.iload_n 2, .null)] = true := by decide +kernel
theorem kX9_orbit_0_3 : decB cX9_orbit 22 [(.bipush (-2), .int (-2))] = true := by decide +kernel
theorem kX9_orbit_0_4 : decB cX9_orbit 17 [(.iload_n 2, .null), (.iconst 2, .int 2)] = true := by decide +kernel
theorem kX9_orbit_0_5 : decB cX9_orbit 25 [(.aload_n 0, .null)] = true := by decide +kernel
theorem kX9_orbit_0_6 : decB cX9_orbit 29 [(.aload_n 0, .null)] = true := by decide +kernel
theorem kX9_orbit_0_7 : decB cX9_orbit 33 [(.iload_n 1, .null)] = true := by decide +kernel
theorem kX9_orbit_0_8 : decB cX9_orbit 37 [(.aload_n 0, .null)] = true := by decide +kernel
theorem kX9_orbit_0_9 : decB cX9_orbit 41 [(.iload_n 1, .null)] = true := by decide +kernel
theorem kX9_orbit_0_10 : decB cX9_orbit 51 [(.iload_n 2, .null)] = true := by decide +kernel
theorem kX9_orbit_0_11 : decB cX9_orbit 80 [(.aload_n 0, .null)] = true := by decide +kernel
theorem kX9_orbit_0_12 : decB cX9_orbit 91 [(.aload_n 0, .null)] = true := by decide +kernel
theorem kX9_orbit_0_13 : decB cX9_orbit 99 [(.aload_n 0, .null)] = true := by decide +kernel
theorem kX9_orbit_0_14 : decB cX9_orbit 22 [(.bipush (-2), .int (-2))] = true := by decide +kernel
theorem kX9_orbit_0_15 : decB cX9_orbit 11 [(.iconst (-1), .int (-1))] = true := by decide +kernel
theorem dX9_orbit_1 : decode cX9_orbit 1 = .ok (.getfield 19, 3) := by decide +kernel
theorem dX9_orbit_5 : decode cX9_orbit 5 = .ok (.invokevirtual 130, 3) := by decide +kernel
theorem dX9_orbit_8 : decode cX9_orbit 8 = .ok (.ifCond .ne 5, 3) := by decide +kernel
theorem dX9_orbit_12 : decode cX9_orbit 12 = .ok (.ireturn, 1) := by decide +kernel
theorem dX9_orbit_14 : decode cX9_orbit 14 = .ok (.ifCond .lt 8, 3) := by decide +kernel
theorem dX9_orbit_19 : decode cX9_orbit 19 = .ok (.if_icmp .le 6, 3) := by decide +kernel
theorem dX9_orbit_24 : decode cX9_orbit 24 = .ok (.ireturn, 1) := by decide +kernel
theorem dX9_orbit_26 : decode cX9_orbit 26 = .ok (.getfield 50, 3) := by decide +kernel
theorem dX9_orbit_30 : decode cX9_orbit 30 = .ok (.getfield 19, 3) := by decide +kernel
theorem dX9_orbit_34 : decode cX9_orbit 34 = .ok (.invokevirtual 177, 3) := by decide +kernel
theorem dX9_orbit_38 : decode cX9_orbit 38 = .ok (.getfield 19, 3) := by decide +kernel
theorem dX9_orbit_42 : decode cX9_orbit 42 = .ok (.invokevirtual 142, 3) := by decide +kernel
theorem dX9_orbit_45 : decode cX9_orbit 45 = .ok (.invokestatic 157, 3) := by decide +kernel
theorem dX9_orbit_48 : decode cX9_orbit 48 = .ok (.invokevirtual 201, 3) := by decide +kernel
theorem dX9_orbit_52 : decode cX9_orbit 52 = .ok (.lookupswitch 47 #[(0, 28), (1, 39)], 28) := by decide +kernel
theorem dX9_orbit_81 : decode cX9_orbit 81 = .ok (.getfield 50, 3) := by decide +kernel
theorem dX9_orbit_84 : decode cX9_orbit 84 = .ok (.getfield 205, 3) := by decide +kernel
theorem dX9_orbit_87 : decode cX9_orbit 87 = .ok (.getfield 208, 3) := by decide +kernel
theorem dX9_orbit_90 : decode cX9_orbit 90 = .ok (.ireturn, 1) := by decide +kernel
theorem dX9_orbit_92 : decode cX9_orbit 92 = .ok (.getfield 50, 3) := by decide +kernel
theorem dX9_orbit_95 : decode cX9_orbit 95 = .ok (.invokevirtual 209, 3) := by decide +kernel
theorem dX9_orbit_98 : decode cX9_orbit 98 = .ok (.ireturn, 1) := by decide +kernel
theorem dX9_orbit_100 : decode cX9_orbit 100 = .ok (.getfield 50, 3) := by decide +kernel
theorem dX9_orbit_103 : decode cX9_orbit 103 = .ok (.invokevirtual 212, 3) := by decide +kernel
theorem dX9_orbit_106 : decode cX9_orbit 106 = .ok (.ireturn, 1) := by decide +kernel
def FX9_orbit  (a0 : Nat) (a1 : Int32) (a2 : Int32) (H : Hp) : Option (Int32 × Hp) :=
  bd (gA H a0 8 1) fun x1 =>
  gp (isO H x1 2 = true) (
    bd2 (FX2_has x1 a1 H) fun x2 H3 =>
    if (x2 = 0 : Prop) then
      some ((-1), H3)
    else
      if (a2 < 0 : Prop) then
        some ((-2), H3)
      else
        if (a2 ≤ 2 : Prop) then
          bd (gA H3 a0 8 6) fun x4 =>
          bd (gA H3 a0 8 1) fun x5 =>
          gp (isO H3 x5 2 = true) (
            bd2 (FX2_leastName x5 a1 H3) fun x6 H7 =>
            bd (gA H7 a0 8 1) fun x8 =>
            gp (isO H7 x8 2 = true) (
              bd2 (FX2_piece x8 a1 H7) fun x9 H10 =>
              bd2 (FJ6_bitCount_0f7a4 x9 H10) fun x11 H12 =>
              gp (isO H12 x4 4 = true) (
                bd2 (FX4_gather x4 x6 x11 H12) fun _ H14 =>
                if a2 = (0 : Int32) then
                  bd (gA H14 a0 8 6) fun x15 =>
                  bd (gA H14 x15 4 0) fun x16 =>
                  bd (gI H14 x16 0 1) fun x17 =>
                  some (x17, H14)
                else
                  if a2 = (1 : Int32) then
                    bd (gA H14 a0 8 6) fun x18 =>
                    gp (isO H14 x18 4 = true) (
                      bd2 (FX4_cusps x18  H14) fun x19 H20 =>
                      some (x19, H20)
                      )
                  else
                    bd (gA H14 a0 8 6) fun x21 =>
                    gp (isO H14 x21 4 = true) (
                      bd2 (FX4_widest x21  H14) fun x22 H23 =>
                      some (x22, H23)
                      )
                )
              )
            )
        else
          some ((-2), H3)
    )
set_option maxHeartbeats 4000000 in
set_option maxRecDepth 100000 in
theorem tFX9_orbit {G : GG} {r : Int32} {H' : Hp}   {a0 : Nat} {a1 : Int32} {a2 : Int32} {H : Hp} (h : FX9_orbit  a0 a1 a2 H = some (r, H')) : Sn G (T0 G (some (.int r)) H') mX9_orbit 0 [some (.ref a0), some (.int a1), some (.int a2)] [] H := by
  unfold FX9_orbit at h
  refine sn_blk _ kX9_orbit_0_0 (pc' := 1) (L' := [some (.ref a0), some (.int a1), some (.int a2)]) (st' := [.ref a0]) rfl rfl ?_
  obtain ⟨x1, hx1, h⟩ := bd_inv h
  refine sn_gA dX9_orbit_1 foX9_19 hx1 ?_
  refine sn_blk _ kX9_orbit_0_1 (pc' := 5) (L' := [some (.ref a0), some (.int a1), some (.int a2)]) (st' := [.int a1, .ref x1]) rfl rfl ?_
  obtain ⟨ho, h⟩ := gp_inv h
  obtain ⟨fs, ho⟩ := isO_inv ho
  obtain ⟨x2, H3, hx2, h⟩ := bd2_inv h
  refine sn_callv (av := [.int a1]) (st := []) (M2 := mX2_has) dX9_orbit_5 msX2_has mlX9_130 rfl rfl rfl rfl rfl ho (sX2_has hx2) ?_
  refine sn_if_ne (tgt := 13) dX9_orbit_8 (by decide) (fun c => ?_) (fun c => ?_)
  · rw [if_neg c] at h
    refine sn_blk _ kX9_orbit_0_2 (pc' := 14) (L' := [some (.ref a0), some (.int a1), some (.int a2)]) (st' := [.int a2]) rfl rfl ?_
    refine sn_if_lt (tgt := 22) dX9_orbit_14 (by decide) (fun c => ?_) (fun c => ?_)
    · rw [if_pos c] at h
      refine sn_blk _ kX9_orbit_0_3 (pc' := 24) (L' := [some (.ref a0), some (.int a1), some (.int a2)]) (st' := [.int (-2)]) rfl rfl ?_
      cases h
      exact sn_iret (ty := .int) dX9_orbit_24 rfl rfl
    · rw [if_neg c] at h
      refine sn_blk _ kX9_orbit_0_4 (pc' := 19) (L' := [some (.ref a0), some (.int a1), some (.int a2)]) (st' := [.int 2, .int a2]) rfl rfl ?_
      refine sn_icmp_le (tgt := 25) dX9_orbit_19 (by decide) (fun c => ?_) (fun c => ?_)
      · rw [if_pos c] at h
        refine sn_blk _ kX9_orbit_0_5 (pc' := 26) (L' := [some (.ref a0), some (.int a1), some (.int a2)]) (st' := [.ref a0]) rfl rfl ?_
        obtain ⟨x4, hx4, h⟩ := bd_inv h
        refine sn_gA dX9_orbit_26 foX9_50 hx4 ?_
        refine sn_blk _ kX9_orbit_0_6 (pc' := 30) (L' := [some (.ref a0), some (.int a1), some (.int a2)]) (st' := [.ref a0, .ref x4]) rfl rfl ?_
        obtain ⟨x5, hx5, h⟩ := bd_inv h
        refine sn_gA dX9_orbit_30 foX9_19 hx5 ?_
        refine sn_blk _ kX9_orbit_0_7 (pc' := 34) (L' := [some (.ref a0), some (.int a1), some (.int a2)]) (st' := [.int a1, .ref x5, .ref x4]) rfl rfl ?_
        obtain ⟨ho, h⟩ := gp_inv h
        obtain ⟨fs, ho⟩ := isO_inv ho
        obtain ⟨x6, H7, hx6, h⟩ := bd2_inv h
        refine sn_callv (av := [.int a1]) (st := [.ref x4]) (M2 := mX2_leastName) dX9_orbit_34 msX2_leastName mlX9_177 rfl rfl rfl rfl rfl ho (sX2_leastName hx6) ?_
        refine sn_blk _ kX9_orbit_0_8 (pc' := 38) (L' := [some (.ref a0), some (.int a1), some (.int a2)]) (st' := [.ref a0, .long x6, .ref x4]) rfl rfl ?_
        obtain ⟨x8, hx8, h⟩ := bd_inv h
        refine sn_gA dX9_orbit_38 foX9_19 hx8 ?_
        refine sn_blk _ kX9_orbit_0_9 (pc' := 42) (L' := [some (.ref a0), some (.int a1), some (.int a2)]) (st' := [.int a1, .ref x8, .long x6, .ref x4]) rfl rfl ?_
        obtain ⟨ho, h⟩ := gp_inv h
        obtain ⟨fs, ho⟩ := isO_inv ho
        obtain ⟨x9, H10, hx9, h⟩ := bd2_inv h
        refine sn_callv (av := [.int a1]) (st := [.long x6, .ref x4]) (M2 := mX2_piece) dX9_orbit_42 msX2_piece mlX9_142 rfl rfl rfl rfl rfl ho (sX2_piece hx9) ?_
        obtain ⟨x11, H12, hx11, h⟩ := bd2_inv h
        refine sn_calls (av := [.int x9]) (st := [.long x6, .ref x4]) (M2 := mJ6_bitCount_0f7a4) dX9_orbit_45 msJ6_bitCount_0f7a4 mlX9_157 rfl rfl rfl rfl rfl (sJ6_bitCount_0f7a4 hx11) ?_
        obtain ⟨ho, h⟩ := gp_inv h
        obtain ⟨fs, ho⟩ := isO_inv ho
        obtain ⟨x13, H14, hx13, h⟩ := bd2_inv h
        refine sn_callv (av := [.long x6, .int x11]) (st := []) (M2 := mX4_gather) dX9_orbit_48 msX4_gather mlX9_201 rfl rfl rfl rfl rfl ho (sX4_gather hx13) ?_
        refine sn_blk _ kX9_orbit_0_10 (pc' := 52) (L' := [some (.ref a0), some (.int a1), some (.int a2)]) (st' := [.int a2]) rfl rfl ?_
        by_cases c52_0 : a2 = (0 : Int32)
        · rw [if_pos c52_0] at h
          refine sn_lkp (off := 28) (tgt := 80) dX9_orbit_52 (by decide) (by rw [c52_0]; decide +kernel) (by decide) ?_
          refine sn_blk _ kX9_orbit_0_11 (pc' := 81) (L' := [some (.ref a0), some (.int a1), some (.int a2)]) (st' := [.ref a0]) rfl rfl ?_
          obtain ⟨x15, hx15, h⟩ := bd_inv h
          refine sn_gA dX9_orbit_81 foX9_50 hx15 ?_
          obtain ⟨x16, hx16, h⟩ := bd_inv h
          refine sn_gA dX9_orbit_84 foX9_205 hx16 ?_
          obtain ⟨x17, hx17, h⟩ := bd_inv h
          refine sn_gI dX9_orbit_87 foX9_208 hx17 ?_
          cases h
          exact sn_iret (ty := .int) dX9_orbit_90 rfl rfl
        · rw [if_neg c52_0] at h
          by_cases c52_1 : a2 = (1 : Int32)
          · rw [if_pos c52_1] at h
            refine sn_lkp (off := 39) (tgt := 91) dX9_orbit_52 (by decide) (by rw [c52_1]; decide +kernel) (by decide) ?_
            refine sn_blk _ kX9_orbit_0_12 (pc' := 92) (L' := [some (.ref a0), some (.int a1), some (.int a2)]) (st' := [.ref a0]) rfl rfl ?_
            obtain ⟨x18, hx18, h⟩ := bd_inv h
            refine sn_gA dX9_orbit_92 foX9_50 hx18 ?_
            obtain ⟨ho, h⟩ := gp_inv h
            obtain ⟨fs, ho⟩ := isO_inv ho
            obtain ⟨x19, H20, hx19, h⟩ := bd2_inv h
            refine sn_callv (av := []) (st := []) (M2 := mX4_cusps) dX9_orbit_95 msX4_cusps mlX9_209 rfl rfl rfl rfl rfl ho (sX4_cusps hx19) ?_
            cases h
            exact sn_iret (ty := .int) dX9_orbit_98 rfl rfl
          · rw [if_neg c52_1] at h
            refine sn_lkp (off := 47) (tgt := 99) dX9_orbit_52 (by decide) (by show Op.lookupswitch.offset [(0, 28), (1, 39)] (47) _ = _; rw [lv_osw c52_0 (by decide)]; rw [lv_osw c52_1 (by decide)]; rfl) (by decide) ?_
            refine sn_blk _ kX9_orbit_0_13 (pc' := 100) (L' := [some (.ref a0), some (.int a1), some (.int a2)]) (st' := [.ref a0]) rfl rfl ?_
            obtain ⟨x21, hx21, h⟩ := bd_inv h
            refine sn_gA dX9_orbit_100 foX9_50 hx21 ?_
            obtain ⟨ho, h⟩ := gp_inv h
            obtain ⟨fs, ho⟩ := isO_inv ho
            obtain ⟨x22, H23, hx22, h⟩ := bd2_inv h
            refine sn_callv (av := []) (st := []) (M2 := mX4_widest) dX9_orbit_103 msX4_widest mlX9_212 rfl rfl rfl rfl rfl ho (sX4_widest hx22) ?_
            cases h
            exact sn_iret (ty := .int) dX9_orbit_106 rfl rfl
      · rw [if_neg c] at h
        refine sn_blk _ kX9_orbit_0_14 (pc' := 24) (L' := [some (.ref a0), some (.int a1), some (.int a2)]) (st' := [.int (-2)]) rfl rfl ?_
        cases h
        exact sn_iret (ty := .int) dX9_orbit_24 rfl rfl
  · rw [if_pos c] at h
    refine sn_blk _ kX9_orbit_0_15 (pc' := 12) (L' := [some (.ref a0), some (.int a1), some (.int a2)]) (st' := [.int (-1)]) rfl rfl ?_
    cases h
    exact sn_iret (ty := .int) dX9_orbit_12 rfl rfl
theorem sX9_orbit {G : GG} {r : Int32} {H' : Hp} {a0 : Nat} {a1 : Int32} {a2 : Int32} {H : Hp} (h : FX9_orbit a0 a1 a2 H = some (r, H')) : SM G mX9_orbit [.ref a0, .int a1, .int a2] H (some (.int r)) H' := tFX9_orbit h
/-! SquareFolds.alike(III)I -/
theorem kX9_alike_0_0 : decB cX9_alike 0 [(.aload_n 0, .null)] = true := by decide +kernel
theorem kX9_alike_0_1 : decB cX9_alike 4 [(.iload_n 1, .null)] = true := by decide +kernel
theorem kX9_alike_0_2 : decB cX9_alike 22 [(.iconst (-1), .int (-1))] = true := by decide +kernel
theorem kX9_alike_0_3 : decB cX9_alike 11 [(.aload_n 0, .null)] = true := by decide +kernel
theorem kX9_alike_0_4 : decB cX9_alike 15 [(.iload_n 2, .null)] = true := by decide +kernel
theorem kX9_alike_0_5 : decB cX9_alike 24 [(.iload_n 3, .null)] = true := by decide +kernel
theorem kX9_alike_0_6 : decB cX9_alike 33 [(.bipush (-2), .int (-2))] = true := by decide +kernel
theorem kX9_alike_0_7 : decB cX9_alike 28 [(.iload_n 3, .null), (.iconst 1, .int 1)] = true := by decide +kernel
theorem kX9_alike_0_8 : decB cX9_alike 36 [(.aload_n 0, .null)] = true := by decide +kernel
theorem kX9_alike_0_9 : decB cX9_alike 40 [(.iload_n 2, .null)] = true := by decide +kernel
theorem kX9_alike_0_10 : decB cX9_alike 44 [(.lstore 4, .null), (.iload_n 3, .null)] = true := by decide +kernel
theorem kX9_alike_0_11 : decB cX9_alike 70 [(.aload_n 0, .null)] = true := by decide +kernel
theorem kX9_alike_0_12 : decB cX9_alike 74 [(.aload_n 0, .null)] = true := by decide +kernel
theorem kX9_alike_0_13 : decB cX9_alike 78 [(.iload_n 1, .null)] = true := by decide +kernel
theorem kX9_alike_0_14 : decB cX9_alike 82 [(.aload_n 0, .null)] = true := by decide +kernel
theorem kX9_alike_0_15 : decB cX9_alike 86 [(.iload_n 1, .null)] = true := by decide +kernel
theorem kX9_alike_0_16 : decB cX9_alike 96 [(.aload_n 0, .null)] = true := by decide +kernel
theorem kX9_alike_0_17 : decB cX9_alike 103 [(.lload 4, .null)] = true := by decide +kernel
theorem kX9_alike_0_18 : decB cX9_alike 115 [(.iconst 0, .int 0)] = true := by decide +kernel
theorem kX9_alike_0_19 : decB cX9_alike 111 [(.iconst 1, .int 1), (.goto 4, .retAddr 116)] = true := by decide +kernel
theorem kX9_alike_0_20 : decB cX9_alike 50 [(.lload 4, .null), (.aload_n 0, .null)] = true := by decide +kernel
theorem kX9_alike_0_21 : decB cX9_alike 56 [(.iload_n 1, .null)] = true := by decide +kernel
theorem kX9_alike_0_22 : decB cX9_alike 60 [(.lcmp, .null)] = true := by decide +kernel
theorem kX9_alike_0_23 : decB cX9_alike 68 [(.iconst 0, .int 0)] = true := by decide +kernel
theorem kX9_alike_0_24 : decB cX9_alike 64 [(.iconst 1, .int 1), (.goto 4, .retAddr 69)] = true := by decide +kernel
theorem kX9_alike_0_25 : decB cX9_alike 33 [(.bipush (-2), .int (-2))] = true := by decide +kernel
theorem kX9_alike_0_26 : decB cX9_alike 22 [(.iconst (-1), .int (-1))] = true := by decide +kernel
theorem dX9_alike_1 : decode cX9_alike 1 = .ok (.getfield 19, 3) := by decide +kernel
theorem dX9_alike_5 : decode cX9_alike 5 = .ok (.invokevirtual 130, 3) := by decide +kernel
theorem dX9_alike_8 : decode cX9_alike 8 = .ok (.ifCond .eq 14, 3) := by decide +kernel
theorem dX9_alike_12 : decode cX9_alike 12 = .ok (.getfield 19, 3) := by decide +kernel
theorem dX9_alike_16 : decode cX9_alike 16 = .ok (.invokevirtual 130, 3) := by decide +kernel
theorem dX9_alike_19 : decode cX9_alike 19 = .ok (.ifCond .ne 5, 3) := by decide +kernel
theorem dX9_alike_23 : decode cX9_alike 23 = .ok (.ireturn, 1) := by decide +kernel
theorem dX9_alike_25 : decode cX9_alike 25 = .ok (.ifCond .lt 8, 3) := by decide +kernel
theorem dX9_alike_30 : decode cX9_alike 30 = .ok (.if_icmp .le 6, 3) := by decide +kernel
theorem dX9_alike_35 : decode cX9_alike 35 = .ok (.ireturn, 1) := by decide +kernel
theorem dX9_alike_37 : decode cX9_alike 37 = .ok (.getfield 19, 3) := by decide +kernel
theorem dX9_alike_41 : decode cX9_alike 41 = .ok (.invokevirtual 177, 3) := by decide +kernel
theorem dX9_alike_47 : decode cX9_alike 47 = .ok (.ifCond .ne 23, 3) := by decide +kernel
theorem dX9_alike_53 : decode cX9_alike 53 = .ok (.getfield 19, 3) := by decide +kernel
theorem dX9_alike_57 : decode cX9_alike 57 = .ok (.invokevirtual 177, 3) := by decide +kernel
theorem dX9_alike_61 : decode cX9_alike 61 = .ok (.ifCond .ne 7, 3) := by decide +kernel
theorem dX9_alike_69 : decode cX9_alike 69 = .ok (.ireturn, 1) := by decide +kernel
theorem dX9_alike_71 : decode cX9_alike 71 = .ok (.getfield 50, 3) := by decide +kernel
theorem dX9_alike_75 : decode cX9_alike 75 = .ok (.getfield 19, 3) := by decide +kernel
theorem dX9_alike_79 : decode cX9_alike 79 = .ok (.invokevirtual 177, 3) := by decide +kernel
theorem dX9_alike_83 : decode cX9_alike 83 = .ok (.getfield 19, 3) := by decide +kernel
theorem dX9_alike_87 : decode cX9_alike 87 = .ok (.invokevirtual 142, 3) := by decide +kernel
theorem dX9_alike_90 : decode cX9_alike 90 = .ok (.invokestatic 157, 3) := by decide +kernel
theorem dX9_alike_93 : decode cX9_alike 93 = .ok (.invokevirtual 201, 3) := by decide +kernel
theorem dX9_alike_97 : decode cX9_alike 97 = .ok (.getfield 50, 3) := by decide +kernel
theorem dX9_alike_100 : decode cX9_alike 100 = .ok (.getfield 205, 3) := by decide +kernel
theorem dX9_alike_105 : decode cX9_alike 105 = .ok (.invokevirtual 215, 3) := by decide +kernel
theorem dX9_alike_108 : decode cX9_alike 108 = .ok (.ifCond .lt 7, 3) := by decide +kernel
theorem dX9_alike_116 : decode cX9_alike 116 = .ok (.ireturn, 1) := by decide +kernel
def FX9_alike  (a0 : Nat) (a1 : Int32) (a2 : Int32) (a3 : Int32) (H : Hp) : Option (Int32 × Hp) :=
  bd (gA H a0 8 1) fun x1 =>
  gp (isO H x1 2 = true) (
    bd2 (FX2_has x1 a1 H) fun x2 H3 =>
    if (x2 = 0 : Prop) then
      some ((-1), H3)
    else
      bd (gA H3 a0 8 1) fun x4 =>
      gp (isO H3 x4 2 = true) (
        bd2 (FX2_has x4 a2 H3) fun x5 H6 =>
        if (x5 = 0 : Prop) then
          some ((-1), H6)
        else
          if (a3 < 0 : Prop) then
            some ((-2), H6)
          else
            if (a3 ≤ 1 : Prop) then
              bd (gA H6 a0 8 1) fun x7 =>
              gp (isO H6 x7 2 = true) (
                bd2 (FX2_leastName x7 a2 H6) fun x8 H9 =>
                if (a3 = 0 : Prop) then
                  bd (gA H9 a0 8 1) fun x25 =>
                  gp (isO H9 x25 2 = true) (
                    bd2 (FX2_leastName x25 a1 H9) fun x26 H27 =>
                    if ((lg_cmp x8 x26) = 0 : Prop) then
                      some (1, H27)
                    else
                      some (0, H27)
                    )
                else
                  bd (gA H9 a0 8 6) fun x10 =>
                  bd (gA H9 a0 8 1) fun x11 =>
                  gp (isO H9 x11 2 = true) (
                    bd2 (FX2_leastName x11 a1 H9) fun x12 H13 =>
                    bd (gA H13 a0 8 1) fun x14 =>
                    gp (isO H13 x14 2 = true) (
                      bd2 (FX2_piece x14 a1 H13) fun x15 H16 =>
                      bd2 (FJ6_bitCount_0f7a4 x15 H16) fun x17 H18 =>
                      gp (isO H18 x10 4 = true) (
                        bd2 (FX4_gather x10 x12 x17 H18) fun _ H20 =>
                        bd (gA H20 a0 8 6) fun x21 =>
                        bd (gA H20 x21 4 0) fun x22 =>
                        gp (isO H20 x22 0 = true) (
                          bd2 (FX0_find x22 x8 H20) fun x23 H24 =>
                          if (x23 < 0 : Prop) then
                            some (0, H24)
                          else
                            some (1, H24)
                          )
                        )
                      )
                    )
                )
            else
              some ((-2), H6)
        )
    )
set_option maxHeartbeats 4000000 in
set_option maxRecDepth 100000 in
theorem tFX9_alike {G : GG} {r : Int32} {H' : Hp}   {a0 : Nat} {a1 : Int32} {a2 : Int32} {a3 : Int32} {H : Hp} (h : FX9_alike  a0 a1 a2 a3 H = some (r, H')) : Sn G (T0 G (some (.int r)) H') mX9_alike 0 [some (.ref a0), some (.int a1), some (.int a2), some (.int a3), none, none] [] H := by
  unfold FX9_alike at h
  refine sn_blk _ kX9_alike_0_0 (pc' := 1) (L' := [some (.ref a0), some (.int a1), some (.int a2), some (.int a3), none, none]) (st' := [.ref a0]) rfl rfl ?_
  obtain ⟨x1, hx1, h⟩ := bd_inv h
  refine sn_gA dX9_alike_1 foX9_19 hx1 ?_
  refine sn_blk _ kX9_alike_0_1 (pc' := 5) (L' := [some (.ref a0), some (.int a1), some (.int a2), some (.int a3), none, none]) (st' := [.int a1, .ref x1]) rfl rfl ?_
  obtain ⟨ho, h⟩ := gp_inv h
  obtain ⟨fs, ho⟩ := isO_inv ho
  obtain ⟨x2, H3, hx2, h⟩ := bd2_inv h
  refine sn_callv (av := [.int a1]) (st := []) (M2 := mX2_has) dX9_alike_5 msX2_has mlX9_130 rfl rfl rfl rfl rfl ho (sX2_has hx2) ?_
  refine sn_if_eq (tgt := 22) dX9_alike_8 (by decide) (fun c => ?_) (fun c => ?_)
  · rw [if_pos c] at h
    refine sn_blk _ kX9_alike_0_2 (pc' := 23) (L' := [some (.ref a0), some (.int a1), some (.int a2), some (.int a3), none, none]) (st' := [.int (-1)]) rfl rfl ?_
    cases h
    exact sn_iret (ty := .int) dX9_alike_23 rfl rfl
  · rw [if_neg c] at h
    refine sn_blk _ kX9_alike_0_3 (pc' := 12) (L' := [some (.ref a0), some (.int a1), some (.int a2), some (.int a3), none, none]) (st' := [.ref a0]) rfl rfl ?_
    obtain ⟨x4, hx4, h⟩ := bd_inv h
    refine sn_gA dX9_alike_12 foX9_19 hx4 ?_
    refine sn_blk _ kX9_alike_0_4 (pc' := 16) (L' := [some (.ref a0), some (.int a1), some (.int a2), some (.int a3), none, none]) (st' := [.int a2, .ref x4]) rfl rfl ?_
    obtain ⟨ho, h⟩ := gp_inv h
    obtain ⟨fs, ho⟩ := isO_inv ho
    obtain ⟨x5, H6, hx5, h⟩ := bd2_inv h
    refine sn_callv (av := [.int a2]) (st := []) (M2 := mX2_has) dX9_alike_16 msX2_has mlX9_130 rfl rfl rfl rfl rfl ho (sX2_has hx5) ?_
    refine sn_if_ne (tgt := 24) dX9_alike_19 (by decide) (fun c => ?_) (fun c => ?_)
    · rw [if_neg c] at h
      refine sn_blk _ kX9_alike_0_5 (pc' := 25) (L' := [some (.ref a0), some (.int a1), some (.int a2), some (.int a3), none, none]) (st' := [.int a3]) rfl rfl ?_
      refine sn_if_lt (tgt := 33) dX9_alike_25 (by decide) (fun c => ?_) (fun c => ?_)
      · rw [if_pos c] at h
        refine sn_blk _ kX9_alike_0_6 (pc' := 35) (L' := [some (.ref a0), some (.int a1), some (.int a2), some (.int a3), none, none]) (st' := [.int (-2)]) rfl rfl ?_
        cases h
        exact sn_iret (ty := .int) dX9_alike_35 rfl rfl
      · rw [if_neg c] at h
        refine sn_blk _ kX9_alike_0_7 (pc' := 30) (L' := [some (.ref a0), some (.int a1), some (.int a2), some (.int a3), none, none]) (st' := [.int 1, .int a3]) rfl rfl ?_
        refine sn_icmp_le (tgt := 36) dX9_alike_30 (by decide) (fun c => ?_) (fun c => ?_)
        · rw [if_pos c] at h
          refine sn_blk _ kX9_alike_0_8 (pc' := 37) (L' := [some (.ref a0), some (.int a1), some (.int a2), some (.int a3), none, none]) (st' := [.ref a0]) rfl rfl ?_
          obtain ⟨x7, hx7, h⟩ := bd_inv h
          refine sn_gA dX9_alike_37 foX9_19 hx7 ?_
          refine sn_blk _ kX9_alike_0_9 (pc' := 41) (L' := [some (.ref a0), some (.int a1), some (.int a2), some (.int a3), none, none]) (st' := [.int a2, .ref x7]) rfl rfl ?_
          obtain ⟨ho, h⟩ := gp_inv h
          obtain ⟨fs, ho⟩ := isO_inv ho
          obtain ⟨x8, H9, hx8, h⟩ := bd2_inv h
          refine sn_callv (av := [.int a2]) (st := []) (M2 := mX2_leastName) dX9_alike_41 msX2_leastName mlX9_177 rfl rfl rfl rfl rfl ho (sX2_leastName hx8) ?_
          refine sn_blk _ kX9_alike_0_10 (pc' := 47) (L' := [some (.ref a0), some (.int a1), some (.int a2), some (.int a3), some (.long x8), none]) (st' := [.int a3]) rfl rfl ?_
          refine sn_if_ne (tgt := 70) dX9_alike_47 (by decide) (fun c => ?_) (fun c => ?_)
          · rw [if_neg c] at h
            refine sn_blk _ kX9_alike_0_11 (pc' := 71) (L' := [some (.ref a0), some (.int a1), some (.int a2), some (.int a3), some (.long x8), none]) (st' := [.ref a0]) rfl rfl ?_
            obtain ⟨x10, hx10, h⟩ := bd_inv h
            refine sn_gA dX9_alike_71 foX9_50 hx10 ?_
            refine sn_blk _ kX9_alike_0_12 (pc' := 75) (L' := [some (.ref a0), some (.int a1), some (.int a2), some (.int a3), some (.long x8), none]) (st' := [.ref a0, .ref x10]) rfl rfl ?_
            obtain ⟨x11, hx11, h⟩ := bd_inv h
            refine sn_gA dX9_alike_75 foX9_19 hx11 ?_
            refine sn_blk _ kX9_alike_0_13 (pc' := 79) (L' := [some (.ref a0), some (.int a1), some (.int a2), some (.int a3), some (.long x8), none]) (st' := [.int a1, .ref x11, .ref x10]) rfl rfl ?_
            obtain ⟨ho, h⟩ := gp_inv h
            obtain ⟨fs, ho⟩ := isO_inv ho
            obtain ⟨x12, H13, hx12, h⟩ := bd2_inv h
            refine sn_callv (av := [.int a1]) (st := [.ref x10]) (M2 := mX2_leastName) dX9_alike_79 msX2_leastName mlX9_177 rfl rfl rfl rfl rfl ho (sX2_leastName hx12) ?_
            refine sn_blk _ kX9_alike_0_14 (pc' := 83) (L' := [some (.ref a0), some (.int a1), some (.int a2), some (.int a3), some (.long x8), none]) (st' := [.ref a0, .long x12, .ref x10]) rfl rfl ?_
            obtain ⟨x14, hx14, h⟩ := bd_inv h
            refine sn_gA dX9_alike_83 foX9_19 hx14 ?_
            refine sn_blk _ kX9_alike_0_15 (pc' := 87) (L' := [some (.ref a0), some (.int a1), some (.int a2), some (.int a3), some (.long x8), none]) (st' := [.int a1, .ref x14, .long x12, .ref x10]) rfl rfl ?_
            obtain ⟨ho, h⟩ := gp_inv h
            obtain ⟨fs, ho⟩ := isO_inv ho
            obtain ⟨x15, H16, hx15, h⟩ := bd2_inv h
            refine sn_callv (av := [.int a1]) (st := [.long x12, .ref x10]) (M2 := mX2_piece) dX9_alike_87 msX2_piece mlX9_142 rfl rfl rfl rfl rfl ho (sX2_piece hx15) ?_
            obtain ⟨x17, H18, hx17, h⟩ := bd2_inv h
            refine sn_calls (av := [.int x15]) (st := [.long x12, .ref x10]) (M2 := mJ6_bitCount_0f7a4) dX9_alike_90 msJ6_bitCount_0f7a4 mlX9_157 rfl rfl rfl rfl rfl (sJ6_bitCount_0f7a4 hx17) ?_
            obtain ⟨ho, h⟩ := gp_inv h
            obtain ⟨fs, ho⟩ := isO_inv ho
            obtain ⟨x19, H20, hx19, h⟩ := bd2_inv h
            refine sn_callv (av := [.long x12, .int x17]) (st := []) (M2 := mX4_gather) dX9_alike_93 msX4_gather mlX9_201 rfl rfl rfl rfl rfl ho (sX4_gather hx19) ?_
            refine sn_blk _ kX9_alike_0_16 (pc' := 97) (L' := [some (.ref a0), some (.int a1), some (.int a2), some (.int a3), some (.long x8), none]) (st' := [.ref a0]) rfl rfl ?_
            obtain ⟨x21, hx21, h⟩ := bd_inv h
            refine sn_gA dX9_alike_97 foX9_50 hx21 ?_
            obtain ⟨x22, hx22, h⟩ := bd_inv h
            refine sn_gA dX9_alike_100 foX9_205 hx22 ?_
            refine sn_blk _ kX9_alike_0_17 (pc' := 105) (L' := [some (.ref a0), some (.int a1), some (.int a2), some (.int a3), some (.long x8), none]) (st' := [.long x8, .ref x22]) rfl rfl ?_
            obtain ⟨ho, h⟩ := gp_inv h
            obtain ⟨fs, ho⟩ := isO_inv ho
            obtain ⟨x23, H24, hx23, h⟩ := bd2_inv h
            refine sn_callv (av := [.long x8]) (st := []) (M2 := mX0_find) dX9_alike_105 msX0_find mlX9_215 rfl rfl rfl rfl rfl ho (sX0_find hx23) ?_
            refine sn_if_lt (tgt := 115) dX9_alike_108 (by decide) (fun c => ?_) (fun c => ?_)
            · rw [if_pos c] at h
              refine sn_blk _ kX9_alike_0_18 (pc' := 116) (L' := [some (.ref a0), some (.int a1), some (.int a2), some (.int a3), some (.long x8), none]) (st' := [.int 0]) rfl rfl ?_
              cases h
              exact sn_iret (ty := .int) dX9_alike_116 rfl rfl
            · rw [if_neg c] at h
              refine sn_blk _ kX9_alike_0_19 (pc' := 116) (L' := [some (.ref a0), some (.int a1), some (.int a2), some (.int a3), some (.long x8), none]) (st' := [.int 1]) rfl rfl ?_
              cases h
              exact sn_iret (ty := .int) dX9_alike_116 rfl rfl
          · rw [if_pos c] at h
            refine sn_blk _ kX9_alike_0_20 (pc' := 53) (L' := [some (.ref a0), some (.int a1), some (.int a2), some (.int a3), some (.long x8), none]) (st' := [.ref a0, .long x8]) rfl rfl ?_
            obtain ⟨x25, hx25, h⟩ := bd_inv h
            refine sn_gA dX9_alike_53 foX9_19 hx25 ?_
            refine sn_blk _ kX9_alike_0_21 (pc' := 57) (L' := [some (.ref a0), some (.int a1), some (.int a2), some (.int a3), some (.long x8), none]) (st' := [.int a1, .ref x25, .long x8]) rfl rfl ?_
            obtain ⟨ho, h⟩ := gp_inv h
            obtain ⟨fs, ho⟩ := isO_inv ho
            obtain ⟨x26, H27, hx26, h⟩ := bd2_inv h
            refine sn_callv (av := [.int a1]) (st := [.long x8]) (M2 := mX2_leastName) dX9_alike_57 msX2_leastName mlX9_177 rfl rfl rfl rfl rfl ho (sX2_leastName hx26) ?_
            refine sn_blk _ kX9_alike_0_22 (pc' := 61) (L' := [some (.ref a0), some (.int a1), some (.int a2), some (.int a3), some (.long x8), none]) (st' := [.int (lg_cmp x8 x26)]) rfl rfl ?_
            refine sn_if_ne (tgt := 68) dX9_alike_61 (by decide) (fun c => ?_) (fun c => ?_)
            · rw [if_neg c] at h
              refine sn_blk _ kX9_alike_0_23 (pc' := 69) (L' := [some (.ref a0), some (.int a1), some (.int a2), some (.int a3), some (.long x8), none]) (st' := [.int 0]) rfl rfl ?_
              cases h
              exact sn_iret (ty := .int) dX9_alike_69 rfl rfl
            · rw [if_pos c] at h
              refine sn_blk _ kX9_alike_0_24 (pc' := 69) (L' := [some (.ref a0), some (.int a1), some (.int a2), some (.int a3), some (.long x8), none]) (st' := [.int 1]) rfl rfl ?_
              cases h
              exact sn_iret (ty := .int) dX9_alike_69 rfl rfl
        · rw [if_neg c] at h
          refine sn_blk _ kX9_alike_0_25 (pc' := 35) (L' := [some (.ref a0), some (.int a1), some (.int a2), some (.int a3), none, none]) (st' := [.int (-2)]) rfl rfl ?_
          cases h
          exact sn_iret (ty := .int) dX9_alike_35 rfl rfl
    · rw [if_pos c] at h
      refine sn_blk _ kX9_alike_0_26 (pc' := 23) (L' := [some (.ref a0), some (.int a1), some (.int a2), some (.int a3), none, none]) (st' := [.int (-1)]) rfl rfl ?_
      cases h
      exact sn_iret (ty := .int) dX9_alike_23 rfl rfl
theorem sX9_alike {G : GG} {r : Int32} {H' : Hp} {a0 : Nat} {a1 : Int32} {a2 : Int32} {a3 : Int32} {H : Hp} (h : FX9_alike a0 a1 a2 a3 H = some (r, H')) : SM G mX9_alike [.ref a0, .int a1, .int a2, .int a3] H (some (.int r)) H' := tFX9_alike h
/-! SquareFolds.withoutLast(JI)J -/
theorem kX9_withoutLast_0_0 : decB cX9_withoutLast 0 [(.lload_n 0, .null), (.lstore_n 3, .null), (.iconst 0, .int 0), (.istore 5, .null)] = true := by decide +kernel
theorem kX9_withoutLast_5_0 : decB cX9_withoutLast 5 [(.iload 5, .null), (.iload_n 2, .null)] = true := by decide +kernel
theorem kX9_withoutLast_5_1 : decB cX9_withoutLast 23 [(.lload_n 3, .null)] = true := by decide +kernel
theorem kX9_withoutLast_5_2 : decB cX9_withoutLast 11 [(.lload_n 3, .null)] = true := by decide +kernel
theorem kX9_withoutLast_5_3 : decB cX9_withoutLast 16 [(.lstore_n 3, .null), (.iinc 5 1, .int 1), (.goto (-15), .retAddr 5)] = true := by decide +kernel
theorem dX9_withoutLast_8 : decode cX9_withoutLast 8 = .ok (.if_icmp .ge 15, 3) := by decide +kernel
theorem dX9_withoutLast_12 : decode cX9_withoutLast 12 = .ok (.ldc2_w 223, 3) := by decide +kernel
theorem dX9_withoutLast_15 : decode cX9_withoutLast 15 = .ok (.ldiv, 1) := by decide +kernel
theorem dX9_withoutLast_24 : decode cX9_withoutLast 24 = .ok (.lreturn, 1) := by decide +kernel
def bX9_withoutLast_5 (K5 : Int32 → Int64 → Int32 → Hp → Option (Int64 × Hp)) (a2 : Int32) (a3 : Int64) (a5 : Int32) (H : Hp) : Option (Int64 × Hp) :=
  if (a2 ≤ a5 : Prop) then
    some (a3, H)
  else
    K5 a2 (a3 / 10000) (a5 + 1) H
set_option maxHeartbeats 4000000 in
set_option maxRecDepth 100000 in
theorem tbX9_withoutLast_5 {G : GG} {r : Int64} {H' : Hp} {K5 : Int32 → Int64 → Int32 → Hp → Option (Int64 × Hp)} (hK5 : ∀ (a2 : Int32) (a3 : Int64) (a5 : Int32) (H : Hp), K5 a2 a3 a5 H = some (r, H') → Sn G (T0 G (some (.long r)) H') mX9_withoutLast 5 [none, none, some (.int a2), some (.long a3), none, some (.int a5)] [] H) {a2 : Int32} {a3 : Int64} {a5 : Int32} {H : Hp} (h : bX9_withoutLast_5 K5 a2 a3 a5 H = some (r, H')) : Sn G (T0 G (some (.long r)) H') mX9_withoutLast 5 [none, none, some (.int a2), some (.long a3), none, some (.int a5)] [] H := by
  unfold bX9_withoutLast_5 at h
  refine sn_blk _ kX9_withoutLast_5_0 (pc' := 8) (L' := [none, none, some (.int a2), some (.long a3), none, some (.int a5)]) (st' := [.int a2, .int a5]) rfl rfl ?_
  refine sn_icmp_ge (tgt := 23) dX9_withoutLast_8 (by decide) (fun c => ?_) (fun c => ?_)
  · rw [if_pos c] at h
    refine sn_blk _ kX9_withoutLast_5_1 (pc' := 24) (L' := [none, none, some (.int a2), some (.long a3), none, some (.int a5)]) (st' := [.long a3]) rfl rfl ?_
    cases h
    exact sn_lret dX9_withoutLast_24 rfl
  · rw [if_neg c] at h
    refine sn_blk _ kX9_withoutLast_5_2 (pc' := 12) (L' := [none, none, some (.int a2), some (.long a3), none, some (.int a5)]) (st' := [.long a3]) rfl rfl ?_
    refine sn_ldc2 dX9_withoutLast_12 kcX9_223 ?_
    refine sn_ldiv dX9_withoutLast_15 (by decide) ?_
    refine sn_blk _ kX9_withoutLast_5_3 (pc' := 5) (L' := [none, none, some (.int a2), some (.long (a3 / 10000)), none, some (.int (a5 + 1))]) (st' := []) rfl rfl ?_
    exact hK5 _ _ _ _ h
def fX9_withoutLast_5  : Nat → Int32 → Int64 → Int32 → Hp → Option (Int64 × Hp)
  | 0, _, _, _, _ => none
  | d + 1, a2, a3, a5, H => bX9_withoutLast_5 (fX9_withoutLast_5  d) a2 a3 a5 H
theorem tfX9_withoutLast_5 {G : GG} {r : Int64} {H' : Hp}   : ∀ (d : Nat) {a2 : Int32} {a3 : Int64} {a5 : Int32} {H : Hp}, fX9_withoutLast_5  d a2 a3 a5 H = some (r, H') → Sn G (T0 G (some (.long r)) H') mX9_withoutLast 5 [none, none, some (.int a2), some (.long a3), none, some (.int a5)] [] H := by
  intro d
  induction d with
  | zero => intro a2 a3 a5 H h; cases h
  | succ d ih => intro a2 a3 a5 H h; exact tbX9_withoutLast_5 (fun a2 a3 a5 H h => ih h) h
def FX9_withoutLast  (a0 : Int64) (a2 : Int32) (H : Hp) : Option (Int64 × Hp) :=
  fX9_withoutLast_5  4096 a2 a0 0 H
set_option maxHeartbeats 4000000 in
set_option maxRecDepth 100000 in
theorem tFX9_withoutLast {G : GG} {r : Int64} {H' : Hp}   {a0 : Int64} {a2 : Int32} {H : Hp} (h : FX9_withoutLast  a0 a2 H = some (r, H')) : Sn G (T0 G (some (.long r)) H') mX9_withoutLast 0 [some (.long a0), none, some (.int a2), none, none, none] [] H := by
  unfold FX9_withoutLast at h
  refine sn_blk _ kX9_withoutLast_0_0 (pc' := 5) (L' := [some (.long a0), none, some (.int a2), some (.long a0), none, some (.int 0)]) (st' := []) rfl rfl ?_
  refine sn_msk [false, true, true, true, true, true] (L2 := [none, none, some (.int a2), some (.long a0), none, some (.int 0)]) rfl ?_
  exact tfX9_withoutLast_5  4096 h
theorem sX9_withoutLast {G : GG} {r : Int64} {H' : Hp} {a0 : Int64} {a2 : Int32} {H : Hp} (h : FX9_withoutLast a0 a2 H = some (r, H')) : SM G mX9_withoutLast [.long a0, .int a2] H (some (.long r)) H' := tFX9_withoutLast h
/-! SquareFolds.judge(IJ)I -/
theorem kX9_judge_0_0 : decB cX9_judge 0 [(.iload_n 1, .null), (.iconst 1, .int 1)] = true := by decide +kernel
theorem kX9_judge_0_1 : decB cX9_judge 26 [(.bipush (-2), .int (-2))] = true := by decide +kernel
theorem kX9_judge_0_2 : decB cX9_judge 5 [(.iload_n 1, .null), (.iconst 4, .int 4)] = true := by decide +kernel
theorem kX9_judge_0_3 : decB cX9_judge 26 [(.bipush (-2), .int (-2))] = true := by decide +kernel
theorem kX9_judge_0_4 : decB cX9_judge 10 [(.lload_n 2, .null), (.lconst 0, .long 0), (.lcmp, .null)] = true := by decide +kernel
theorem kX9_judge_0_5 : decB cX9_judge 26 [(.bipush (-2), .int (-2))] = true := by decide +kernel
theorem kX9_judge_0_6 : decB cX9_judge 16 [(.lload_n 2, .null), (.iload_n 1, .null)] = true := by decide +kernel
theorem kX9_judge_0_7 : decB cX9_judge 21 [(.lconst 0, .long 0), (.lcmp, .null)] = true := by decide +kernel
theorem kX9_judge_0_8 : decB cX9_judge 29 [(.aload_n 0, .null)] = true := by decide +kernel
theorem kX9_judge_0_9 : decB cX9_judge 33 [(.aload_n 0, .null)] = true := by decide +kernel
theorem kX9_judge_0_10 : decB cX9_judge 40 [(.aload_n 0, .null)] = true := by decide +kernel
theorem kX9_judge_0_11 : decB cX9_judge 47 [(.aload_n 0, .null)] = true := by decide +kernel
theorem kX9_judge_0_12 : decB cX9_judge 57 [(.iconst 0, .int 0), (.istore 4, .null)] = true := by decide +kernel
theorem kX9_judge_0_13 : decB cX9_judge 26 [(.bipush (-2), .int (-2))] = true := by decide +kernel
theorem kX9_judge_60_0 : decB cX9_judge 60 [(.iload 4, .null), (.iload_n 1, .null)] = true := by decide +kernel
theorem kX9_judge_60_1 : decB cX9_judge 104 [(.bipush (-9), .int (-9))] = true := by decide +kernel
theorem kX9_judge_60_2 : decB cX9_judge 66 [(.lload_n 2, .null), (.iload_n 1, .null), (.iconst 1, .int 1), (.isub, .null), (.iload 4, .null), (.isub, .null)] = true := by decide +kernel
theorem kX9_judge_60_3 : decB cX9_judge 80 [(.l2i, .null), (.istore 5, .null), (.aload_n 0, .null)] = true := by decide +kernel
theorem kX9_judge_60_4 : decB cX9_judge 87 [(.iload 5, .null)] = true := by decide +kernel
theorem kX9_judge_60_5 : decB cX9_judge 98 [(.iinc 4 1, .int 1), (.goto (-41), .retAddr 60)] = true := by decide +kernel
theorem kX9_judge_60_6 : decB cX9_judge 95 [(.iload 4, .null)] = true := by decide +kernel
theorem dX9_judge_2 : decode cX9_judge 2 = .ok (.if_icmp .lt 24, 3) := by decide +kernel
theorem dX9_judge_7 : decode cX9_judge 7 = .ok (.if_icmp .gt 19, 3) := by decide +kernel
theorem dX9_judge_13 : decode cX9_judge 13 = .ok (.ifCond .lt 13, 3) := by decide +kernel
theorem dX9_judge_18 : decode cX9_judge 18 = .ok (.invokestatic 219, 3) := by decide +kernel
theorem dX9_judge_23 : decode cX9_judge 23 = .ok (.ifCond .eq 6, 3) := by decide +kernel
theorem dX9_judge_28 : decode cX9_judge 28 = .ok (.ireturn, 1) := by decide +kernel
theorem dX9_judge_30 : decode cX9_judge 30 = .ok (.getfield 23, 3) := by decide +kernel
theorem dX9_judge_34 : decode cX9_judge 34 = .ok (.getfield 19, 3) := by decide +kernel
theorem dX9_judge_37 : decode cX9_judge 37 = .ok (.getfield 108, 3) := by decide +kernel
theorem dX9_judge_41 : decode cX9_judge 41 = .ok (.getfield 19, 3) := by decide +kernel
theorem dX9_judge_44 : decode cX9_judge 44 = .ok (.getfield 162, 3) := by decide +kernel
theorem dX9_judge_48 : decode cX9_judge 48 = .ok (.getfield 19, 3) := by decide +kernel
theorem dX9_judge_51 : decode cX9_judge 51 = .ok (.getfield 182, 3) := by decide +kernel
theorem dX9_judge_54 : decode cX9_judge 54 = .ok (.invokevirtual 92, 3) := by decide +kernel
theorem dX9_judge_63 : decode cX9_judge 63 = .ok (.if_icmp .ge 41, 3) := by decide +kernel
theorem dX9_judge_73 : decode cX9_judge 73 = .ok (.invokestatic 219, 3) := by decide +kernel
theorem dX9_judge_76 : decode cX9_judge 76 = .ok (.ldc2_w 223, 3) := by decide +kernel
theorem dX9_judge_79 : decode cX9_judge 79 = .ok (.lrem, 1) := by decide +kernel
theorem dX9_judge_84 : decode cX9_judge 84 = .ok (.getfield 23, 3) := by decide +kernel
theorem dX9_judge_89 : decode cX9_judge 89 = .ok (.invokevirtual 225, 3) := by decide +kernel
theorem dX9_judge_92 : decode cX9_judge 92 = .ok (.ifCond .ne 6, 3) := by decide +kernel
theorem dX9_judge_97 : decode cX9_judge 97 = .ok (.ireturn, 1) := by decide +kernel
theorem dX9_judge_106 : decode cX9_judge 106 = .ok (.ireturn, 1) := by decide +kernel
def bX9_judge_60 (K60 : Nat → Int32 → Int64 → Int32 → Hp → Option (Int32 × Hp)) (a0 : Nat) (a1 : Int32) (a2 : Int64) (a4 : Int32) (H : Hp) : Option (Int32 × Hp) :=
  if (a1 ≤ a4 : Prop) then
    some ((-9), H)
  else
    bd2 (FX9_withoutLast a2 ((a1 - 1) - a4) H) fun x1 H2 =>
    bd (gA H2 a0 8 2) fun x3 =>
    gp (isO H2 x3 2 = true) (
      bd2 (FX2_tryTold x3 (Int64.toInt32 (rJ x1 10000)) H2) fun x4 H5 =>
      if (x4 = 0 : Prop) then
        some (a4, H5)
      else
        K60 a0 a1 a2 (a4 + 1) H5
      )
set_option maxHeartbeats 4000000 in
set_option maxRecDepth 100000 in
theorem tbX9_judge_60 {G : GG} {r : Int32} {H' : Hp} {K60 : Nat → Int32 → Int64 → Int32 → Hp → Option (Int32 × Hp)} (hK60 : ∀ (a0 : Nat) (a1 : Int32) (a2 : Int64) (a4 : Int32) (H : Hp), K60 a0 a1 a2 a4 H = some (r, H') → Sn G (T0 G (some (.int r)) H') mX9_judge 60 [some (.ref a0), some (.int a1), some (.long a2), none, some (.int a4), none] [] H) {a0 : Nat} {a1 : Int32} {a2 : Int64} {a4 : Int32} {H : Hp} (h : bX9_judge_60 K60 a0 a1 a2 a4 H = some (r, H')) : Sn G (T0 G (some (.int r)) H') mX9_judge 60 [some (.ref a0), some (.int a1), some (.long a2), none, some (.int a4), none] [] H := by
  unfold bX9_judge_60 at h
  refine sn_blk _ kX9_judge_60_0 (pc' := 63) (L' := [some (.ref a0), some (.int a1), some (.long a2), none, some (.int a4), none]) (st' := [.int a1, .int a4]) rfl rfl ?_
  refine sn_icmp_ge (tgt := 104) dX9_judge_63 (by decide) (fun c => ?_) (fun c => ?_)
  · rw [if_pos c] at h
    refine sn_blk _ kX9_judge_60_1 (pc' := 106) (L' := [some (.ref a0), some (.int a1), some (.long a2), none, some (.int a4), none]) (st' := [.int (-9)]) rfl rfl ?_
    cases h
    exact sn_iret (ty := .int) dX9_judge_106 rfl rfl
  · rw [if_neg c] at h
    refine sn_blk _ kX9_judge_60_2 (pc' := 73) (L' := [some (.ref a0), some (.int a1), some (.long a2), none, some (.int a4), none]) (st' := [.int ((a1 - 1) - a4), .long a2]) rfl rfl ?_
    obtain ⟨x1, H2, hx1, h⟩ := bd2_inv h
    refine sn_calls (av := [.long a2, .int ((a1 - 1) - a4)]) (st := []) (M2 := mX9_withoutLast) dX9_judge_73 msX9_withoutLast mlX9_219 rfl rfl rfl rfl rfl (sX9_withoutLast hx1) ?_
    refine sn_ldc2 dX9_judge_76 kcX9_223 ?_
    refine sn_lrem dX9_judge_79 (by decide) ?_
    refine sn_blk _ kX9_judge_60_3 (pc' := 84) (L' := [some (.ref a0), some (.int a1), some (.long a2), none, some (.int a4), some (.int (Int64.toInt32 (rJ x1 10000)))]) (st' := [.ref a0]) rfl rfl ?_
    obtain ⟨x3, hx3, h⟩ := bd_inv h
    refine sn_gA dX9_judge_84 foX9_23 hx3 ?_
    refine sn_blk _ kX9_judge_60_4 (pc' := 89) (L' := [some (.ref a0), some (.int a1), some (.long a2), none, some (.int a4), some (.int (Int64.toInt32 (rJ x1 10000)))]) (st' := [.int (Int64.toInt32 (rJ x1 10000)), .ref x3]) rfl rfl ?_
    obtain ⟨ho, h⟩ := gp_inv h
    obtain ⟨fs, ho⟩ := isO_inv ho
    obtain ⟨x4, H5, hx4, h⟩ := bd2_inv h
    refine sn_callv (av := [.int (Int64.toInt32 (rJ x1 10000))]) (st := []) (M2 := mX2_tryTold) dX9_judge_89 msX2_tryTold mlX9_225 rfl rfl rfl rfl rfl ho (sX2_tryTold hx4) ?_
    refine sn_if_ne (tgt := 98) dX9_judge_92 (by decide) (fun c => ?_) (fun c => ?_)
    · rw [if_neg c] at h
      refine sn_blk _ kX9_judge_60_5 (pc' := 60) (L' := [some (.ref a0), some (.int a1), some (.long a2), none, some (.int (a4 + 1)), some (.int (Int64.toInt32 (rJ x1 10000)))]) (st' := []) rfl rfl ?_
      refine sn_msk [true, true, true, true, true, false] (L2 := [some (.ref a0), some (.int a1), some (.long a2), none, some (.int (a4 + 1)), none]) rfl ?_
      exact hK60 _ _ _ _ _ h
    · rw [if_pos c] at h
      refine sn_blk _ kX9_judge_60_6 (pc' := 97) (L' := [some (.ref a0), some (.int a1), some (.long a2), none, some (.int a4), some (.int (Int64.toInt32 (rJ x1 10000)))]) (st' := [.int a4]) rfl rfl ?_
      cases h
      exact sn_iret (ty := .int) dX9_judge_97 rfl rfl
def fX9_judge_60  : Nat → Nat → Int32 → Int64 → Int32 → Hp → Option (Int32 × Hp)
  | 0, _, _, _, _, _ => none
  | d + 1, a0, a1, a2, a4, H => bX9_judge_60 (fX9_judge_60  d) a0 a1 a2 a4 H
theorem tfX9_judge_60 {G : GG} {r : Int32} {H' : Hp}   : ∀ (d : Nat) {a0 : Nat} {a1 : Int32} {a2 : Int64} {a4 : Int32} {H : Hp}, fX9_judge_60  d a0 a1 a2 a4 H = some (r, H') → Sn G (T0 G (some (.int r)) H') mX9_judge 60 [some (.ref a0), some (.int a1), some (.long a2), none, some (.int a4), none] [] H := by
  intro d
  induction d with
  | zero => intro a0 a1 a2 a4 H h; cases h
  | succ d ih => intro a0 a1 a2 a4 H h; exact tbX9_judge_60 (fun a0 a1 a2 a4 H h => ih h) h
def FX9_judge  (a0 : Nat) (a1 : Int32) (a2 : Int64) (H : Hp) : Option (Int32 × Hp) :=
  if (a1 < 1 : Prop) then
    some ((-2), H)
  else
    if (4 < a1 : Prop) then
      some ((-2), H)
    else
      if ((lg_cmp a2 0) < 0 : Prop) then
        some ((-2), H)
      else
        bd2 (FX9_withoutLast a2 a1 H) fun x1 H2 =>
        if ((lg_cmp x1 0) = 0 : Prop) then
          bd (gA H2 a0 8 2) fun x3 =>
          bd (gA H2 a0 8 1) fun x4 =>
          bd (gI H2 x4 2 0) fun x5 =>
          bd (gA H2 a0 8 1) fun x6 =>
          bd (gI H2 x6 2 1) fun x7 =>
          bd (gA H2 a0 8 1) fun x8 =>
          bd (gI H2 x8 2 2) fun x9 =>
          gp (isO H2 x3 2 = true) (
            bd2 (FX2_become x3 x5 x7 x9 H2) fun _ H11 =>
            fX9_judge_60  4096 a0 a1 a2 0 H11
            )
        else
          some ((-2), H2)
set_option maxHeartbeats 4000000 in
set_option maxRecDepth 100000 in
theorem tFX9_judge {G : GG} {r : Int32} {H' : Hp}   {a0 : Nat} {a1 : Int32} {a2 : Int64} {H : Hp} (h : FX9_judge  a0 a1 a2 H = some (r, H')) : Sn G (T0 G (some (.int r)) H') mX9_judge 0 [some (.ref a0), some (.int a1), some (.long a2), none, none, none] [] H := by
  unfold FX9_judge at h
  refine sn_blk _ kX9_judge_0_0 (pc' := 2) (L' := [some (.ref a0), some (.int a1), some (.long a2), none, none, none]) (st' := [.int 1, .int a1]) rfl rfl ?_
  refine sn_icmp_lt (tgt := 26) dX9_judge_2 (by decide) (fun c => ?_) (fun c => ?_)
  · rw [if_pos c] at h
    refine sn_blk _ kX9_judge_0_1 (pc' := 28) (L' := [some (.ref a0), some (.int a1), some (.long a2), none, none, none]) (st' := [.int (-2)]) rfl rfl ?_
    cases h
    exact sn_iret (ty := .int) dX9_judge_28 rfl rfl
  · rw [if_neg c] at h
    refine sn_blk _ kX9_judge_0_2 (pc' := 7) (L' := [some (.ref a0), some (.int a1), some (.long a2), none, none, none]) (st' := [.int 4, .int a1]) rfl rfl ?_
    refine sn_icmp_gt (tgt := 26) dX9_judge_7 (by decide) (fun c => ?_) (fun c => ?_)
    · rw [if_pos c] at h
      refine sn_blk _ kX9_judge_0_3 (pc' := 28) (L' := [some (.ref a0), some (.int a1), some (.long a2), none, none, none]) (st' := [.int (-2)]) rfl rfl ?_
      cases h
      exact sn_iret (ty := .int) dX9_judge_28 rfl rfl
    · rw [if_neg c] at h
      refine sn_blk _ kX9_judge_0_4 (pc' := 13) (L' := [some (.ref a0), some (.int a1), some (.long a2), none, none, none]) (st' := [.int (lg_cmp a2 0)]) rfl rfl ?_
      refine sn_if_lt (tgt := 26) dX9_judge_13 (by decide) (fun c => ?_) (fun c => ?_)
      · rw [if_pos c] at h
        refine sn_blk _ kX9_judge_0_5 (pc' := 28) (L' := [some (.ref a0), some (.int a1), some (.long a2), none, none, none]) (st' := [.int (-2)]) rfl rfl ?_
        cases h
        exact sn_iret (ty := .int) dX9_judge_28 rfl rfl
      · rw [if_neg c] at h
        refine sn_blk _ kX9_judge_0_6 (pc' := 18) (L' := [some (.ref a0), some (.int a1), some (.long a2), none, none, none]) (st' := [.int a1, .long a2]) rfl rfl ?_
        obtain ⟨x1, H2, hx1, h⟩ := bd2_inv h
        refine sn_calls (av := [.long a2, .int a1]) (st := []) (M2 := mX9_withoutLast) dX9_judge_18 msX9_withoutLast mlX9_219 rfl rfl rfl rfl rfl (sX9_withoutLast hx1) ?_
        refine sn_blk _ kX9_judge_0_7 (pc' := 23) (L' := [some (.ref a0), some (.int a1), some (.long a2), none, none, none]) (st' := [.int (lg_cmp x1 0)]) rfl rfl ?_
        refine sn_if_eq (tgt := 29) dX9_judge_23 (by decide) (fun c => ?_) (fun c => ?_)
        · rw [if_pos c] at h
          refine sn_blk _ kX9_judge_0_8 (pc' := 30) (L' := [some (.ref a0), some (.int a1), some (.long a2), none, none, none]) (st' := [.ref a0]) rfl rfl ?_
          obtain ⟨x3, hx3, h⟩ := bd_inv h
          refine sn_gA dX9_judge_30 foX9_23 hx3 ?_
          refine sn_blk _ kX9_judge_0_9 (pc' := 34) (L' := [some (.ref a0), some (.int a1), some (.long a2), none, none, none]) (st' := [.ref a0, .ref x3]) rfl rfl ?_
          obtain ⟨x4, hx4, h⟩ := bd_inv h
          refine sn_gA dX9_judge_34 foX9_19 hx4 ?_
          obtain ⟨x5, hx5, h⟩ := bd_inv h
          refine sn_gI dX9_judge_37 foX9_108 hx5 ?_
          refine sn_blk _ kX9_judge_0_10 (pc' := 41) (L' := [some (.ref a0), some (.int a1), some (.long a2), none, none, none]) (st' := [.ref a0, .int x5, .ref x3]) rfl rfl ?_
          obtain ⟨x6, hx6, h⟩ := bd_inv h
          refine sn_gA dX9_judge_41 foX9_19 hx6 ?_
          obtain ⟨x7, hx7, h⟩ := bd_inv h
          refine sn_gI dX9_judge_44 foX9_162 hx7 ?_
          refine sn_blk _ kX9_judge_0_11 (pc' := 48) (L' := [some (.ref a0), some (.int a1), some (.long a2), none, none, none]) (st' := [.ref a0, .int x7, .int x5, .ref x3]) rfl rfl ?_
          obtain ⟨x8, hx8, h⟩ := bd_inv h
          refine sn_gA dX9_judge_48 foX9_19 hx8 ?_
          obtain ⟨x9, hx9, h⟩ := bd_inv h
          refine sn_gI dX9_judge_51 foX9_182 hx9 ?_
          obtain ⟨ho, h⟩ := gp_inv h
          obtain ⟨fs, ho⟩ := isO_inv ho
          obtain ⟨x10, H11, hx10, h⟩ := bd2_inv h
          refine sn_callv (av := [.int x5, .int x7, .int x9]) (st := []) (M2 := mX2_become) dX9_judge_54 msX2_become mlX9_92 rfl rfl rfl rfl rfl ho (sX2_become hx10) ?_
          refine sn_blk _ kX9_judge_0_12 (pc' := 60) (L' := [some (.ref a0), some (.int a1), some (.long a2), none, some (.int 0), none]) (st' := []) rfl rfl ?_
          exact tfX9_judge_60  4096 h
        · rw [if_neg c] at h
          refine sn_blk _ kX9_judge_0_13 (pc' := 28) (L' := [some (.ref a0), some (.int a1), some (.long a2), none, none, none]) (st' := [.int (-2)]) rfl rfl ?_
          cases h
          exact sn_iret (ty := .int) dX9_judge_28 rfl rfl
theorem sX9_judge {G : GG} {r : Int32} {H' : Hp} {a0 : Nat} {a1 : Int32} {a2 : Int64} {H : Hp} (h : FX9_judge a0 a1 a2 H = some (r, H')) : SM G mX9_judge [.ref a0, .int a1, .long a2] H (some (.int r)) H' := tFX9_judge h
/-! SquareFolds.share(IZ)I -/
theorem kX9_share_0_0 : decB cX9_share 0 [(.aload_n 0, .null)] = true := by decide +kernel
theorem kX9_share_0_1 : decB cX9_share 4 [(.iload_n 1, .null)] = true := by decide +kernel
theorem kX9_share_0_2 : decB cX9_share 13 [(.aload_n 0, .null)] = true := by decide +kernel
theorem kX9_share_0_3 : decB cX9_share 17 [(.aload_n 0, .null)] = true := by decide +kernel
theorem kX9_share_0_4 : decB cX9_share 21 [(.iload_n 1, .null)] = true := by decide +kernel
theorem kX9_share_0_5 : decB cX9_share 25 [(.aload_n 0, .null)] = true := by decide +kernel
theorem kX9_share_0_6 : decB cX9_share 38 [(.aload_n 0, .null)] = true := by decide +kernel
theorem kX9_share_0_7 : decB cX9_share 42 [(.iload_n 2, .null)] = true := by decide +kernel
theorem kX9_share_0_8 : decB cX9_share 11 [(.iconst (-1), .int (-1))] = true := by decide +kernel
theorem dX9_share_1 : decode cX9_share 1 = .ok (.getfield 19, 3) := by decide +kernel
theorem dX9_share_5 : decode cX9_share 5 = .ok (.invokevirtual 130, 3) := by decide +kernel
theorem dX9_share_8 : decode cX9_share 8 = .ok (.ifCond .ne 5, 3) := by decide +kernel
theorem dX9_share_12 : decode cX9_share 12 = .ok (.ireturn, 1) := by decide +kernel
theorem dX9_share_14 : decode cX9_share 14 = .ok (.getfield 64, 3) := by decide +kernel
theorem dX9_share_18 : decode cX9_share 18 = .ok (.getfield 19, 3) := by decide +kernel
theorem dX9_share_22 : decode cX9_share 22 = .ok (.invokevirtual 228, 3) := by decide +kernel
theorem dX9_share_26 : decode cX9_share 26 = .ok (.getfield 19, 3) := by decide +kernel
theorem dX9_share_29 : decode cX9_share 29 = .ok (.getfield 108, 3) := by decide +kernel
theorem dX9_share_32 : decode cX9_share 32 = .ok (.invokestatic 231, 3) := by decide +kernel
theorem dX9_share_35 : decode cX9_share 35 = .ok (.invokevirtual 234, 3) := by decide +kernel
theorem dX9_share_39 : decode cX9_share 39 = .ok (.getfield 64, 3) := by decide +kernel
theorem dX9_share_43 : decode cX9_share 43 = .ok (.invokevirtual 236, 3) := by decide +kernel
theorem dX9_share_46 : decode cX9_share 46 = .ok (.ireturn, 1) := by decide +kernel
def FX9_share  (a0 : Nat) (a1 : Int32) (a2 : Int32) (H : Hp) : Option (Int32 × Hp) :=
  bd (gA H a0 8 1) fun x1 =>
  gp (isO H x1 2 = true) (
    bd2 (FX2_has x1 a1 H) fun x2 H3 =>
    if (x2 = 0 : Prop) then
      some ((-1), H3)
    else
      bd (gA H3 a0 8 8) fun x4 =>
      bd (gA H3 a0 8 1) fun x5 =>
      gp (isO H3 x5 2 = true) (
        bd2 (FX2_moreInAllOrders x5 a1 H3) fun x6 H7 =>
        bd (gA H7 a0 8 1) fun x8 =>
        bd (gI H7 x8 2 0) fun x9 =>
        bd2 (FX2_orders x9 H7) fun x10 H11 =>
        gp (isO H11 x4 1 = true) (
          bd2 (FX1_become x4 x6 x10 H11) fun _ H13 =>
          bd (gA H13 a0 8 8) fun x14 =>
          gp (isO H13 x14 1 = true) (
            bd2 (FX1_told x14 a2 H13) fun x15 H16 =>
            some (x15, H16)
            )
          )
        )
    )
set_option maxHeartbeats 4000000 in
set_option maxRecDepth 100000 in
theorem tFX9_share {G : GG} {r : Int32} {H' : Hp}   {a0 : Nat} {a1 : Int32} {a2 : Int32} {H : Hp} (h : FX9_share  a0 a1 a2 H = some (r, H')) : Sn G (T0 G (some (.int r)) H') mX9_share 0 [some (.ref a0), some (.int a1), some (.int a2)] [] H := by
  unfold FX9_share at h
  refine sn_blk _ kX9_share_0_0 (pc' := 1) (L' := [some (.ref a0), some (.int a1), some (.int a2)]) (st' := [.ref a0]) rfl rfl ?_
  obtain ⟨x1, hx1, h⟩ := bd_inv h
  refine sn_gA dX9_share_1 foX9_19 hx1 ?_
  refine sn_blk _ kX9_share_0_1 (pc' := 5) (L' := [some (.ref a0), some (.int a1), some (.int a2)]) (st' := [.int a1, .ref x1]) rfl rfl ?_
  obtain ⟨ho, h⟩ := gp_inv h
  obtain ⟨fs, ho⟩ := isO_inv ho
  obtain ⟨x2, H3, hx2, h⟩ := bd2_inv h
  refine sn_callv (av := [.int a1]) (st := []) (M2 := mX2_has) dX9_share_5 msX2_has mlX9_130 rfl rfl rfl rfl rfl ho (sX2_has hx2) ?_
  refine sn_if_ne (tgt := 13) dX9_share_8 (by decide) (fun c => ?_) (fun c => ?_)
  · rw [if_neg c] at h
    refine sn_blk _ kX9_share_0_2 (pc' := 14) (L' := [some (.ref a0), some (.int a1), some (.int a2)]) (st' := [.ref a0]) rfl rfl ?_
    obtain ⟨x4, hx4, h⟩ := bd_inv h
    refine sn_gA dX9_share_14 foX9_64 hx4 ?_
    refine sn_blk _ kX9_share_0_3 (pc' := 18) (L' := [some (.ref a0), some (.int a1), some (.int a2)]) (st' := [.ref a0, .ref x4]) rfl rfl ?_
    obtain ⟨x5, hx5, h⟩ := bd_inv h
    refine sn_gA dX9_share_18 foX9_19 hx5 ?_
    refine sn_blk _ kX9_share_0_4 (pc' := 22) (L' := [some (.ref a0), some (.int a1), some (.int a2)]) (st' := [.int a1, .ref x5, .ref x4]) rfl rfl ?_
    obtain ⟨ho, h⟩ := gp_inv h
    obtain ⟨fs, ho⟩ := isO_inv ho
    obtain ⟨x6, H7, hx6, h⟩ := bd2_inv h
    refine sn_callv (av := [.int a1]) (st := [.ref x4]) (M2 := mX2_moreInAllOrders) dX9_share_22 msX2_moreInAllOrders mlX9_228 rfl rfl rfl rfl rfl ho (sX2_moreInAllOrders hx6) ?_
    refine sn_blk _ kX9_share_0_5 (pc' := 26) (L' := [some (.ref a0), some (.int a1), some (.int a2)]) (st' := [.ref a0, .int x6, .ref x4]) rfl rfl ?_
    obtain ⟨x8, hx8, h⟩ := bd_inv h
    refine sn_gA dX9_share_26 foX9_19 hx8 ?_
    obtain ⟨x9, hx9, h⟩ := bd_inv h
    refine sn_gI dX9_share_29 foX9_108 hx9 ?_
    obtain ⟨x10, H11, hx10, h⟩ := bd2_inv h
    refine sn_calls (av := [.int x9]) (st := [.int x6, .ref x4]) (M2 := mX2_orders) dX9_share_32 msX2_orders mlX9_231 rfl rfl rfl rfl rfl (sX2_orders hx10) ?_
    obtain ⟨ho, h⟩ := gp_inv h
    obtain ⟨fs, ho⟩ := isO_inv ho
    obtain ⟨x12, H13, hx12, h⟩ := bd2_inv h
    refine sn_callv (av := [.int x6, .int x10]) (st := []) (M2 := mX1_become) dX9_share_35 msX1_become mlX9_234 rfl rfl rfl rfl rfl ho (sX1_become hx12) ?_
    refine sn_blk _ kX9_share_0_6 (pc' := 39) (L' := [some (.ref a0), some (.int a1), some (.int a2)]) (st' := [.ref a0]) rfl rfl ?_
    obtain ⟨x14, hx14, h⟩ := bd_inv h
    refine sn_gA dX9_share_39 foX9_64 hx14 ?_
    refine sn_blk _ kX9_share_0_7 (pc' := 43) (L' := [some (.ref a0), some (.int a1), some (.int a2)]) (st' := [.int a2, .ref x14]) rfl rfl ?_
    obtain ⟨ho, h⟩ := gp_inv h
    obtain ⟨fs, ho⟩ := isO_inv ho
    obtain ⟨x15, H16, hx15, h⟩ := bd2_inv h
    refine sn_callv (av := [.int a2]) (st := []) (M2 := mX1_told) dX9_share_43 msX1_told mlX9_236 rfl rfl rfl rfl rfl ho (sX1_told hx15) ?_
    cases h
    exact sn_iret (ty := .int) dX9_share_46 rfl rfl
  · rw [if_pos c] at h
    refine sn_blk _ kX9_share_0_8 (pc' := 12) (L' := [some (.ref a0), some (.int a1), some (.int a2)]) (st' := [.int (-1)]) rfl rfl ?_
    cases h
    exact sn_iret (ty := .int) dX9_share_12 rfl rfl
theorem sX9_share {G : GG} {r : Int32} {H' : Hp} {a0 : Nat} {a1 : Int32} {a2 : Int32} {H : Hp} (h : FX9_share a0 a1 a2 H = some (r, H')) : SM G mX9_share [.ref a0, .int a1, .int a2] H (some (.int r)) H' := tFX9_share h
/-! SquareFolds.see(II)I -/
theorem kX9_see_0_0 : decB cX9_see 0 [(.iload_n 1, .null)] = true := by decide +kernel
theorem kX9_see_0_1 : decB cX9_see 16 [(.bipush (-2), .int (-2))] = true := by decide +kernel
theorem kX9_see_0_2 : decB cX9_see 7 [(.iload_n 2, .null)] = true := by decide +kernel
theorem kX9_see_0_3 : decB cX9_see 16 [(.bipush (-2), .int (-2))] = true := by decide +kernel
theorem kX9_see_0_4 : decB cX9_see 11 [(.iload_n 2, .null), (.iconst 1, .int 1)] = true := by decide +kernel
theorem kX9_see_0_5 : decB cX9_see 19 [(.aload_n 0, .null)] = true := by decide +kernel
theorem kX9_see_0_6 : decB cX9_see 23 [(.iload_n 1, .null), (.iload_n 2, .null)] = true := by decide +kernel
theorem kX9_see_0_7 : decB cX9_see 41 [(.bipush (-4), .int (-4))] = true := by decide +kernel
theorem kX9_see_0_8 : decB cX9_see 31 [(.aload_n 0, .null)] = true := by decide +kernel
theorem kX9_see_0_9 : decB cX9_see 38 [(.goto 5, .retAddr 43)] = true := by decide +kernel
theorem kX9_see_0_10 : decB cX9_see 16 [(.bipush (-2), .int (-2))] = true := by decide +kernel
theorem dX9_see_1 : decode cX9_see 1 = .ok (.invokestatic 136, 3) := by decide +kernel
theorem dX9_see_4 : decode cX9_see 4 = .ok (.ifCond .eq 12, 3) := by decide +kernel
theorem dX9_see_8 : decode cX9_see 8 = .ok (.ifCond .lt 8, 3) := by decide +kernel
theorem dX9_see_13 : decode cX9_see 13 = .ok (.if_icmp .le 6, 3) := by decide +kernel
theorem dX9_see_18 : decode cX9_see 18 = .ok (.ireturn, 1) := by decide +kernel
theorem dX9_see_20 : decode cX9_see 20 = .ok (.getfield 43, 3) := by decide +kernel
theorem dX9_see_25 : decode cX9_see 25 = .ok (.invokevirtual 240, 3) := by decide +kernel
theorem dX9_see_28 : decode cX9_see 28 = .ok (.ifCond .eq 13, 3) := by decide +kernel
theorem dX9_see_32 : decode cX9_see 32 = .ok (.getfield 43, 3) := by decide +kernel
theorem dX9_see_35 : decode cX9_see 35 = .ok (.getfield 129, 3) := by decide +kernel
theorem dX9_see_43 : decode cX9_see 43 = .ok (.ireturn, 1) := by decide +kernel
def FX9_see  (a0 : Nat) (a1 : Int32) (a2 : Int32) (H : Hp) : Option (Int32 × Hp) :=
  bd2 (FX9_isWay a1 H) fun x1 H2 =>
  if (x1 = 0 : Prop) then
    some ((-2), H2)
  else
    if (a2 < 0 : Prop) then
      some ((-2), H2)
    else
      if (a2 ≤ 1 : Prop) then
        bd (gA H2 a0 8 5) fun x3 =>
        gp (isO H2 x3 6 = true) (
          bd2 (FX7_add x3 a1 a2 H2) fun x4 H5 =>
          if (x4 = 0 : Prop) then
            some ((-4), H5)
          else
            bd (gA H5 a0 8 5) fun x6 =>
            bd (gI H5 x6 6 2) fun x7 =>
            some (x7, H5)
          )
      else
        some ((-2), H2)
set_option maxHeartbeats 4000000 in
set_option maxRecDepth 100000 in
theorem tFX9_see {G : GG} {r : Int32} {H' : Hp}   {a0 : Nat} {a1 : Int32} {a2 : Int32} {H : Hp} (h : FX9_see  a0 a1 a2 H = some (r, H')) : Sn G (T0 G (some (.int r)) H') mX9_see 0 [some (.ref a0), some (.int a1), some (.int a2)] [] H := by
  unfold FX9_see at h
  refine sn_blk _ kX9_see_0_0 (pc' := 1) (L' := [some (.ref a0), some (.int a1), some (.int a2)]) (st' := [.int a1]) rfl rfl ?_
  obtain ⟨x1, H2, hx1, h⟩ := bd2_inv h
  refine sn_calls (av := [.int a1]) (st := []) (M2 := mX9_isWay) dX9_see_1 msX9_isWay mlX9_136 rfl rfl rfl rfl rfl (sX9_isWay hx1) ?_
  refine sn_if_eq (tgt := 16) dX9_see_4 (by decide) (fun c => ?_) (fun c => ?_)
  · rw [if_pos c] at h
    refine sn_blk _ kX9_see_0_1 (pc' := 18) (L' := [some (.ref a0), some (.int a1), some (.int a2)]) (st' := [.int (-2)]) rfl rfl ?_
    cases h
    exact sn_iret (ty := .int) dX9_see_18 rfl rfl
  · rw [if_neg c] at h
    refine sn_blk _ kX9_see_0_2 (pc' := 8) (L' := [some (.ref a0), some (.int a1), some (.int a2)]) (st' := [.int a2]) rfl rfl ?_
    refine sn_if_lt (tgt := 16) dX9_see_8 (by decide) (fun c => ?_) (fun c => ?_)
    · rw [if_pos c] at h
      refine sn_blk _ kX9_see_0_3 (pc' := 18) (L' := [some (.ref a0), some (.int a1), some (.int a2)]) (st' := [.int (-2)]) rfl rfl ?_
      cases h
      exact sn_iret (ty := .int) dX9_see_18 rfl rfl
    · rw [if_neg c] at h
      refine sn_blk _ kX9_see_0_4 (pc' := 13) (L' := [some (.ref a0), some (.int a1), some (.int a2)]) (st' := [.int 1, .int a2]) rfl rfl ?_
      refine sn_icmp_le (tgt := 19) dX9_see_13 (by decide) (fun c => ?_) (fun c => ?_)
      · rw [if_pos c] at h
        refine sn_blk _ kX9_see_0_5 (pc' := 20) (L' := [some (.ref a0), some (.int a1), some (.int a2)]) (st' := [.ref a0]) rfl rfl ?_
        obtain ⟨x3, hx3, h⟩ := bd_inv h
        refine sn_gA dX9_see_20 foX9_43 hx3 ?_
        refine sn_blk _ kX9_see_0_6 (pc' := 25) (L' := [some (.ref a0), some (.int a1), some (.int a2)]) (st' := [.int a2, .int a1, .ref x3]) rfl rfl ?_
        obtain ⟨ho, h⟩ := gp_inv h
        obtain ⟨fs, ho⟩ := isO_inv ho
        obtain ⟨x4, H5, hx4, h⟩ := bd2_inv h
        refine sn_callv (av := [.int a1, .int a2]) (st := []) (M2 := mX7_add) dX9_see_25 msX7_add mlX9_240 rfl rfl rfl rfl rfl ho (sX7_add hx4) ?_
        refine sn_if_eq (tgt := 41) dX9_see_28 (by decide) (fun c => ?_) (fun c => ?_)
        · rw [if_pos c] at h
          refine sn_blk _ kX9_see_0_7 (pc' := 43) (L' := [some (.ref a0), some (.int a1), some (.int a2)]) (st' := [.int (-4)]) rfl rfl ?_
          cases h
          exact sn_iret (ty := .int) dX9_see_43 rfl rfl
        · rw [if_neg c] at h
          refine sn_blk _ kX9_see_0_8 (pc' := 32) (L' := [some (.ref a0), some (.int a1), some (.int a2)]) (st' := [.ref a0]) rfl rfl ?_
          obtain ⟨x6, hx6, h⟩ := bd_inv h
          refine sn_gA dX9_see_32 foX9_43 hx6 ?_
          obtain ⟨x7, hx7, h⟩ := bd_inv h
          refine sn_gI dX9_see_35 foX9_129 hx7 ?_
          refine sn_blk _ kX9_see_0_9 (pc' := 43) (L' := [some (.ref a0), some (.int a1), some (.int a2)]) (st' := [.int x7]) rfl rfl ?_
          cases h
          exact sn_iret (ty := .int) dX9_see_43 rfl rfl
      · rw [if_neg c] at h
        refine sn_blk _ kX9_see_0_10 (pc' := 18) (L' := [some (.ref a0), some (.int a1), some (.int a2)]) (st' := [.int (-2)]) rfl rfl ?_
        cases h
        exact sn_iret (ty := .int) dX9_see_18 rfl rfl
theorem sX9_see {G : GG} {r : Int32} {H' : Hp} {a0 : Nat} {a1 : Int32} {a2 : Int32} {H : Hp} (h : FX9_see a0 a1 a2 H = some (r, H')) : SM G mX9_see [.ref a0, .int a1, .int a2] H (some (.int r)) H' := tFX9_see h
/-! SquareFolds.unsee()I -/
theorem kX9_unsee_0_0 : decB cX9_unsee 0 [(.aload_n 0, .null)] = true := by decide +kernel
theorem kX9_unsee_0_1 : decB cX9_unsee 7 [(.istore_n 1, .null), (.aload_n 0, .null)] = true := by decide +kernel
theorem kX9_unsee_0_2 : decB cX9_unsee 12 [(.iconst 0, .int 0)] = true := by decide +kernel
theorem kX9_unsee_0_3 : decB cX9_unsee 16 [(.iload_n 1, .null)] = true := by decide +kernel
theorem dX9_unsee_1 : decode cX9_unsee 1 = .ok (.getfield 43, 3) := by decide +kernel
theorem dX9_unsee_4 : decode cX9_unsee 4 = .ok (.getfield 129, 3) := by decide +kernel
theorem dX9_unsee_9 : decode cX9_unsee 9 = .ok (.getfield 43, 3) := by decide +kernel
theorem dX9_unsee_13 : decode cX9_unsee 13 = .ok (.putfield 129, 3) := by decide +kernel
theorem dX9_unsee_17 : decode cX9_unsee 17 = .ok (.ireturn, 1) := by decide +kernel
def FX9_unsee  (a0 : Nat) (H : Hp) : Option (Int32 × Hp) :=
  bd (gA H a0 8 5) fun x1 =>
  bd (gI H x1 6 2) fun x2 =>
  bd (gA H a0 8 5) fun x3 =>
  bd (pV H x3 6 2 (.int 0)) fun H4 =>
  some (x2, H4)
set_option maxHeartbeats 4000000 in
set_option maxRecDepth 100000 in
theorem tFX9_unsee {G : GG} {r : Int32} {H' : Hp}   {a0 : Nat} {H : Hp} (h : FX9_unsee  a0 H = some (r, H')) : Sn G (T0 G (some (.int r)) H') mX9_unsee 0 [some (.ref a0), none] [] H := by
  unfold FX9_unsee at h
  refine sn_blk _ kX9_unsee_0_0 (pc' := 1) (L' := [some (.ref a0), none]) (st' := [.ref a0]) rfl rfl ?_
  obtain ⟨x1, hx1, h⟩ := bd_inv h
  refine sn_gA dX9_unsee_1 foX9_43 hx1 ?_
  obtain ⟨x2, hx2, h⟩ := bd_inv h
  refine sn_gI dX9_unsee_4 foX9_129 hx2 ?_
  refine sn_blk _ kX9_unsee_0_1 (pc' := 9) (L' := [some (.ref a0), some (.int x2)]) (st' := [.ref a0]) rfl rfl ?_
  obtain ⟨x3, hx3, h⟩ := bd_inv h
  refine sn_gA dX9_unsee_9 foX9_43 hx3 ?_
  refine sn_blk _ kX9_unsee_0_2 (pc' := 13) (L' := [some (.ref a0), some (.int x2)]) (st' := [.int 0, .ref x3]) rfl rfl ?_
  obtain ⟨H4, hH4, h⟩ := bd_inv h
  refine sn_pI dX9_unsee_13 foX9_129 fpX7_2 hH4 ?_
  refine sn_blk _ kX9_unsee_0_3 (pc' := 17) (L' := [some (.ref a0), some (.int x2)]) (st' := [.int x2]) rfl rfl ?_
  cases h
  exact sn_iret (ty := .int) dX9_unsee_17 rfl rfl
theorem sX9_unsee {G : GG} {r : Int32} {H' : Hp} {a0 : Nat} {H : Hp} (h : FX9_unsee a0 H = some (r, H')) : SM G mX9_unsee [.ref a0] H (some (.int r)) H' := tFX9_unsee h
/-! SquareFolds.allSeenFrom(I)Z -/
theorem kX9_allSeenFrom_0_0 : decB cX9_allSeenFrom 0 [(.iconst 0, .int 0), (.istore_n 2, .null)] = true := by decide +kernel
theorem kX9_allSeenFrom_2_0 : decB cX9_allSeenFrom 2 [(.iload_n 2, .null), (.aload_n 0, .null)] = true := by decide +kernel
theorem kX9_allSeenFrom_2_1 : decB cX9_allSeenFrom 59 [(.iconst 1, .int 1)] = true := by decide +kernel
theorem kX9_allSeenFrom_2_2 : decB cX9_allSeenFrom 13 [(.aload_n 0, .null)] = true := by decide +kernel
theorem kX9_allSeenFrom_2_3 : decB cX9_allSeenFrom 17 [(.iload_n 1, .null), (.aload_n 0, .null)] = true := by decide +kernel
theorem kX9_allSeenFrom_2_4 : decB cX9_allSeenFrom 22 [(.iload_n 2, .null)] = true := by decide +kernel
theorem kX9_allSeenFrom_2_5 : decB cX9_allSeenFrom 29 [(.iload_n 1, .null)] = true := by decide +kernel
theorem kX9_allSeenFrom_2_6 : decB cX9_allSeenFrom 37 [(.iconst 0, .int 0)] = true := by decide +kernel
theorem kX9_allSeenFrom_2_7 : decB cX9_allSeenFrom 33 [(.iconst 1, .int 1), (.goto 4, .retAddr 38)] = true := by decide +kernel
theorem kX9_allSeenFrom_38_0 : decB cX9_allSeenFrom 38 [(.istore_n 3, .null), (.iload_n 3, .null), (.aload_n 0, .null)] = true := by decide +kernel
theorem kX9_allSeenFrom_38_1 : decB cX9_allSeenFrom 44 [(.iload_n 2, .null)] = true := by decide +kernel
theorem kX9_allSeenFrom_38_2 : decB cX9_allSeenFrom 53 [(.iinc 2 1, .int 1), (.goto (-54), .retAddr 2)] = true := by decide +kernel
theorem kX9_allSeenFrom_38_3 : decB cX9_allSeenFrom 51 [(.iconst 0, .int 0)] = true := by decide +kernel
theorem dX9_allSeenFrom_4 : decode cX9_allSeenFrom 4 = .ok (.getfield 43, 3) := by decide +kernel
theorem dX9_allSeenFrom_7 : decode cX9_allSeenFrom 7 = .ok (.getfield 129, 3) := by decide +kernel
theorem dX9_allSeenFrom_10 : decode cX9_allSeenFrom 10 = .ok (.if_icmp .ge 49, 3) := by decide +kernel
theorem dX9_allSeenFrom_14 : decode cX9_allSeenFrom 14 = .ok (.getfield 19, 3) := by decide +kernel
theorem dX9_allSeenFrom_19 : decode cX9_allSeenFrom 19 = .ok (.getfield 43, 3) := by decide +kernel
theorem dX9_allSeenFrom_23 : decode cX9_allSeenFrom 23 = .ok (.invokevirtual 269, 3) := by decide +kernel
theorem dX9_allSeenFrom_26 : decode cX9_allSeenFrom 26 = .ok (.invokevirtual 139, 3) := by decide +kernel
theorem dX9_allSeenFrom_30 : decode cX9_allSeenFrom 30 = .ok (.if_icmp .ne 7, 3) := by decide +kernel
theorem dX9_allSeenFrom_41 : decode cX9_allSeenFrom 41 = .ok (.getfield 43, 3) := by decide +kernel
theorem dX9_allSeenFrom_45 : decode cX9_allSeenFrom 45 = .ok (.invokevirtual 272, 3) := by decide +kernel
theorem dX9_allSeenFrom_48 : decode cX9_allSeenFrom 48 = .ok (.if_icmp .eq 5, 3) := by decide +kernel
theorem dX9_allSeenFrom_52 : decode cX9_allSeenFrom 52 = .ok (.ireturn, 1) := by decide +kernel
theorem dX9_allSeenFrom_60 : decode cX9_allSeenFrom 60 = .ok (.ireturn, 1) := by decide +kernel
def fX9_allSeenFrom_38 (K2 : Nat → Int32 → Int32 → Hp → Option (Int32 × Hp)) (a0 : Nat) (a1 : Int32) (a2 : Int32) (s0 : Int32) (H : Hp) : Option (Int32 × Hp) :=
  bd (gA H a0 8 5) fun x1 =>
  gp (isO H x1 6 = true) (
    bd2 (FX7_cameBack x1 a2 H) fun x2 H3 =>
    if (s0 = x2 : Prop) then
      K2 a0 a1 (a2 + 1) H3
    else
      some (0, H3)
    )
set_option maxHeartbeats 4000000 in
set_option maxRecDepth 100000 in
theorem tfX9_allSeenFrom_38 {G : GG} {r : Int32} {H' : Hp} {K2 : Nat → Int32 → Int32 → Hp → Option (Int32 × Hp)} (hK2 : ∀ (a0 : Nat) (a1 : Int32) (a2 : Int32) (H : Hp), K2 a0 a1 a2 H = some (r, H') → Sn G (T0 G (some (.int r)) H') mX9_allSeenFrom 2 [some (.ref a0), some (.int a1), some (.int a2), none] [] H) {a0 : Nat} {a1 : Int32} {a2 : Int32} {s0 : Int32} {H : Hp} (h : fX9_allSeenFrom_38 K2 a0 a1 a2 s0 H = some (r, H')) : Sn G (T0 G (some (.int r)) H') mX9_allSeenFrom 38 [some (.ref a0), some (.int a1), some (.int a2), none] [.int s0] H := by
  unfold fX9_allSeenFrom_38 at h
  refine sn_blk _ kX9_allSeenFrom_38_0 (pc' := 41) (L' := [some (.ref a0), some (.int a1), some (.int a2), some (.int s0)]) (st' := [.ref a0, .int s0]) rfl rfl ?_
  obtain ⟨x1, hx1, h⟩ := bd_inv h
  refine sn_gA dX9_allSeenFrom_41 foX9_43 hx1 ?_
  refine sn_blk _ kX9_allSeenFrom_38_1 (pc' := 45) (L' := [some (.ref a0), some (.int a1), some (.int a2), some (.int s0)]) (st' := [.int a2, .ref x1, .int s0]) rfl rfl ?_
  obtain ⟨ho, h⟩ := gp_inv h
  obtain ⟨fs, ho⟩ := isO_inv ho
  obtain ⟨x2, H3, hx2, h⟩ := bd2_inv h
  refine sn_callv (av := [.int a2]) (st := [.int s0]) (M2 := mX7_cameBack) dX9_allSeenFrom_45 msX7_cameBack mlX9_272 rfl rfl rfl rfl rfl ho (sX7_cameBack hx2) ?_
  refine sn_icmp_eq (tgt := 53) dX9_allSeenFrom_48 (by decide) (fun c => ?_) (fun c => ?_)
  · rw [if_pos c] at h
    refine sn_blk _ kX9_allSeenFrom_38_2 (pc' := 2) (L' := [some (.ref a0), some (.int a1), some (.int (a2 + 1)), some (.int s0)]) (st' := []) rfl rfl ?_
    refine sn_msk [true, true, true, false] (L2 := [some (.ref a0), some (.int a1), some (.int (a2 + 1)), none]) rfl ?_
    exact hK2 _ _ _ _ h
  · rw [if_neg c] at h
    refine sn_blk _ kX9_allSeenFrom_38_3 (pc' := 52) (L' := [some (.ref a0), some (.int a1), some (.int a2), some (.int s0)]) (st' := [.int 0]) rfl rfl ?_
    cases h
    exact sn_iret (ty := .boolean) dX9_allSeenFrom_52 rfl rfl
def bX9_allSeenFrom_2 (K2 : Nat → Int32 → Int32 → Hp → Option (Int32 × Hp)) (a0 : Nat) (a1 : Int32) (a2 : Int32) (H : Hp) : Option (Int32 × Hp) :=
  bd (gA H a0 8 5) fun x1 =>
  bd (gI H x1 6 2) fun x2 =>
  if (x2 ≤ a2 : Prop) then
    some (1, H)
  else
    bd (gA H a0 8 1) fun x3 =>
    bd (gA H a0 8 5) fun x4 =>
    gp (isO H x4 6 = true) (
      bd2 (FX7_wayAt x4 a2 H) fun x5 H6 =>
      gp (isO H6 x3 2 = true) (
        bd2 (FX2_walked x3 a1 x5 H6) fun x7 H8 =>
        if (x7 = a1 : Prop) then
          fX9_allSeenFrom_38 K2 a0 a1 a2 1 H8
        else
          fX9_allSeenFrom_38 K2 a0 a1 a2 0 H8
        )
      )
set_option maxHeartbeats 4000000 in
set_option maxRecDepth 100000 in
theorem tbX9_allSeenFrom_2 {G : GG} {r : Int32} {H' : Hp} {K2 : Nat → Int32 → Int32 → Hp → Option (Int32 × Hp)} (hK2 : ∀ (a0 : Nat) (a1 : Int32) (a2 : Int32) (H : Hp), K2 a0 a1 a2 H = some (r, H') → Sn G (T0 G (some (.int r)) H') mX9_allSeenFrom 2 [some (.ref a0), some (.int a1), some (.int a2), none] [] H) {a0 : Nat} {a1 : Int32} {a2 : Int32} {H : Hp} (h : bX9_allSeenFrom_2 K2 a0 a1 a2 H = some (r, H')) : Sn G (T0 G (some (.int r)) H') mX9_allSeenFrom 2 [some (.ref a0), some (.int a1), some (.int a2), none] [] H := by
  unfold bX9_allSeenFrom_2 at h
  refine sn_blk _ kX9_allSeenFrom_2_0 (pc' := 4) (L' := [some (.ref a0), some (.int a1), some (.int a2), none]) (st' := [.ref a0, .int a2]) rfl rfl ?_
  obtain ⟨x1, hx1, h⟩ := bd_inv h
  refine sn_gA dX9_allSeenFrom_4 foX9_43 hx1 ?_
  obtain ⟨x2, hx2, h⟩ := bd_inv h
  refine sn_gI dX9_allSeenFrom_7 foX9_129 hx2 ?_
  refine sn_icmp_ge (tgt := 59) dX9_allSeenFrom_10 (by decide) (fun c => ?_) (fun c => ?_)
  · rw [if_pos c] at h
    refine sn_blk _ kX9_allSeenFrom_2_1 (pc' := 60) (L' := [some (.ref a0), some (.int a1), some (.int a2), none]) (st' := [.int 1]) rfl rfl ?_
    cases h
    exact sn_iret (ty := .boolean) dX9_allSeenFrom_60 rfl rfl
  · rw [if_neg c] at h
    refine sn_blk _ kX9_allSeenFrom_2_2 (pc' := 14) (L' := [some (.ref a0), some (.int a1), some (.int a2), none]) (st' := [.ref a0]) rfl rfl ?_
    obtain ⟨x3, hx3, h⟩ := bd_inv h
    refine sn_gA dX9_allSeenFrom_14 foX9_19 hx3 ?_
    refine sn_blk _ kX9_allSeenFrom_2_3 (pc' := 19) (L' := [some (.ref a0), some (.int a1), some (.int a2), none]) (st' := [.ref a0, .int a1, .ref x3]) rfl rfl ?_
    obtain ⟨x4, hx4, h⟩ := bd_inv h
    refine sn_gA dX9_allSeenFrom_19 foX9_43 hx4 ?_
    refine sn_blk _ kX9_allSeenFrom_2_4 (pc' := 23) (L' := [some (.ref a0), some (.int a1), some (.int a2), none]) (st' := [.int a2, .ref x4, .int a1, .ref x3]) rfl rfl ?_
    obtain ⟨ho, h⟩ := gp_inv h
    obtain ⟨fs, ho⟩ := isO_inv ho
    obtain ⟨x5, H6, hx5, h⟩ := bd2_inv h
    refine sn_callv (av := [.int a2]) (st := [.int a1, .ref x3]) (M2 := mX7_wayAt) dX9_allSeenFrom_23 msX7_wayAt mlX9_269 rfl rfl rfl rfl rfl ho (sX7_wayAt hx5) ?_
    obtain ⟨ho, h⟩ := gp_inv h
    obtain ⟨fs, ho⟩ := isO_inv ho
    obtain ⟨x7, H8, hx7, h⟩ := bd2_inv h
    refine sn_callv (av := [.int a1, .int x5]) (st := []) (M2 := mX2_walked) dX9_allSeenFrom_26 msX2_walked mlX9_139 rfl rfl rfl rfl rfl ho (sX2_walked hx7) ?_
    refine sn_blk _ kX9_allSeenFrom_2_5 (pc' := 30) (L' := [some (.ref a0), some (.int a1), some (.int a2), none]) (st' := [.int a1, .int x7]) rfl rfl ?_
    refine sn_icmp_ne (tgt := 37) dX9_allSeenFrom_30 (by decide) (fun c => ?_) (fun c => ?_)
    · rw [if_neg c] at h
      refine sn_blk _ kX9_allSeenFrom_2_6 (pc' := 38) (L' := [some (.ref a0), some (.int a1), some (.int a2), none]) (st' := [.int 0]) rfl rfl ?_
      exact tfX9_allSeenFrom_38 hK2 h
    · rw [if_pos c] at h
      refine sn_blk _ kX9_allSeenFrom_2_7 (pc' := 38) (L' := [some (.ref a0), some (.int a1), some (.int a2), none]) (st' := [.int 1]) rfl rfl ?_
      exact tfX9_allSeenFrom_38 hK2 h
def fX9_allSeenFrom_2  : Nat → Nat → Int32 → Int32 → Hp → Option (Int32 × Hp)
  | 0, _, _, _, _ => none
  | d + 1, a0, a1, a2, H => bX9_allSeenFrom_2 (fX9_allSeenFrom_2  d) a0 a1 a2 H
theorem tfX9_allSeenFrom_2 {G : GG} {r : Int32} {H' : Hp}   : ∀ (d : Nat) {a0 : Nat} {a1 : Int32} {a2 : Int32} {H : Hp}, fX9_allSeenFrom_2  d a0 a1 a2 H = some (r, H') → Sn G (T0 G (some (.int r)) H') mX9_allSeenFrom 2 [some (.ref a0), some (.int a1), some (.int a2), none] [] H := by
  intro d
  induction d with
  | zero => intro a0 a1 a2 H h; cases h
  | succ d ih => intro a0 a1 a2 H h; exact tbX9_allSeenFrom_2 (fun a0 a1 a2 H h => ih h) h
def FX9_allSeenFrom  (a0 : Nat) (a1 : Int32) (H : Hp) : Option (Int32 × Hp) :=
  fX9_allSeenFrom_2  4096 a0 a1 0 H
set_option maxHeartbeats 4000000 in
set_option maxRecDepth 100000 in
theorem tFX9_allSeenFrom {G : GG} {r : Int32} {H' : Hp}   {a0 : Nat} {a1 : Int32} {H : Hp} (h : FX9_allSeenFrom  a0 a1 H = some (r, H')) : Sn G (T0 G (some (.int r)) H') mX9_allSeenFrom 0 [some (.ref a0), some (.int a1), none, none] [] H := by
  unfold FX9_allSeenFrom at h
  refine sn_blk _ kX9_allSeenFrom_0_0 (pc' := 2) (L' := [some (.ref a0), some (.int a1), some (.int 0), none]) (st' := []) rfl rfl ?_
  exact tfX9_allSeenFrom_2  4096 h
theorem sX9_allSeenFrom {G : GG} {r : Int32} {H' : Hp} {a0 : Nat} {a1 : Int32} {H : Hp} (h : FX9_allSeenFrom a0 a1 H = some (r, H')) : SM G mX9_allSeenFrom [.ref a0, .int a1] H (some (.int r)) H' := tFX9_allSeenFrom h
/-! SquareFolds.which()I -/
theorem kX9_which_0_0 : decB cX9_which 0 [(.iconst 0, .int 0), (.istore_n 1, .null), (.iconst 0, .int 0), (.istore_n 2, .null)] = true := by decide +kernel
theorem kX9_which_4_0 : decB cX9_which 4 [(.iload_n 2, .null), (.aload_n 0, .null)] = true := by decide +kernel
theorem kX9_which_4_1 : decB cX9_which 35 [(.iload_n 1, .null)] = true := by decide +kernel
theorem kX9_which_4_2 : decB cX9_which 15 [(.aload_n 0, .null), (.iload_n 2, .null)] = true := by decide +kernel
theorem kX9_which_4_3 : decB cX9_which 29 [(.iinc 2 1, .int 1), (.goto (-28), .retAddr 4)] = true := by decide +kernel
theorem kX9_which_4_4 : decB cX9_which 23 [(.iload_n 1, .null), (.iconst 1, .int 1), (.iload_n 2, .null), (.ishl, .null), (.ior, .null), (.istore_n 1, .null), (.iinc 2 1, .int 1), (.goto (-28), .retAddr 4)] = true := by decide +kernel
theorem dX9_which_6 : decode cX9_which 6 = .ok (.getfield 19, 3) := by decide +kernel
theorem dX9_which_9 : decode cX9_which 9 = .ok (.getfield 108, 3) := by decide +kernel
theorem dX9_which_12 : decode cX9_which 12 = .ok (.if_icmp .ge 23, 3) := by decide +kernel
theorem dX9_which_17 : decode cX9_which 17 = .ok (.invokevirtual 243, 3) := by decide +kernel
theorem dX9_which_20 : decode cX9_which 20 = .ok (.ifCond .eq 9, 3) := by decide +kernel
theorem dX9_which_36 : decode cX9_which 36 = .ok (.ireturn, 1) := by decide +kernel
def bX9_which_4 (K4 : Nat → Int32 → Int32 → Hp → Option (Int32 × Hp)) (a0 : Nat) (a1 : Int32) (a2 : Int32) (H : Hp) : Option (Int32 × Hp) :=
  bd (gA H a0 8 1) fun x1 =>
  bd (gI H x1 2 0) fun x2 =>
  if (x2 ≤ a2 : Prop) then
    some (a1, H)
  else
    gp (isO H a0 8 = true) (
      bd2 (FX9_allSeenFrom a0 a2 H) fun x3 H4 =>
      if (x3 = 0 : Prop) then
        K4 a0 a1 (a2 + 1) H4
      else
        K4 a0 (a1 ||| (1 <<< (a2 &&& 31))) (a2 + 1) H4
      )
set_option maxHeartbeats 4000000 in
set_option maxRecDepth 100000 in
theorem tbX9_which_4 {G : GG} {r : Int32} {H' : Hp} {K4 : Nat → Int32 → Int32 → Hp → Option (Int32 × Hp)} (hK4 : ∀ (a0 : Nat) (a1 : Int32) (a2 : Int32) (H : Hp), K4 a0 a1 a2 H = some (r, H') → Sn G (T0 G (some (.int r)) H') mX9_which 4 [some (.ref a0), some (.int a1), some (.int a2)] [] H) {a0 : Nat} {a1 : Int32} {a2 : Int32} {H : Hp} (h : bX9_which_4 K4 a0 a1 a2 H = some (r, H')) : Sn G (T0 G (some (.int r)) H') mX9_which 4 [some (.ref a0), some (.int a1), some (.int a2)] [] H := by
  unfold bX9_which_4 at h
  refine sn_blk _ kX9_which_4_0 (pc' := 6) (L' := [some (.ref a0), some (.int a1), some (.int a2)]) (st' := [.ref a0, .int a2]) rfl rfl ?_
  obtain ⟨x1, hx1, h⟩ := bd_inv h
  refine sn_gA dX9_which_6 foX9_19 hx1 ?_
  obtain ⟨x2, hx2, h⟩ := bd_inv h
  refine sn_gI dX9_which_9 foX9_108 hx2 ?_
  refine sn_icmp_ge (tgt := 35) dX9_which_12 (by decide) (fun c => ?_) (fun c => ?_)
  · rw [if_pos c] at h
    refine sn_blk _ kX9_which_4_1 (pc' := 36) (L' := [some (.ref a0), some (.int a1), some (.int a2)]) (st' := [.int a1]) rfl rfl ?_
    cases h
    exact sn_iret (ty := .int) dX9_which_36 rfl rfl
  · rw [if_neg c] at h
    refine sn_blk _ kX9_which_4_2 (pc' := 17) (L' := [some (.ref a0), some (.int a1), some (.int a2)]) (st' := [.int a2, .ref a0]) rfl rfl ?_
    obtain ⟨ho, h⟩ := gp_inv h
    obtain ⟨fs, ho⟩ := isO_inv ho
    obtain ⟨x3, H4, hx3, h⟩ := bd2_inv h
    refine sn_callv (av := [.int a2]) (st := []) (M2 := mX9_allSeenFrom) dX9_which_17 msX9_allSeenFrom mlX9_243 rfl rfl rfl rfl rfl ho (sX9_allSeenFrom hx3) ?_
    refine sn_if_eq (tgt := 29) dX9_which_20 (by decide) (fun c => ?_) (fun c => ?_)
    · rw [if_pos c] at h
      refine sn_blk _ kX9_which_4_3 (pc' := 4) (L' := [some (.ref a0), some (.int a1), some (.int (a2 + 1))]) (st' := []) rfl rfl ?_
      exact hK4 _ _ _ _ h
    · rw [if_neg c] at h
      refine sn_blk _ kX9_which_4_4 (pc' := 4) (L' := [some (.ref a0), some (.int (a1 ||| (1 <<< (a2 &&& 31)))), some (.int (a2 + 1))]) (st' := []) rfl rfl ?_
      exact hK4 _ _ _ _ h
def fX9_which_4  : Nat → Nat → Int32 → Int32 → Hp → Option (Int32 × Hp)
  | 0, _, _, _, _ => none
  | d + 1, a0, a1, a2, H => bX9_which_4 (fX9_which_4  d) a0 a1 a2 H
theorem tfX9_which_4 {G : GG} {r : Int32} {H' : Hp}   : ∀ (d : Nat) {a0 : Nat} {a1 : Int32} {a2 : Int32} {H : Hp}, fX9_which_4  d a0 a1 a2 H = some (r, H') → Sn G (T0 G (some (.int r)) H') mX9_which 4 [some (.ref a0), some (.int a1), some (.int a2)] [] H := by
  intro d
  induction d with
  | zero => intro a0 a1 a2 H h; cases h
  | succ d ih => intro a0 a1 a2 H h; exact tbX9_which_4 (fun a0 a1 a2 H h => ih h) h
def FX9_which  (a0 : Nat) (H : Hp) : Option (Int32 × Hp) :=
  fX9_which_4  4096 a0 0 0 H
set_option maxHeartbeats 4000000 in
set_option maxRecDepth 100000 in
theorem tFX9_which {G : GG} {r : Int32} {H' : Hp}   {a0 : Nat} {H : Hp} (h : FX9_which  a0 H = some (r, H')) : Sn G (T0 G (some (.int r)) H') mX9_which 0 [some (.ref a0), none, none] [] H := by
  unfold FX9_which at h
  refine sn_blk _ kX9_which_0_0 (pc' := 4) (L' := [some (.ref a0), some (.int 0), some (.int 0)]) (st' := []) rfl rfl ?_
  exact tfX9_which_4  4096 h
theorem sX9_which {G : GG} {r : Int32} {H' : Hp} {a0 : Nat} {H : Hp} (h : FX9_which a0 H = some (r, H')) : SM G mX9_which [.ref a0] H (some (.int r)) H' := tFX9_which h
/-! SquareFolds.opens(IZ)I -/
theorem kX9_opens_0_0 : decB cX9_opens 0 [(.iload_n 1, .null)] = true := by decide +kernel
theorem kX9_opens_0_1 : decB cX9_opens 10 [(.bipush (-2), .int (-2))] = true := by decide +kernel
theorem kX9_opens_0_2 : decB cX9_opens 4 [(.iload_n 1, .null), (.bipush 10, .int 10)] = true := by decide +kernel
theorem kX9_opens_0_3 : decB cX9_opens 13 [(.aload_n 0, .null)] = true := by decide +kernel
theorem kX9_opens_0_4 : decB cX9_opens 17 [(.aload_n 0, .null)] = true := by decide +kernel
theorem kX9_opens_0_5 : decB cX9_opens 21 [(.iload_n 1, .null)] = true := by decide +kernel
theorem kX9_opens_0_6 : decB cX9_opens 25 [(.aload_n 0, .null)] = true := by decide +kernel
theorem kX9_opens_0_7 : decB cX9_opens 35 [(.aload_n 0, .null)] = true := by decide +kernel
theorem kX9_opens_0_8 : decB cX9_opens 39 [(.iload_n 2, .null)] = true := by decide +kernel
theorem kX9_opens_0_9 : decB cX9_opens 10 [(.bipush (-2), .int (-2))] = true := by decide +kernel
theorem dX9_opens_1 : decode cX9_opens 1 = .ok (.ifCond .lt 9, 3) := by decide +kernel
theorem dX9_opens_7 : decode cX9_opens 7 = .ok (.if_icmp .le 6, 3) := by decide +kernel
theorem dX9_opens_12 : decode cX9_opens 12 = .ok (.ireturn, 1) := by decide +kernel
theorem dX9_opens_14 : decode cX9_opens 14 = .ok (.getfield 64, 3) := by decide +kernel
theorem dX9_opens_18 : decode cX9_opens 18 = .ok (.getfield 19, 3) := by decide +kernel
theorem dX9_opens_22 : decode cX9_opens 22 = .ok (.invokevirtual 246, 3) := by decide +kernel
theorem dX9_opens_26 : decode cX9_opens 26 = .ok (.getfield 19, 3) := by decide +kernel
theorem dX9_opens_29 : decode cX9_opens 29 = .ok (.invokevirtual 249, 3) := by decide +kernel
theorem dX9_opens_32 : decode cX9_opens 32 = .ok (.invokevirtual 234, 3) := by decide +kernel
theorem dX9_opens_36 : decode cX9_opens 36 = .ok (.getfield 64, 3) := by decide +kernel
theorem dX9_opens_40 : decode cX9_opens 40 = .ok (.invokevirtual 236, 3) := by decide +kernel
theorem dX9_opens_43 : decode cX9_opens 43 = .ok (.ireturn, 1) := by decide +kernel
def FX9_opens  (a0 : Nat) (a1 : Int32) (a2 : Int32) (H : Hp) : Option (Int32 × Hp) :=
  if (a1 < 0 : Prop) then
    some ((-2), H)
  else
    if (a1 ≤ 10 : Prop) then
      bd (gA H a0 8 8) fun x1 =>
      bd (gA H a0 8 1) fun x2 =>
      gp (isO H x2 2 = true) (
        bd2 (FX2_casesInOnePiece x2 a1 H) fun x3 H4 =>
        bd (gA H4 a0 8 1) fun x5 =>
        gp (isO H4 x5 2 = true) (
          bd2 (FX2_casesInAll x5  H4) fun x6 H7 =>
          gp (isO H7 x1 1 = true) (
            bd2 (FX1_become x1 x3 x6 H7) fun _ H9 =>
            bd (gA H9 a0 8 8) fun x10 =>
            gp (isO H9 x10 1 = true) (
              bd2 (FX1_told x10 a2 H9) fun x11 H12 =>
              some (x11, H12)
              )
            )
          )
        )
    else
      some ((-2), H)
set_option maxHeartbeats 4000000 in
set_option maxRecDepth 100000 in
theorem tFX9_opens {G : GG} {r : Int32} {H' : Hp}   {a0 : Nat} {a1 : Int32} {a2 : Int32} {H : Hp} (h : FX9_opens  a0 a1 a2 H = some (r, H')) : Sn G (T0 G (some (.int r)) H') mX9_opens 0 [some (.ref a0), some (.int a1), some (.int a2)] [] H := by
  unfold FX9_opens at h
  refine sn_blk _ kX9_opens_0_0 (pc' := 1) (L' := [some (.ref a0), some (.int a1), some (.int a2)]) (st' := [.int a1]) rfl rfl ?_
  refine sn_if_lt (tgt := 10) dX9_opens_1 (by decide) (fun c => ?_) (fun c => ?_)
  · rw [if_pos c] at h
    refine sn_blk _ kX9_opens_0_1 (pc' := 12) (L' := [some (.ref a0), some (.int a1), some (.int a2)]) (st' := [.int (-2)]) rfl rfl ?_
    cases h
    exact sn_iret (ty := .int) dX9_opens_12 rfl rfl
  · rw [if_neg c] at h
    refine sn_blk _ kX9_opens_0_2 (pc' := 7) (L' := [some (.ref a0), some (.int a1), some (.int a2)]) (st' := [.int 10, .int a1]) rfl rfl ?_
    refine sn_icmp_le (tgt := 13) dX9_opens_7 (by decide) (fun c => ?_) (fun c => ?_)
    · rw [if_pos c] at h
      refine sn_blk _ kX9_opens_0_3 (pc' := 14) (L' := [some (.ref a0), some (.int a1), some (.int a2)]) (st' := [.ref a0]) rfl rfl ?_
      obtain ⟨x1, hx1, h⟩ := bd_inv h
      refine sn_gA dX9_opens_14 foX9_64 hx1 ?_
      refine sn_blk _ kX9_opens_0_4 (pc' := 18) (L' := [some (.ref a0), some (.int a1), some (.int a2)]) (st' := [.ref a0, .ref x1]) rfl rfl ?_
      obtain ⟨x2, hx2, h⟩ := bd_inv h
      refine sn_gA dX9_opens_18 foX9_19 hx2 ?_
      refine sn_blk _ kX9_opens_0_5 (pc' := 22) (L' := [some (.ref a0), some (.int a1), some (.int a2)]) (st' := [.int a1, .ref x2, .ref x1]) rfl rfl ?_
      obtain ⟨ho, h⟩ := gp_inv h
      obtain ⟨fs, ho⟩ := isO_inv ho
      obtain ⟨x3, H4, hx3, h⟩ := bd2_inv h
      refine sn_callv (av := [.int a1]) (st := [.ref x1]) (M2 := mX2_casesInOnePiece) dX9_opens_22 msX2_casesInOnePiece mlX9_246 rfl rfl rfl rfl rfl ho (sX2_casesInOnePiece hx3) ?_
      refine sn_blk _ kX9_opens_0_6 (pc' := 26) (L' := [some (.ref a0), some (.int a1), some (.int a2)]) (st' := [.ref a0, .int x3, .ref x1]) rfl rfl ?_
      obtain ⟨x5, hx5, h⟩ := bd_inv h
      refine sn_gA dX9_opens_26 foX9_19 hx5 ?_
      obtain ⟨ho, h⟩ := gp_inv h
      obtain ⟨fs, ho⟩ := isO_inv ho
      obtain ⟨x6, H7, hx6, h⟩ := bd2_inv h
      refine sn_callv (av := []) (st := [.int x3, .ref x1]) (M2 := mX2_casesInAll) dX9_opens_29 msX2_casesInAll mlX9_249 rfl rfl rfl rfl rfl ho (sX2_casesInAll hx6) ?_
      obtain ⟨ho, h⟩ := gp_inv h
      obtain ⟨fs, ho⟩ := isO_inv ho
      obtain ⟨x8, H9, hx8, h⟩ := bd2_inv h
      refine sn_callv (av := [.int x3, .int x6]) (st := []) (M2 := mX1_become) dX9_opens_32 msX1_become mlX9_234 rfl rfl rfl rfl rfl ho (sX1_become hx8) ?_
      refine sn_blk _ kX9_opens_0_7 (pc' := 36) (L' := [some (.ref a0), some (.int a1), some (.int a2)]) (st' := [.ref a0]) rfl rfl ?_
      obtain ⟨x10, hx10, h⟩ := bd_inv h
      refine sn_gA dX9_opens_36 foX9_64 hx10 ?_
      refine sn_blk _ kX9_opens_0_8 (pc' := 40) (L' := [some (.ref a0), some (.int a1), some (.int a2)]) (st' := [.int a2, .ref x10]) rfl rfl ?_
      obtain ⟨ho, h⟩ := gp_inv h
      obtain ⟨fs, ho⟩ := isO_inv ho
      obtain ⟨x11, H12, hx11, h⟩ := bd2_inv h
      refine sn_callv (av := [.int a2]) (st := []) (M2 := mX1_told) dX9_opens_40 msX1_told mlX9_236 rfl rfl rfl rfl rfl ho (sX1_told hx11) ?_
      cases h
      exact sn_iret (ty := .int) dX9_opens_43 rfl rfl
    · rw [if_neg c] at h
      refine sn_blk _ kX9_opens_0_9 (pc' := 12) (L' := [some (.ref a0), some (.int a1), some (.int a2)]) (st' := [.int (-2)]) rfl rfl ?_
      cases h
      exact sn_iret (ty := .int) dX9_opens_12 rfl rfl
theorem sX9_opens {G : GG} {r : Int32} {H' : Hp} {a0 : Nat} {a1 : Int32} {a2 : Int32} {H : Hp} (h : FX9_opens a0 a1 a2 H = some (r, H')) : SM G mX9_opens [.ref a0, .int a1, .int a2] H (some (.int r)) H' := tFX9_opens h
/-! SquareFolds.seed(J)J -/
theorem kX9_seed_0_0 : decB cX9_seed 0 [(.aload_n 0, .null)] = true := by decide +kernel
theorem kX9_seed_0_1 : decB cX9_seed 4 [(.lstore_n 3, .null), (.aload_n 0, .null), (.lload_n 1, .null)] = true := by decide +kernel
theorem kX9_seed_0_2 : decB cX9_seed 10 [(.lload_n 3, .null)] = true := by decide +kernel
theorem dX9_seed_1 : decode cX9_seed 1 = .ok (.getfield 68, 3) := by decide +kernel
theorem dX9_seed_7 : decode cX9_seed 7 = .ok (.putfield 68, 3) := by decide +kernel
theorem dX9_seed_11 : decode cX9_seed 11 = .ok (.lreturn, 1) := by decide +kernel
def FX9_seed  (a0 : Nat) (a1 : Int64) (H : Hp) : Option (Int64 × Hp) :=
  bd (gJ H a0 8 9) fun x1 =>
  bd (pV H a0 8 9 (.long a1)) fun H2 =>
  some (x1, H2)
set_option maxHeartbeats 4000000 in
set_option maxRecDepth 100000 in
theorem tFX9_seed {G : GG} {r : Int64} {H' : Hp}   {a0 : Nat} {a1 : Int64} {H : Hp} (h : FX9_seed  a0 a1 H = some (r, H')) : Sn G (T0 G (some (.long r)) H') mX9_seed 0 [some (.ref a0), some (.long a1), none, none, none] [] H := by
  unfold FX9_seed at h
  refine sn_blk _ kX9_seed_0_0 (pc' := 1) (L' := [some (.ref a0), some (.long a1), none, none, none]) (st' := [.ref a0]) rfl rfl ?_
  obtain ⟨x1, hx1, h⟩ := bd_inv h
  refine sn_gJ dX9_seed_1 foX9_68 hx1 ?_
  refine sn_blk _ kX9_seed_0_1 (pc' := 7) (L' := [some (.ref a0), some (.long a1), none, some (.long x1), none]) (st' := [.long a1, .ref a0]) rfl rfl ?_
  obtain ⟨H2, hH2, h⟩ := bd_inv h
  refine sn_pJ dX9_seed_7 foX9_68 fpX9_9 hH2 ?_
  refine sn_blk _ kX9_seed_0_2 (pc' := 11) (L' := [some (.ref a0), some (.long a1), none, some (.long x1), none]) (st' := [.long x1]) rfl rfl ?_
  cases h
  exact sn_lret dX9_seed_11 rfl
theorem sX9_seed {G : GG} {r : Int64} {H' : Hp} {a0 : Nat} {a1 : Int64} {H : Hp} (h : FX9_seed a0 a1 H = some (r, H')) : SM G mX9_seed [.ref a0, .long a1] H (some (.long r)) H' := tFX9_seed h
/-! SquareFolds.drawn(I)I -/
theorem kX9_drawn_0_0 : decB cX9_drawn 0 [(.iload_n 1, .null), (.iconst 1, .int 1)] = true := by decide +kernel
theorem kX9_drawn_0_1 : decB cX9_drawn 11 [(.bipush (-2), .int (-2))] = true := by decide +kernel
theorem kX9_drawn_0_2 : decB cX9_drawn 5 [(.iload_n 1, .null), (.bipush 20, .int 20)] = true := by decide +kernel
theorem kX9_drawn_0_3 : decB cX9_drawn 14 [(.aload_n 0, .null)] = true := by decide +kernel
theorem kX9_drawn_0_4 : decB cX9_drawn 18 [(.aload_n 0, .null)] = true := by decide +kernel
theorem kX9_drawn_0_5 : decB cX9_drawn 25 [(.aload_n 0, .null)] = true := by decide +kernel
theorem kX9_drawn_0_6 : decB cX9_drawn 32 [(.aload_n 0, .null)] = true := by decide +kernel
theorem kX9_drawn_0_7 : decB cX9_drawn 42 [(.iconst 0, .int 0), (.istore_n 2, .null), (.iconst 0, .int 0), (.istore_n 3, .null)] = true := by decide +kernel
theorem kX9_drawn_0_8 : decB cX9_drawn 11 [(.bipush (-2), .int (-2))] = true := by decide +kernel
theorem kX9_drawn_46_0 : decB cX9_drawn 46 [(.iload_n 3, .null), (.iload_n 1, .null)] = true := by decide +kernel
theorem kX9_drawn_46_1 : decB cX9_drawn 113 [(.iload_n 2, .null)] = true := by decide +kernel
theorem kX9_drawn_46_2 : decB cX9_drawn 51 [(.aload_n 0, .null), (.aload_n 0, .null)] = true := by decide +kernel
theorem kX9_drawn_46_3 : decB cX9_drawn 59 [(.lmul, .null)] = true := by decide +kernel
theorem kX9_drawn_46_4 : decB cX9_drawn 63 [(.ladd, .null)] = true := by decide +kernel
theorem kX9_drawn_46_5 : decB cX9_drawn 67 [(.aload_n 0, .null)] = true := by decide +kernel
theorem kX9_drawn_46_6 : decB cX9_drawn 71 [(.aload_n 0, .null)] = true := by decide +kernel
theorem kX9_drawn_46_7 : decB cX9_drawn 75 [(.bipush 33, .int 33), (.lushr, .null)] = true := by decide +kernel
theorem kX9_drawn_46_8 : decB cX9_drawn 81 [(.iload_n 2, .null), (.aload_n 0, .null)] = true := by decide +kernel
theorem kX9_drawn_46_9 : decB cX9_drawn 89 [(.aload_n 0, .null)] = true := by decide +kernel
theorem kX9_drawn_46_10 : decB cX9_drawn 96 [(.iadd, .null), (.aload_n 0, .null)] = true := by decide +kernel
theorem kX9_drawn_46_11 : decB cX9_drawn 104 [(.iadd, .null), (.iadd, .null), (.istore_n 2, .null), (.iinc 3 1, .int 1), (.goto (-64), .retAddr 46)] = true := by decide +kernel
theorem dX9_drawn_2 : decode cX9_drawn 2 = .ok (.if_icmp .lt 9, 3) := by decide +kernel
theorem dX9_drawn_8 : decode cX9_drawn 8 = .ok (.if_icmp .le 6, 3) := by decide +kernel
theorem dX9_drawn_13 : decode cX9_drawn 13 = .ok (.ireturn, 1) := by decide +kernel
theorem dX9_drawn_15 : decode cX9_drawn 15 = .ok (.getfield 23, 3) := by decide +kernel
theorem dX9_drawn_19 : decode cX9_drawn 19 = .ok (.getfield 19, 3) := by decide +kernel
theorem dX9_drawn_22 : decode cX9_drawn 22 = .ok (.getfield 108, 3) := by decide +kernel
theorem dX9_drawn_26 : decode cX9_drawn 26 = .ok (.getfield 19, 3) := by decide +kernel
theorem dX9_drawn_29 : decode cX9_drawn 29 = .ok (.getfield 162, 3) := by decide +kernel
theorem dX9_drawn_33 : decode cX9_drawn 33 = .ok (.getfield 19, 3) := by decide +kernel
theorem dX9_drawn_36 : decode cX9_drawn 36 = .ok (.getfield 182, 3) := by decide +kernel
theorem dX9_drawn_39 : decode cX9_drawn 39 = .ok (.invokevirtual 92, 3) := by decide +kernel
theorem dX9_drawn_48 : decode cX9_drawn 48 = .ok (.if_icmp .ge 65, 3) := by decide +kernel
theorem dX9_drawn_53 : decode cX9_drawn 53 = .ok (.getfield 68, 3) := by decide +kernel
theorem dX9_drawn_56 : decode cX9_drawn 56 = .ok (.ldc2_w 252, 3) := by decide +kernel
theorem dX9_drawn_60 : decode cX9_drawn 60 = .ok (.ldc2_w 254, 3) := by decide +kernel
theorem dX9_drawn_64 : decode cX9_drawn 64 = .ok (.putfield 68, 3) := by decide +kernel
theorem dX9_drawn_68 : decode cX9_drawn 68 = .ok (.getfield 23, 3) := by decide +kernel
theorem dX9_drawn_72 : decode cX9_drawn 72 = .ok (.getfield 68, 3) := by decide +kernel
theorem dX9_drawn_78 : decode cX9_drawn 78 = .ok (.invokevirtual 256, 3) := by decide +kernel
theorem dX9_drawn_83 : decode cX9_drawn 83 = .ok (.getfield 23, 3) := by decide +kernel
theorem dX9_drawn_86 : decode cX9_drawn 86 = .ok (.invokevirtual 111, 3) := by decide +kernel
theorem dX9_drawn_90 : decode cX9_drawn 90 = .ok (.getfield 23, 3) := by decide +kernel
theorem dX9_drawn_93 : decode cX9_drawn 93 = .ok (.invokevirtual 120, 3) := by decide +kernel
theorem dX9_drawn_98 : decode cX9_drawn 98 = .ok (.getfield 23, 3) := by decide +kernel
theorem dX9_drawn_101 : decode cX9_drawn 101 = .ok (.invokevirtual 123, 3) := by decide +kernel
theorem dX9_drawn_114 : decode cX9_drawn 114 = .ok (.ireturn, 1) := by decide +kernel
def bX9_drawn_46 (K46 : Nat → Int32 → Int32 → Int32 → Hp → Option (Int32 × Hp)) (a0 : Nat) (a1 : Int32) (a2 : Int32) (a3 : Int32) (H : Hp) : Option (Int32 × Hp) :=
  if (a1 ≤ a3 : Prop) then
    some (a2, H)
  else
    bd (gJ H a0 8 9) fun x1 =>
    bd (pV H a0 8 9 (.long ((x1 * 6364136223846793005) + 1442695040888963407))) fun H2 =>
    bd (gA H2 a0 8 2) fun x3 =>
    bd (gJ H2 a0 8 9) fun x4 =>
    gp (isO H2 x3 2 = true) (
      bd2 (FX2_doDrawn x3 (lushrF x4 33) H2) fun _ H6 =>
      bd (gA H6 a0 8 2) fun x7 =>
      gp (isO H6 x7 2 = true) (
        bd2 (FX2_corners x7  H6) fun x8 H9 =>
        bd (gA H9 a0 8 2) fun x10 =>
        gp (isO H9 x10 2 = true) (
          bd2 (FX2_rows x10  H9) fun x11 H12 =>
          bd (gA H12 a0 8 2) fun x13 =>
          gp (isO H12 x13 2 = true) (
            bd2 (FX2_bands x13  H12) fun x14 H15 =>
            K46 a0 a1 (a2 + ((x8 + x11) + x14)) (a3 + 1) H15
            )
          )
        )
      )
set_option maxHeartbeats 4000000 in
set_option maxRecDepth 100000 in
theorem tbX9_drawn_46 {G : GG} {r : Int32} {H' : Hp} {K46 : Nat → Int32 → Int32 → Int32 → Hp → Option (Int32 × Hp)} (hK46 : ∀ (a0 : Nat) (a1 : Int32) (a2 : Int32) (a3 : Int32) (H : Hp), K46 a0 a1 a2 a3 H = some (r, H') → Sn G (T0 G (some (.int r)) H') mX9_drawn 46 [some (.ref a0), some (.int a1), some (.int a2), some (.int a3)] [] H) {a0 : Nat} {a1 : Int32} {a2 : Int32} {a3 : Int32} {H : Hp} (h : bX9_drawn_46 K46 a0 a1 a2 a3 H = some (r, H')) : Sn G (T0 G (some (.int r)) H') mX9_drawn 46 [some (.ref a0), some (.int a1), some (.int a2), some (.int a3)] [] H := by
  unfold bX9_drawn_46 at h
  refine sn_blk _ kX9_drawn_46_0 (pc' := 48) (L' := [some (.ref a0), some (.int a1), some (.int a2), some (.int a3)]) (st' := [.int a1, .int a3]) rfl rfl ?_
  refine sn_icmp_ge (tgt := 113) dX9_drawn_48 (by decide) (fun c => ?_) (fun c => ?_)
  · rw [if_pos c] at h
    refine sn_blk _ kX9_drawn_46_1 (pc' := 114) (L' := [some (.ref a0), some (.int a1), some (.int a2), some (.int a3)]) (st' := [.int a2]) rfl rfl ?_
    cases h
    exact sn_iret (ty := .int) dX9_drawn_114 rfl rfl
  · rw [if_neg c] at h
    refine sn_blk _ kX9_drawn_46_2 (pc' := 53) (L' := [some (.ref a0), some (.int a1), some (.int a2), some (.int a3)]) (st' := [.ref a0, .ref a0]) rfl rfl ?_
    obtain ⟨x1, hx1, h⟩ := bd_inv h
    refine sn_gJ dX9_drawn_53 foX9_68 hx1 ?_
    refine sn_ldc2 dX9_drawn_56 kcX9_252 ?_
    refine sn_blk _ kX9_drawn_46_3 (pc' := 60) (L' := [some (.ref a0), some (.int a1), some (.int a2), some (.int a3)]) (st' := [.long (x1 * 6364136223846793005), .ref a0]) rfl rfl ?_
    refine sn_ldc2 dX9_drawn_60 kcX9_254 ?_
    refine sn_blk _ kX9_drawn_46_4 (pc' := 64) (L' := [some (.ref a0), some (.int a1), some (.int a2), some (.int a3)]) (st' := [.long ((x1 * 6364136223846793005) + 1442695040888963407), .ref a0]) rfl rfl ?_
    obtain ⟨H2, hH2, h⟩ := bd_inv h
    refine sn_pJ dX9_drawn_64 foX9_68 fpX9_9 hH2 ?_
    refine sn_blk _ kX9_drawn_46_5 (pc' := 68) (L' := [some (.ref a0), some (.int a1), some (.int a2), some (.int a3)]) (st' := [.ref a0]) rfl rfl ?_
    obtain ⟨x3, hx3, h⟩ := bd_inv h
    refine sn_gA dX9_drawn_68 foX9_23 hx3 ?_
    refine sn_blk _ kX9_drawn_46_6 (pc' := 72) (L' := [some (.ref a0), some (.int a1), some (.int a2), some (.int a3)]) (st' := [.ref a0, .ref x3]) rfl rfl ?_
    obtain ⟨x4, hx4, h⟩ := bd_inv h
    refine sn_gJ dX9_drawn_72 foX9_68 hx4 ?_
    refine sn_blk _ kX9_drawn_46_7 (pc' := 78) (L' := [some (.ref a0), some (.int a1), some (.int a2), some (.int a3)]) (st' := [.long (lushrF x4 33), .ref x3]) rfl rfl ?_
    obtain ⟨ho, h⟩ := gp_inv h
    obtain ⟨fs, ho⟩ := isO_inv ho
    obtain ⟨x5, H6, hx5, h⟩ := bd2_inv h
    refine sn_callv (av := [.long (lushrF x4 33)]) (st := []) (M2 := mX2_doDrawn) dX9_drawn_78 msX2_doDrawn mlX9_256 rfl rfl rfl rfl rfl ho (sX2_doDrawn hx5) ?_
    refine sn_blk _ kX9_drawn_46_8 (pc' := 83) (L' := [some (.ref a0), some (.int a1), some (.int a2), some (.int a3)]) (st' := [.ref a0, .int a2]) rfl rfl ?_
    obtain ⟨x7, hx7, h⟩ := bd_inv h
    refine sn_gA dX9_drawn_83 foX9_23 hx7 ?_
    obtain ⟨ho, h⟩ := gp_inv h
    obtain ⟨fs, ho⟩ := isO_inv ho
    obtain ⟨x8, H9, hx8, h⟩ := bd2_inv h
    refine sn_callv (av := []) (st := [.int a2]) (M2 := mX2_corners) dX9_drawn_86 msX2_corners mlX9_111 rfl rfl rfl rfl rfl ho (sX2_corners hx8) ?_
    refine sn_blk _ kX9_drawn_46_9 (pc' := 90) (L' := [some (.ref a0), some (.int a1), some (.int a2), some (.int a3)]) (st' := [.ref a0, .int x8, .int a2]) rfl rfl ?_
    obtain ⟨x10, hx10, h⟩ := bd_inv h
    refine sn_gA dX9_drawn_90 foX9_23 hx10 ?_
    obtain ⟨ho, h⟩ := gp_inv h
    obtain ⟨fs, ho⟩ := isO_inv ho
    obtain ⟨x11, H12, hx11, h⟩ := bd2_inv h
    refine sn_callv (av := []) (st := [.int x8, .int a2]) (M2 := mX2_rows) dX9_drawn_93 msX2_rows mlX9_120 rfl rfl rfl rfl rfl ho (sX2_rows hx11) ?_
    refine sn_blk _ kX9_drawn_46_10 (pc' := 98) (L' := [some (.ref a0), some (.int a1), some (.int a2), some (.int a3)]) (st' := [.ref a0, .int (x8 + x11), .int a2]) rfl rfl ?_
    obtain ⟨x13, hx13, h⟩ := bd_inv h
    refine sn_gA dX9_drawn_98 foX9_23 hx13 ?_
    obtain ⟨ho, h⟩ := gp_inv h
    obtain ⟨fs, ho⟩ := isO_inv ho
    obtain ⟨x14, H15, hx14, h⟩ := bd2_inv h
    refine sn_callv (av := []) (st := [.int (x8 + x11), .int a2]) (M2 := mX2_bands) dX9_drawn_101 msX2_bands mlX9_123 rfl rfl rfl rfl rfl ho (sX2_bands hx14) ?_
    refine sn_blk _ kX9_drawn_46_11 (pc' := 46) (L' := [some (.ref a0), some (.int a1), some (.int (a2 + ((x8 + x11) + x14))), some (.int (a3 + 1))]) (st' := []) rfl rfl ?_
    exact hK46 _ _ _ _ _ h
def fX9_drawn_46  : Nat → Nat → Int32 → Int32 → Int32 → Hp → Option (Int32 × Hp)
  | 0, _, _, _, _, _ => none
  | d + 1, a0, a1, a2, a3, H => bX9_drawn_46 (fX9_drawn_46  d) a0 a1 a2 a3 H
theorem tfX9_drawn_46 {G : GG} {r : Int32} {H' : Hp}   : ∀ (d : Nat) {a0 : Nat} {a1 : Int32} {a2 : Int32} {a3 : Int32} {H : Hp}, fX9_drawn_46  d a0 a1 a2 a3 H = some (r, H') → Sn G (T0 G (some (.int r)) H') mX9_drawn 46 [some (.ref a0), some (.int a1), some (.int a2), some (.int a3)] [] H := by
  intro d
  induction d with
  | zero => intro a0 a1 a2 a3 H h; cases h
  | succ d ih => intro a0 a1 a2 a3 H h; exact tbX9_drawn_46 (fun a0 a1 a2 a3 H h => ih h) h
def FX9_drawn  (a0 : Nat) (a1 : Int32) (H : Hp) : Option (Int32 × Hp) :=
  if (a1 < 1 : Prop) then
    some ((-2), H)
  else
    if (a1 ≤ 20 : Prop) then
      bd (gA H a0 8 2) fun x1 =>
      bd (gA H a0 8 1) fun x2 =>
      bd (gI H x2 2 0) fun x3 =>
      bd (gA H a0 8 1) fun x4 =>
      bd (gI H x4 2 1) fun x5 =>
      bd (gA H a0 8 1) fun x6 =>
      bd (gI H x6 2 2) fun x7 =>
      gp (isO H x1 2 = true) (
        bd2 (FX2_become x1 x3 x5 x7 H) fun _ H9 =>
        fX9_drawn_46  4096 a0 a1 0 0 H9
        )
    else
      some ((-2), H)
set_option maxHeartbeats 4000000 in
set_option maxRecDepth 100000 in
theorem tFX9_drawn {G : GG} {r : Int32} {H' : Hp}   {a0 : Nat} {a1 : Int32} {H : Hp} (h : FX9_drawn  a0 a1 H = some (r, H')) : Sn G (T0 G (some (.int r)) H') mX9_drawn 0 [some (.ref a0), some (.int a1), none, none] [] H := by
  unfold FX9_drawn at h
  refine sn_blk _ kX9_drawn_0_0 (pc' := 2) (L' := [some (.ref a0), some (.int a1), none, none]) (st' := [.int 1, .int a1]) rfl rfl ?_
  refine sn_icmp_lt (tgt := 11) dX9_drawn_2 (by decide) (fun c => ?_) (fun c => ?_)
  · rw [if_pos c] at h
    refine sn_blk _ kX9_drawn_0_1 (pc' := 13) (L' := [some (.ref a0), some (.int a1), none, none]) (st' := [.int (-2)]) rfl rfl ?_
    cases h
    exact sn_iret (ty := .int) dX9_drawn_13 rfl rfl
  · rw [if_neg c] at h
    refine sn_blk _ kX9_drawn_0_2 (pc' := 8) (L' := [some (.ref a0), some (.int a1), none, none]) (st' := [.int 20, .int a1]) rfl rfl ?_
    refine sn_icmp_le (tgt := 14) dX9_drawn_8 (by decide) (fun c => ?_) (fun c => ?_)
    · rw [if_pos c] at h
      refine sn_blk _ kX9_drawn_0_3 (pc' := 15) (L' := [some (.ref a0), some (.int a1), none, none]) (st' := [.ref a0]) rfl rfl ?_
      obtain ⟨x1, hx1, h⟩ := bd_inv h
      refine sn_gA dX9_drawn_15 foX9_23 hx1 ?_
      refine sn_blk _ kX9_drawn_0_4 (pc' := 19) (L' := [some (.ref a0), some (.int a1), none, none]) (st' := [.ref a0, .ref x1]) rfl rfl ?_
      obtain ⟨x2, hx2, h⟩ := bd_inv h
      refine sn_gA dX9_drawn_19 foX9_19 hx2 ?_
      obtain ⟨x3, hx3, h⟩ := bd_inv h
      refine sn_gI dX9_drawn_22 foX9_108 hx3 ?_
      refine sn_blk _ kX9_drawn_0_5 (pc' := 26) (L' := [some (.ref a0), some (.int a1), none, none]) (st' := [.ref a0, .int x3, .ref x1]) rfl rfl ?_
      obtain ⟨x4, hx4, h⟩ := bd_inv h
      refine sn_gA dX9_drawn_26 foX9_19 hx4 ?_
      obtain ⟨x5, hx5, h⟩ := bd_inv h
      refine sn_gI dX9_drawn_29 foX9_162 hx5 ?_
      refine sn_blk _ kX9_drawn_0_6 (pc' := 33) (L' := [some (.ref a0), some (.int a1), none, none]) (st' := [.ref a0, .int x5, .int x3, .ref x1]) rfl rfl ?_
      obtain ⟨x6, hx6, h⟩ := bd_inv h
      refine sn_gA dX9_drawn_33 foX9_19 hx6 ?_
      obtain ⟨x7, hx7, h⟩ := bd_inv h
      refine sn_gI dX9_drawn_36 foX9_182 hx7 ?_
      obtain ⟨ho, h⟩ := gp_inv h
      obtain ⟨fs, ho⟩ := isO_inv ho
      obtain ⟨x8, H9, hx8, h⟩ := bd2_inv h
      refine sn_callv (av := [.int x3, .int x5, .int x7]) (st := []) (M2 := mX2_become) dX9_drawn_39 msX2_become mlX9_92 rfl rfl rfl rfl rfl ho (sX2_become hx8) ?_
      refine sn_blk _ kX9_drawn_0_7 (pc' := 46) (L' := [some (.ref a0), some (.int a1), some (.int 0), some (.int 0)]) (st' := []) rfl rfl ?_
      exact tfX9_drawn_46  4096 h
    · rw [if_neg c] at h
      refine sn_blk _ kX9_drawn_0_8 (pc' := 13) (L' := [some (.ref a0), some (.int a1), none, none]) (st' := [.int (-2)]) rfl rfl ?_
      cases h
      exact sn_iret (ty := .int) dX9_drawn_13 rfl rfl
theorem sX9_drawn {G : GG} {r : Int32} {H' : Hp} {a0 : Nat} {a1 : Int32} {H : Hp} (h : FX9_drawn a0 a1 H = some (r, H')) : SM G mX9_drawn [.ref a0, .int a1] H (some (.int r)) H' := tFX9_drawn h
/-! SquareFolds.keep(I)I -/
theorem kX9_keep_0_0 : decB cX9_keep 0 [(.iload_n 1, .null)] = true := by decide +kernel
theorem kX9_keep_0_1 : decB cX9_keep 9 [(.aload_n 0, .null)] = true := by decide +kernel
theorem kX9_keep_0_2 : decB cX9_keep 13 [(.iload_n 1, .null), (.aload_n 0, .null)] = true := by decide +kernel
theorem kX9_keep_0_3 : decB cX9_keep 21 [(.aload_n 0, .null)] = true := by decide +kernel
theorem kX9_keep_0_4 : decB cX9_keep 31 [(.aload_n 0, .null)] = true := by decide +kernel
theorem kX9_keep_0_5 : decB cX9_keep 7 [(.iconst (-1), .int (-1))] = true := by decide +kernel
theorem dX9_keep_1 : decode cX9_keep 1 = .ok (.invokestatic 260, 3) := by decide +kernel
theorem dX9_keep_4 : decode cX9_keep 4 = .ok (.ifCond .ne 5, 3) := by decide +kernel
theorem dX9_keep_8 : decode cX9_keep 8 = .ok (.ireturn, 1) := by decide +kernel
theorem dX9_keep_10 : decode cX9_keep 10 = .ok (.getfield 36, 3) := by decide +kernel
theorem dX9_keep_15 : decode cX9_keep 15 = .ok (.getfield 19, 3) := by decide +kernel
theorem dX9_keep_18 : decode cX9_keep 18 = .ok (.getfield 162, 3) := by decide +kernel
theorem dX9_keep_22 : decode cX9_keep 22 = .ok (.getfield 19, 3) := by decide +kernel
theorem dX9_keep_25 : decode cX9_keep 25 = .ok (.getfield 182, 3) := by decide +kernel
theorem dX9_keep_28 : decode cX9_keep 28 = .ok (.invokevirtual 261, 3) := by decide +kernel
theorem dX9_keep_32 : decode cX9_keep 32 = .ok (.getfield 19, 3) := by decide +kernel
theorem dX9_keep_35 : decode cX9_keep 35 = .ok (.getfield 108, 3) := by decide +kernel
theorem dX9_keep_38 : decode cX9_keep 38 = .ok (.ireturn, 1) := by decide +kernel
def FX9_keep  (a0 : Nat) (a1 : Int32) (H : Hp) : Option (Int32 × Hp) :=
  bd2 (FX8_has a1 H) fun x1 H2 =>
  if (x1 = 0 : Prop) then
    some ((-1), H2)
  else
    bd (gA H2 a0 8 4) fun x3 =>
    bd (gA H2 a0 8 1) fun x4 =>
    bd (gI H2 x4 2 1) fun x5 =>
    bd (gA H2 a0 8 1) fun x6 =>
    bd (gI H2 x6 2 2) fun x7 =>
    gp (isO H2 x3 7 = true) (
      bd2 (FX8_put x3 a1 x5 x7 H2) fun _ H9 =>
      bd (gA H9 a0 8 1) fun x10 =>
      bd (gI H9 x10 2 0) fun x11 =>
      some (x11, H9)
      )
set_option maxHeartbeats 4000000 in
set_option maxRecDepth 100000 in
theorem tFX9_keep {G : GG} {r : Int32} {H' : Hp}   {a0 : Nat} {a1 : Int32} {H : Hp} (h : FX9_keep  a0 a1 H = some (r, H')) : Sn G (T0 G (some (.int r)) H') mX9_keep 0 [some (.ref a0), some (.int a1)] [] H := by
  unfold FX9_keep at h
  refine sn_blk _ kX9_keep_0_0 (pc' := 1) (L' := [some (.ref a0), some (.int a1)]) (st' := [.int a1]) rfl rfl ?_
  obtain ⟨x1, H2, hx1, h⟩ := bd2_inv h
  refine sn_calls (av := [.int a1]) (st := []) (M2 := mX8_has) dX9_keep_1 msX8_has mlX9_260 rfl rfl rfl rfl rfl (sX8_has hx1) ?_
  refine sn_if_ne (tgt := 9) dX9_keep_4 (by decide) (fun c => ?_) (fun c => ?_)
  · rw [if_neg c] at h
    refine sn_blk _ kX9_keep_0_1 (pc' := 10) (L' := [some (.ref a0), some (.int a1)]) (st' := [.ref a0]) rfl rfl ?_
    obtain ⟨x3, hx3, h⟩ := bd_inv h
    refine sn_gA dX9_keep_10 foX9_36 hx3 ?_
    refine sn_blk _ kX9_keep_0_2 (pc' := 15) (L' := [some (.ref a0), some (.int a1)]) (st' := [.ref a0, .int a1, .ref x3]) rfl rfl ?_
    obtain ⟨x4, hx4, h⟩ := bd_inv h
    refine sn_gA dX9_keep_15 foX9_19 hx4 ?_
    obtain ⟨x5, hx5, h⟩ := bd_inv h
    refine sn_gI dX9_keep_18 foX9_162 hx5 ?_
    refine sn_blk _ kX9_keep_0_3 (pc' := 22) (L' := [some (.ref a0), some (.int a1)]) (st' := [.ref a0, .int x5, .int a1, .ref x3]) rfl rfl ?_
    obtain ⟨x6, hx6, h⟩ := bd_inv h
    refine sn_gA dX9_keep_22 foX9_19 hx6 ?_
    obtain ⟨x7, hx7, h⟩ := bd_inv h
    refine sn_gI dX9_keep_25 foX9_182 hx7 ?_
    obtain ⟨ho, h⟩ := gp_inv h
    obtain ⟨fs, ho⟩ := isO_inv ho
    obtain ⟨x8, H9, hx8, h⟩ := bd2_inv h
    refine sn_callv (av := [.int a1, .int x5, .int x7]) (st := []) (M2 := mX8_put) dX9_keep_28 msX8_put mlX9_261 rfl rfl rfl rfl rfl ho (sX8_put hx8) ?_
    refine sn_blk _ kX9_keep_0_4 (pc' := 32) (L' := [some (.ref a0), some (.int a1)]) (st' := [.ref a0]) rfl rfl ?_
    obtain ⟨x10, hx10, h⟩ := bd_inv h
    refine sn_gA dX9_keep_32 foX9_19 hx10 ?_
    obtain ⟨x11, hx11, h⟩ := bd_inv h
    refine sn_gI dX9_keep_35 foX9_108 hx11 ?_
    cases h
    exact sn_iret (ty := .int) dX9_keep_38 rfl rfl
  · rw [if_pos c] at h
    refine sn_blk _ kX9_keep_0_5 (pc' := 8) (L' := [some (.ref a0), some (.int a1)]) (st' := [.int (-1)]) rfl rfl ?_
    cases h
    exact sn_iret (ty := .int) dX9_keep_8 rfl rfl
theorem sX9_keep {G : GG} {r : Int32} {H' : Hp} {a0 : Nat} {a1 : Int32} {H : Hp} (h : FX9_keep a0 a1 H = some (r, H')) : SM G mX9_keep [.ref a0, .int a1] H (some (.int r)) H' := tFX9_keep h
/-! SquareFolds.again(I)I -/
theorem kX9_again_0_0 : decB cX9_again 0 [(.iload_n 1, .null)] = true := by decide +kernel
theorem kX9_again_0_1 : decB cX9_again 9 [(.aload_n 0, .null)] = true := by decide +kernel
theorem kX9_again_0_2 : decB cX9_again 13 [(.iload_n 1, .null)] = true := by decide +kernel
theorem kX9_again_0_3 : decB cX9_again 23 [(.aload_n 0, .null)] = true := by decide +kernel
theorem kX9_again_0_4 : decB cX9_again 27 [(.aload_n 0, .null)] = true := by decide +kernel
theorem kX9_again_0_5 : decB cX9_again 34 [(.aload_n 0, .null)] = true := by decide +kernel
theorem kX9_again_0_6 : decB cX9_again 38 [(.iload_n 1, .null)] = true := by decide +kernel
theorem kX9_again_0_7 : decB cX9_again 42 [(.aload_n 0, .null)] = true := by decide +kernel
theorem kX9_again_0_8 : decB cX9_again 46 [(.iload_n 1, .null)] = true := by decide +kernel
theorem kX9_again_0_9 : decB cX9_again 53 [(.aload_n 0, .null)] = true := by decide +kernel
theorem kX9_again_0_10 : decB cX9_again 57 [(.iconst 0, .int 0)] = true := by decide +kernel
theorem kX9_again_0_11 : decB cX9_again 61 [(.aload_n 0, .null)] = true := by decide +kernel
theorem kX9_again_0_12 : decB cX9_again 20 [(.bipush (-3), .int (-3))] = true := by decide +kernel
theorem kX9_again_0_13 : decB cX9_again 7 [(.iconst (-1), .int (-1))] = true := by decide +kernel
theorem dX9_again_1 : decode cX9_again 1 = .ok (.invokestatic 260, 3) := by decide +kernel
theorem dX9_again_4 : decode cX9_again 4 = .ok (.ifCond .ne 5, 3) := by decide +kernel
theorem dX9_again_8 : decode cX9_again 8 = .ok (.ireturn, 1) := by decide +kernel
theorem dX9_again_10 : decode cX9_again 10 = .ok (.getfield 36, 3) := by decide +kernel
theorem dX9_again_14 : decode cX9_again 14 = .ok (.invokevirtual 264, 3) := by decide +kernel
theorem dX9_again_17 : decode cX9_again 17 = .ok (.ifCond .ne 6, 3) := by decide +kernel
theorem dX9_again_22 : decode cX9_again 22 = .ok (.ireturn, 1) := by decide +kernel
theorem dX9_again_24 : decode cX9_again 24 = .ok (.getfield 19, 3) := by decide +kernel
theorem dX9_again_28 : decode cX9_again 28 = .ok (.getfield 19, 3) := by decide +kernel
theorem dX9_again_31 : decode cX9_again 31 = .ok (.getfield 108, 3) := by decide +kernel
theorem dX9_again_35 : decode cX9_again 35 = .ok (.getfield 36, 3) := by decide +kernel
theorem dX9_again_39 : decode cX9_again 39 = .ok (.invokevirtual 267, 3) := by decide +kernel
theorem dX9_again_43 : decode cX9_again 43 = .ok (.getfield 36, 3) := by decide +kernel
theorem dX9_again_47 : decode cX9_again 47 = .ok (.invokevirtual 268, 3) := by decide +kernel
theorem dX9_again_50 : decode cX9_again 50 = .ok (.invokevirtual 92, 3) := by decide +kernel
theorem dX9_again_54 : decode cX9_again 54 = .ok (.getfield 29, 3) := by decide +kernel
theorem dX9_again_58 : decode cX9_again 58 = .ok (.putfield 96, 3) := by decide +kernel
theorem dX9_again_62 : decode cX9_again 62 = .ok (.getfield 19, 3) := by decide +kernel
theorem dX9_again_65 : decode cX9_again 65 = .ok (.getfield 108, 3) := by decide +kernel
theorem dX9_again_68 : decode cX9_again 68 = .ok (.ireturn, 1) := by decide +kernel
def FX9_again  (a0 : Nat) (a1 : Int32) (H : Hp) : Option (Int32 × Hp) :=
  bd2 (FX8_has a1 H) fun x1 H2 =>
  if (x1 = 0 : Prop) then
    some ((-1), H2)
  else
    bd (gA H2 a0 8 4) fun x3 =>
    gp (isO H2 x3 7 = true) (
      bd2 (FX8_isKept x3 a1 H2) fun x4 H5 =>
      if (x4 = 0 : Prop) then
        some ((-3), H5)
      else
        bd (gA H5 a0 8 1) fun x6 =>
        bd (gA H5 a0 8 1) fun x7 =>
        bd (gI H5 x7 2 0) fun x8 =>
        bd (gA H5 a0 8 4) fun x9 =>
        gp (isO H5 x9 7 = true) (
          bd2 (FX8_rightAt x9 a1 H5) fun x10 H11 =>
          bd (gA H11 a0 8 4) fun x12 =>
          gp (isO H11 x12 7 = true) (
            bd2 (FX8_upAt x12 a1 H11) fun x13 H14 =>
            gp (isO H14 x6 2 = true) (
              bd2 (FX2_become x6 x8 x10 x13 H14) fun _ H16 =>
              bd (gA H16 a0 8 3) fun x17 =>
              bd (pV H16 x17 5 2 (.int 0)) fun H18 =>
              bd (gA H18 a0 8 1) fun x19 =>
              bd (gI H18 x19 2 0) fun x20 =>
              some (x20, H18)
              )
            )
          )
      )
set_option maxHeartbeats 4000000 in
set_option maxRecDepth 100000 in
theorem tFX9_again {G : GG} {r : Int32} {H' : Hp}   {a0 : Nat} {a1 : Int32} {H : Hp} (h : FX9_again  a0 a1 H = some (r, H')) : Sn G (T0 G (some (.int r)) H') mX9_again 0 [some (.ref a0), some (.int a1)] [] H := by
  unfold FX9_again at h
  refine sn_blk _ kX9_again_0_0 (pc' := 1) (L' := [some (.ref a0), some (.int a1)]) (st' := [.int a1]) rfl rfl ?_
  obtain ⟨x1, H2, hx1, h⟩ := bd2_inv h
  refine sn_calls (av := [.int a1]) (st := []) (M2 := mX8_has) dX9_again_1 msX8_has mlX9_260 rfl rfl rfl rfl rfl (sX8_has hx1) ?_
  refine sn_if_ne (tgt := 9) dX9_again_4 (by decide) (fun c => ?_) (fun c => ?_)
  · rw [if_neg c] at h
    refine sn_blk _ kX9_again_0_1 (pc' := 10) (L' := [some (.ref a0), some (.int a1)]) (st' := [.ref a0]) rfl rfl ?_
    obtain ⟨x3, hx3, h⟩ := bd_inv h
    refine sn_gA dX9_again_10 foX9_36 hx3 ?_
    refine sn_blk _ kX9_again_0_2 (pc' := 14) (L' := [some (.ref a0), some (.int a1)]) (st' := [.int a1, .ref x3]) rfl rfl ?_
    obtain ⟨ho, h⟩ := gp_inv h
    obtain ⟨fs, ho⟩ := isO_inv ho
    obtain ⟨x4, H5, hx4, h⟩ := bd2_inv h
    refine sn_callv (av := [.int a1]) (st := []) (M2 := mX8_isKept) dX9_again_14 msX8_isKept mlX9_264 rfl rfl rfl rfl rfl ho (sX8_isKept hx4) ?_
    refine sn_if_ne (tgt := 23) dX9_again_17 (by decide) (fun c => ?_) (fun c => ?_)
    · rw [if_neg c] at h
      refine sn_blk _ kX9_again_0_3 (pc' := 24) (L' := [some (.ref a0), some (.int a1)]) (st' := [.ref a0]) rfl rfl ?_
      obtain ⟨x6, hx6, h⟩ := bd_inv h
      refine sn_gA dX9_again_24 foX9_19 hx6 ?_
      refine sn_blk _ kX9_again_0_4 (pc' := 28) (L' := [some (.ref a0), some (.int a1)]) (st' := [.ref a0, .ref x6]) rfl rfl ?_
      obtain ⟨x7, hx7, h⟩ := bd_inv h
      refine sn_gA dX9_again_28 foX9_19 hx7 ?_
      obtain ⟨x8, hx8, h⟩ := bd_inv h
      refine sn_gI dX9_again_31 foX9_108 hx8 ?_
      refine sn_blk _ kX9_again_0_5 (pc' := 35) (L' := [some (.ref a0), some (.int a1)]) (st' := [.ref a0, .int x8, .ref x6]) rfl rfl ?_
      obtain ⟨x9, hx9, h⟩ := bd_inv h
      refine sn_gA dX9_again_35 foX9_36 hx9 ?_
      refine sn_blk _ kX9_again_0_6 (pc' := 39) (L' := [some (.ref a0), some (.int a1)]) (st' := [.int a1, .ref x9, .int x8, .ref x6]) rfl rfl ?_
      obtain ⟨ho, h⟩ := gp_inv h
      obtain ⟨fs, ho⟩ := isO_inv ho
      obtain ⟨x10, H11, hx10, h⟩ := bd2_inv h
      refine sn_callv (av := [.int a1]) (st := [.int x8, .ref x6]) (M2 := mX8_rightAt) dX9_again_39 msX8_rightAt mlX9_267 rfl rfl rfl rfl rfl ho (sX8_rightAt hx10) ?_
      refine sn_blk _ kX9_again_0_7 (pc' := 43) (L' := [some (.ref a0), some (.int a1)]) (st' := [.ref a0, .int x10, .int x8, .ref x6]) rfl rfl ?_
      obtain ⟨x12, hx12, h⟩ := bd_inv h
      refine sn_gA dX9_again_43 foX9_36 hx12 ?_
      refine sn_blk _ kX9_again_0_8 (pc' := 47) (L' := [some (.ref a0), some (.int a1)]) (st' := [.int a1, .ref x12, .int x10, .int x8, .ref x6]) rfl rfl ?_
      obtain ⟨ho, h⟩ := gp_inv h
      obtain ⟨fs, ho⟩ := isO_inv ho
      obtain ⟨x13, H14, hx13, h⟩ := bd2_inv h
      refine sn_callv (av := [.int a1]) (st := [.int x10, .int x8, .ref x6]) (M2 := mX8_upAt) dX9_again_47 msX8_upAt mlX9_268 rfl rfl rfl rfl rfl ho (sX8_upAt hx13) ?_
      obtain ⟨ho, h⟩ := gp_inv h
      obtain ⟨fs, ho⟩ := isO_inv ho
      obtain ⟨x15, H16, hx15, h⟩ := bd2_inv h
      refine sn_callv (av := [.int x8, .int x10, .int x13]) (st := []) (M2 := mX2_become) dX9_again_50 msX2_become mlX9_92 rfl rfl rfl rfl rfl ho (sX2_become hx15) ?_
      refine sn_blk _ kX9_again_0_9 (pc' := 54) (L' := [some (.ref a0), some (.int a1)]) (st' := [.ref a0]) rfl rfl ?_
      obtain ⟨x17, hx17, h⟩ := bd_inv h
      refine sn_gA dX9_again_54 foX9_29 hx17 ?_
      refine sn_blk _ kX9_again_0_10 (pc' := 58) (L' := [some (.ref a0), some (.int a1)]) (st' := [.int 0, .ref x17]) rfl rfl ?_
      obtain ⟨H18, hH18, h⟩ := bd_inv h
      refine sn_pI dX9_again_58 foX9_96 fpX5_2 hH18 ?_
      refine sn_blk _ kX9_again_0_11 (pc' := 62) (L' := [some (.ref a0), some (.int a1)]) (st' := [.ref a0]) rfl rfl ?_
      obtain ⟨x19, hx19, h⟩ := bd_inv h
      refine sn_gA dX9_again_62 foX9_19 hx19 ?_
      obtain ⟨x20, hx20, h⟩ := bd_inv h
      refine sn_gI dX9_again_65 foX9_108 hx20 ?_
      cases h
      exact sn_iret (ty := .int) dX9_again_68 rfl rfl
    · rw [if_pos c] at h
      refine sn_blk _ kX9_again_0_12 (pc' := 22) (L' := [some (.ref a0), some (.int a1)]) (st' := [.int (-3)]) rfl rfl ?_
      cases h
      exact sn_iret (ty := .int) dX9_again_22 rfl rfl
  · rw [if_pos c] at h
    refine sn_blk _ kX9_again_0_13 (pc' := 8) (L' := [some (.ref a0), some (.int a1)]) (st' := [.int (-1)]) rfl rfl ?_
    cases h
    exact sn_iret (ty := .int) dX9_again_8 rfl rfl
theorem sX9_again {G : GG} {r : Int32} {H' : Hp} {a0 : Nat} {a1 : Int32} {H : Hp} (h : FX9_again a0 a1 H = some (r, H')) : SM G mX9_again [.ref a0, .int a1] H (some (.int r)) H' := tFX9_again h
