/-! SquareFolds$Letters.add(I)Z -/
theorem kX3_add_0_0 : decB cX3_add 0 [(.aload_n 0, .null)] = true := by decide +kernel
theorem kX3_add_0_1 : decB cX3_add 16 [(.iconst 0, .int 0)] = true := by decide +kernel
theorem kX3_add_0_2 : decB cX3_add 7 [(.aload_n 0, .null)] = true := by decide +kernel
theorem kX3_add_0_3 : decB cX3_add 11 [(.bipush 20, .int 20)] = true := by decide +kernel
theorem kX3_add_0_4 : decB cX3_add 18 [(.aload_n 0, .null)] = true := by decide +kernel
theorem kX3_add_0_5 : decB cX3_add 22 [(.aload_n 0, .null)] = true := by decide +kernel
theorem kX3_add_0_6 : decB cX3_add 26 [(.iload_n 1, .null)] = true := by decide +kernel
theorem kX3_add_0_7 : decB cX3_add 28 [(.aload_n 0, .null), (.dup, .null)] = true := by decide +kernel
theorem kX3_add_0_8 : decB cX3_add 33 [(.iconst 1, .int 1), (.iadd, .null)] = true := by decide +kernel
theorem kX3_add_0_9 : decB cX3_add 38 [(.iconst 1, .int 1)] = true := by decide +kernel
theorem kX3_add_0_10 : decB cX3_add 16 [(.iconst 0, .int 0)] = true := by decide +kernel
theorem dX3_add_1 : decode cX3_add 1 = .ok (.getfield 15, 3) := by decide +kernel
theorem dX3_add_4 : decode cX3_add 4 = .ok (.ifCond .lt 12, 3) := by decide +kernel
theorem dX3_add_8 : decode cX3_add 8 = .ok (.getfield 15, 3) := by decide +kernel
theorem dX3_add_13 : decode cX3_add 13 = .ok (.if_icmp .lt 5, 3) := by decide +kernel
theorem dX3_add_17 : decode cX3_add 17 = .ok (.ireturn, 1) := by decide +kernel
theorem dX3_add_19 : decode cX3_add 19 = .ok (.getfield 11, 3) := by decide +kernel
theorem dX3_add_23 : decode cX3_add 23 = .ok (.getfield 15, 3) := by decide +kernel
theorem dX3_add_27 : decode cX3_add 27 = .ok (.iastore, 1) := by decide +kernel
theorem dX3_add_30 : decode cX3_add 30 = .ok (.getfield 15, 3) := by decide +kernel
theorem dX3_add_35 : decode cX3_add 35 = .ok (.putfield 15, 3) := by decide +kernel
theorem dX3_add_39 : decode cX3_add 39 = .ok (.ireturn, 1) := by decide +kernel
def FX3_add  (a0 : Nat) (a1 : Int32) (H : Hp) : Option (Int32 × Hp) :=
  bd (gI H a0 3 1) fun x1 =>
  if (x1 < 0 : Prop) then
    some (0, H)
  else
    bd (gI H a0 3 1) fun x2 =>
    if (x2 < 20 : Prop) then
      bd (gA H a0 3 0) fun x3 =>
      bd (gI H a0 3 1) fun x4 =>
      bd (sI H x3 0 x4 a1) fun H5 =>
      bd (gI H5 a0 3 1) fun x6 =>
      bd (pV H5 a0 3 1 (.int (x6 + 1))) fun H7 =>
      some (1, H7)
    else
      some (0, H)
set_option maxHeartbeats 4000000 in
set_option maxRecDepth 100000 in
theorem tFX3_add {G : GG} {r : Int32} {H' : Hp}   {a0 : Nat} {a1 : Int32} {H : Hp} (h : FX3_add  a0 a1 H = some (r, H')) : Sn G (T0 G (some (.int r)) H') mX3_add 0 [some (.ref a0), some (.int a1)] [] H := by
  unfold FX3_add at h
  refine sn_blk _ kX3_add_0_0 (pc' := 1) (L' := [some (.ref a0), some (.int a1)]) (st' := [.ref a0]) rfl rfl ?_
  obtain ⟨x1, hx1, h⟩ := bd_inv h
  refine sn_gI dX3_add_1 foX3_15 hx1 ?_
  refine sn_if_lt (tgt := 16) dX3_add_4 (by decide) (fun c => ?_) (fun c => ?_)
  · rw [if_pos c] at h
    refine sn_blk _ kX3_add_0_1 (pc' := 17) (L' := [some (.ref a0), some (.int a1)]) (st' := [.int 0]) rfl rfl ?_
    cases h
    exact sn_iret (ty := .boolean) dX3_add_17 rfl rfl
  · rw [if_neg c] at h
    refine sn_blk _ kX3_add_0_2 (pc' := 8) (L' := [some (.ref a0), some (.int a1)]) (st' := [.ref a0]) rfl rfl ?_
    obtain ⟨x2, hx2, h⟩ := bd_inv h
    refine sn_gI dX3_add_8 foX3_15 hx2 ?_
    refine sn_blk _ kX3_add_0_3 (pc' := 13) (L' := [some (.ref a0), some (.int a1)]) (st' := [.int 20, .int x2]) rfl rfl ?_
    refine sn_icmp_lt (tgt := 18) dX3_add_13 (by decide) (fun c => ?_) (fun c => ?_)
    · rw [if_pos c] at h
      refine sn_blk _ kX3_add_0_4 (pc' := 19) (L' := [some (.ref a0), some (.int a1)]) (st' := [.ref a0]) rfl rfl ?_
      obtain ⟨x3, hx3, h⟩ := bd_inv h
      refine sn_gA dX3_add_19 foX3_11 hx3 ?_
      refine sn_blk _ kX3_add_0_5 (pc' := 23) (L' := [some (.ref a0), some (.int a1)]) (st' := [.ref a0, .ref x3]) rfl rfl ?_
      obtain ⟨x4, hx4, h⟩ := bd_inv h
      refine sn_gI dX3_add_23 foX3_15 hx4 ?_
      refine sn_blk _ kX3_add_0_6 (pc' := 27) (L' := [some (.ref a0), some (.int a1)]) (st' := [.int a1, .int x4, .ref x3]) rfl rfl ?_
      obtain ⟨H5, hH5, h⟩ := bd_inv h
      refine sn_iast dX3_add_27 hH5 ?_
      refine sn_blk _ kX3_add_0_7 (pc' := 30) (L' := [some (.ref a0), some (.int a1)]) (st' := [.ref a0, .ref a0]) rfl rfl ?_
      obtain ⟨x6, hx6, h⟩ := bd_inv h
      refine sn_gI dX3_add_30 foX3_15 hx6 ?_
      refine sn_blk _ kX3_add_0_8 (pc' := 35) (L' := [some (.ref a0), some (.int a1)]) (st' := [.int (x6 + 1), .ref a0]) rfl rfl ?_
      obtain ⟨H7, hH7, h⟩ := bd_inv h
      refine sn_pI dX3_add_35 foX3_15 fpX3_1 hH7 ?_
      refine sn_blk _ kX3_add_0_9 (pc' := 39) (L' := [some (.ref a0), some (.int a1)]) (st' := [.int 1]) rfl rfl ?_
      cases h
      exact sn_iret (ty := .boolean) dX3_add_39 rfl rfl
    · rw [if_neg c] at h
      refine sn_blk _ kX3_add_0_10 (pc' := 17) (L' := [some (.ref a0), some (.int a1)]) (st' := [.int 0]) rfl rfl ?_
      cases h
      exact sn_iret (ty := .boolean) dX3_add_17 rfl rfl
theorem sX3_add {G : GG} {r : Int32} {H' : Hp} {a0 : Nat} {a1 : Int32} {H : Hp} (h : FX3_add a0 a1 H = some (r, H')) : SM G mX3_add [.ref a0, .int a1] H (some (.int r)) H' := tFX3_add h
/-! SquareFolds$Letters.figure(I)I -/
theorem kX3_figure_0_0 : decB cX3_figure 0 [(.iload_n 1, .null)] = true := by decide +kernel
theorem kX3_figure_0_1 : decB cX3_figure 30 [(.iconst (-1), .int (-1))] = true := by decide +kernel
theorem kX3_figure_0_2 : decB cX3_figure 4 [(.iload_n 1, .null), (.aload_n 0, .null)] = true := by decide +kernel
theorem kX3_figure_0_3 : decB cX3_figure 30 [(.iconst (-1), .int (-1))] = true := by decide +kernel
theorem kX3_figure_0_4 : decB cX3_figure 12 [(.iload_n 1, .null), (.bipush 20, .int 20)] = true := by decide +kernel
theorem kX3_figure_0_5 : decB cX3_figure 30 [(.iconst (-1), .int (-1))] = true := by decide +kernel
theorem kX3_figure_0_6 : decB cX3_figure 18 [(.aload_n 0, .null)] = true := by decide +kernel
theorem kX3_figure_0_7 : decB cX3_figure 22 [(.iload_n 1, .null)] = true := by decide +kernel
theorem kX3_figure_0_8 : decB cX3_figure 24 [(.bipush 48, .int 48), (.isub, .null), (.goto 4, .retAddr 31)] = true := by decide +kernel
theorem dX3_figure_1 : decode cX3_figure 1 = .ok (.ifCond .lt 29, 3) := by decide +kernel
theorem dX3_figure_6 : decode cX3_figure 6 = .ok (.getfield 15, 3) := by decide +kernel
theorem dX3_figure_9 : decode cX3_figure 9 = .ok (.if_icmp .ge 21, 3) := by decide +kernel
theorem dX3_figure_15 : decode cX3_figure 15 = .ok (.if_icmp .ge 15, 3) := by decide +kernel
theorem dX3_figure_19 : decode cX3_figure 19 = .ok (.getfield 11, 3) := by decide +kernel
theorem dX3_figure_23 : decode cX3_figure 23 = .ok (.iaload, 1) := by decide +kernel
theorem dX3_figure_31 : decode cX3_figure 31 = .ok (.ireturn, 1) := by decide +kernel
def FX3_figure  (a0 : Nat) (a1 : Int32) (H : Hp) : Option (Int32 × Hp) :=
  if (a1 < 0 : Prop) then
    some ((-1), H)
  else
    bd (gI H a0 3 1) fun x1 =>
    if (x1 ≤ a1 : Prop) then
      some ((-1), H)
    else
      if (20 ≤ a1 : Prop) then
        some ((-1), H)
      else
        bd (gA H a0 3 0) fun x2 =>
        bd (aI H x2 0 a1) fun x3 =>
        some ((x3 - 48), H)
set_option maxHeartbeats 4000000 in
set_option maxRecDepth 100000 in
theorem tFX3_figure {G : GG} {r : Int32} {H' : Hp}   {a0 : Nat} {a1 : Int32} {H : Hp} (h : FX3_figure  a0 a1 H = some (r, H')) : Sn G (T0 G (some (.int r)) H') mX3_figure 0 [some (.ref a0), some (.int a1)] [] H := by
  unfold FX3_figure at h
  refine sn_blk _ kX3_figure_0_0 (pc' := 1) (L' := [some (.ref a0), some (.int a1)]) (st' := [.int a1]) rfl rfl ?_
  refine sn_if_lt (tgt := 30) dX3_figure_1 (by decide) (fun c => ?_) (fun c => ?_)
  · rw [if_pos c] at h
    refine sn_blk _ kX3_figure_0_1 (pc' := 31) (L' := [some (.ref a0), some (.int a1)]) (st' := [.int (-1)]) rfl rfl ?_
    cases h
    exact sn_iret (ty := .int) dX3_figure_31 rfl rfl
  · rw [if_neg c] at h
    refine sn_blk _ kX3_figure_0_2 (pc' := 6) (L' := [some (.ref a0), some (.int a1)]) (st' := [.ref a0, .int a1]) rfl rfl ?_
    obtain ⟨x1, hx1, h⟩ := bd_inv h
    refine sn_gI dX3_figure_6 foX3_15 hx1 ?_
    refine sn_icmp_ge (tgt := 30) dX3_figure_9 (by decide) (fun c => ?_) (fun c => ?_)
    · rw [if_pos c] at h
      refine sn_blk _ kX3_figure_0_3 (pc' := 31) (L' := [some (.ref a0), some (.int a1)]) (st' := [.int (-1)]) rfl rfl ?_
      cases h
      exact sn_iret (ty := .int) dX3_figure_31 rfl rfl
    · rw [if_neg c] at h
      refine sn_blk _ kX3_figure_0_4 (pc' := 15) (L' := [some (.ref a0), some (.int a1)]) (st' := [.int 20, .int a1]) rfl rfl ?_
      refine sn_icmp_ge (tgt := 30) dX3_figure_15 (by decide) (fun c => ?_) (fun c => ?_)
      · rw [if_pos c] at h
        refine sn_blk _ kX3_figure_0_5 (pc' := 31) (L' := [some (.ref a0), some (.int a1)]) (st' := [.int (-1)]) rfl rfl ?_
        cases h
        exact sn_iret (ty := .int) dX3_figure_31 rfl rfl
      · rw [if_neg c] at h
        refine sn_blk _ kX3_figure_0_6 (pc' := 19) (L' := [some (.ref a0), some (.int a1)]) (st' := [.ref a0]) rfl rfl ?_
        obtain ⟨x2, hx2, h⟩ := bd_inv h
        refine sn_gA dX3_figure_19 foX3_11 hx2 ?_
        refine sn_blk _ kX3_figure_0_7 (pc' := 23) (L' := [some (.ref a0), some (.int a1)]) (st' := [.int a1, .ref x2]) rfl rfl ?_
        obtain ⟨x3, hx3, h⟩ := bd_inv h
        refine sn_iald dX3_figure_23 hx3 ?_
        refine sn_blk _ kX3_figure_0_8 (pc' := 31) (L' := [some (.ref a0), some (.int a1)]) (st' := [.int (x3 - 48)]) rfl rfl ?_
        cases h
        exact sn_iret (ty := .int) dX3_figure_31 rfl rfl
theorem sX3_figure {G : GG} {r : Int32} {H' : Hp} {a0 : Nat} {a1 : Int32} {H : Hp} (h : FX3_figure a0 a1 H = some (r, H')) : SM G mX3_figure [.ref a0, .int a1] H (some (.int r)) H' := tFX3_figure h
/-! SquareFolds$Letters.firstFault()I -/
theorem kX3_firstFault_0_0 : decB cX3_firstFault 0 [(.aload_n 0, .null)] = true := by decide +kernel
theorem kX3_firstFault_0_1 : decB cX3_firstFault 4 [(.iconst 1, .int 1)] = true := by decide +kernel
theorem kX3_firstFault_0_2 : decB cX3_firstFault 19 [(.iconst 0, .int 0)] = true := by decide +kernel
theorem kX3_firstFault_0_3 : decB cX3_firstFault 8 [(.aload_n 0, .null)] = true := by decide +kernel
theorem kX3_firstFault_0_4 : decB cX3_firstFault 12 [(.iconst 0, .int 0)] = true := by decide +kernel
theorem kX3_firstFault_0_5 : decB cX3_firstFault 14 [(.bipush 83, .int 83)] = true := by decide +kernel
theorem kX3_firstFault_0_6 : decB cX3_firstFault 21 [(.aload_n 0, .null), (.iconst 1, .int 1)] = true := by decide +kernel
theorem kX3_firstFault_0_7 : decB cX3_firstFault 26 [(.istore_n 1, .null), (.iload_n 1, .null), (.iconst 1, .int 1)] = true := by decide +kernel
theorem kX3_firstFault_0_8 : decB cX3_firstFault 37 [(.iconst 1, .int 1)] = true := by decide +kernel
theorem kX3_firstFault_0_9 : decB cX3_firstFault 32 [(.iload_n 1, .null), (.iconst 5, .int 5)] = true := by decide +kernel
theorem kX3_firstFault_0_10 : decB cX3_firstFault 39 [(.iconst 2, .int 2), (.iconst 2, .int 2), (.iload_n 1, .null), (.imul, .null), (.iadd, .null), (.istore_n 2, .null), (.iconst 0, .int 0), (.istore_n 3, .null), (.iconst 2, .int 2), (.istore 4, .null)] = true := by decide +kernel
theorem kX3_firstFault_0_11 : decB cX3_firstFault 37 [(.iconst 1, .int 1)] = true := by decide +kernel
theorem kX3_firstFault_0_12 : decB cX3_firstFault 19 [(.iconst 0, .int 0)] = true := by decide +kernel
theorem kX3_firstFault_50_0 : decB cX3_firstFault 50 [(.iload 4, .null), (.iload_n 2, .null)] = true := by decide +kernel
theorem kX3_firstFault_50_1 : decB cX3_firstFault 110 [(.aload_n 0, .null)] = true := by decide +kernel
theorem kX3_firstFault_50_2 : decB cX3_firstFault 114 [(.iload_n 2, .null)] = true := by decide +kernel
theorem kX3_firstFault_50_3 : decB cX3_firstFault 122 [(.bipush (-9), .int (-9))] = true := by decide +kernel
theorem kX3_firstFault_50_4 : decB cX3_firstFault 118 [(.iload_n 2, .null), (.goto 5, .retAddr 124)] = true := by decide +kernel
theorem kX3_firstFault_50_5 : decB cX3_firstFault 56 [(.iload 4, .null), (.iconst 2, .int 2), (.iload_n 1, .null), (.iadd, .null)] = true := by decide +kernel
theorem kX3_firstFault_50_6 : decB cX3_firstFault 64 [(.iconst 0, .int 0), (.istore_n 3, .null)] = true := by decide +kernel
theorem kX3_firstFault_66_0 : decB cX3_firstFault 66 [(.aload_n 0, .null), (.iload 4, .null)] = true := by decide +kernel
theorem kX3_firstFault_66_1 : decB cX3_firstFault 72 [(.istore 5, .null), (.iload 5, .null)] = true := by decide +kernel
theorem kX3_firstFault_66_2 : decB cX3_firstFault 94 [(.iload 4, .null)] = true := by decide +kernel
theorem kX3_firstFault_66_3 : decB cX3_firstFault 79 [(.iload 5, .null), (.iload_n 1, .null)] = true := by decide +kernel
theorem kX3_firstFault_66_4 : decB cX3_firstFault 94 [(.iload 4, .null)] = true := by decide +kernel
theorem kX3_firstFault_66_5 : decB cX3_firstFault 85 [(.iload_n 3, .null), (.iload 5, .null)] = true := by decide +kernel
theorem kX3_firstFault_66_6 : decB cX3_firstFault 97 [(.iload_n 3, .null), (.iconst 1, .int 1), (.iload 5, .null), (.ishl, .null), (.ior, .null), (.istore_n 3, .null), (.iinc 4 1, .int 1), (.goto (-57), .retAddr 50)] = true := by decide +kernel
theorem kX3_firstFault_66_7 : decB cX3_firstFault 94 [(.iload 4, .null)] = true := by decide +kernel
theorem dX3_firstFault_1 : decode cX3_firstFault 1 = .ok (.getfield 15, 3) := by decide +kernel
theorem dX3_firstFault_5 : decode cX3_firstFault 5 = .ok (.if_icmp .lt 14, 3) := by decide +kernel
theorem dX3_firstFault_9 : decode cX3_firstFault 9 = .ok (.getfield 11, 3) := by decide +kernel
theorem dX3_firstFault_13 : decode cX3_firstFault 13 = .ok (.iaload, 1) := by decide +kernel
theorem dX3_firstFault_16 : decode cX3_firstFault 16 = .ok (.if_icmp .eq 5, 3) := by decide +kernel
theorem dX3_firstFault_20 : decode cX3_firstFault 20 = .ok (.ireturn, 1) := by decide +kernel
theorem dX3_firstFault_23 : decode cX3_firstFault 23 = .ok (.invokevirtual 19, 3) := by decide +kernel
theorem dX3_firstFault_29 : decode cX3_firstFault 29 = .ok (.if_icmp .lt 8, 3) := by decide +kernel
theorem dX3_firstFault_34 : decode cX3_firstFault 34 = .ok (.if_icmp .le 5, 3) := by decide +kernel
theorem dX3_firstFault_38 : decode cX3_firstFault 38 = .ok (.ireturn, 1) := by decide +kernel
theorem dX3_firstFault_53 : decode cX3_firstFault 53 = .ok (.if_icmp .ge 57, 3) := by decide +kernel
theorem dX3_firstFault_61 : decode cX3_firstFault 61 = .ok (.if_icmp .ne 5, 3) := by decide +kernel
theorem dX3_firstFault_69 : decode cX3_firstFault 69 = .ok (.invokevirtual 19, 3) := by decide +kernel
theorem dX3_firstFault_76 : decode cX3_firstFault 76 = .ok (.ifCond .lt 18, 3) := by decide +kernel
theorem dX3_firstFault_82 : decode cX3_firstFault 82 = .ok (.if_icmp .ge 12, 3) := by decide +kernel
theorem dX3_firstFault_88 : decode cX3_firstFault 88 = .ok (.invokestatic 29, 3) := by decide +kernel
theorem dX3_firstFault_91 : decode cX3_firstFault 91 = .ok (.ifCond .eq 6, 3) := by decide +kernel
theorem dX3_firstFault_96 : decode cX3_firstFault 96 = .ok (.ireturn, 1) := by decide +kernel
theorem dX3_firstFault_111 : decode cX3_firstFault 111 = .ok (.getfield 15, 3) := by decide +kernel
theorem dX3_firstFault_115 : decode cX3_firstFault 115 = .ok (.if_icmp .le 7, 3) := by decide +kernel
theorem dX3_firstFault_124 : decode cX3_firstFault 124 = .ok (.ireturn, 1) := by decide +kernel
def fX3_firstFault_66 (K50 : Nat → Int32 → Int32 → Int32 → Int32 → Hp → Option (Int32 × Hp)) (a0 : Nat) (a1 : Int32) (a2 : Int32) (a3 : Int32) (a4 : Int32) (H : Hp) : Option (Int32 × Hp) :=
  gp (isO H a0 3 = true) (
    bd2 (FX3_figure a0 a4 H) fun x1 H2 =>
    if (x1 < 0 : Prop) then
      some (a4, H2)
    else
      if (a1 ≤ x1 : Prop) then
        some (a4, H2)
      else
        bd2 (FX6_isIn a3 x1 H2) fun x3 H4 =>
        if (x3 = 0 : Prop) then
          K50 a0 a1 a2 (a3 ||| (1 <<< (x1 &&& 31))) (a4 + 1) H4
        else
          some (a4, H4)
    )
set_option maxHeartbeats 4000000 in
set_option maxRecDepth 100000 in
theorem tfX3_firstFault_66 {G : GG} {r : Int32} {H' : Hp} {K50 : Nat → Int32 → Int32 → Int32 → Int32 → Hp → Option (Int32 × Hp)} (hK50 : ∀ (a0 : Nat) (a1 : Int32) (a2 : Int32) (a3 : Int32) (a4 : Int32) (H : Hp), K50 a0 a1 a2 a3 a4 H = some (r, H') → Sn G (T0 G (some (.int r)) H') mX3_firstFault 50 [some (.ref a0), some (.int a1), some (.int a2), some (.int a3), some (.int a4), none] [] H) {a0 : Nat} {a1 : Int32} {a2 : Int32} {a3 : Int32} {a4 : Int32} {H : Hp} (h : fX3_firstFault_66 K50 a0 a1 a2 a3 a4 H = some (r, H')) : Sn G (T0 G (some (.int r)) H') mX3_firstFault 66 [some (.ref a0), some (.int a1), some (.int a2), some (.int a3), some (.int a4), none] [] H := by
  unfold fX3_firstFault_66 at h
  refine sn_blk _ kX3_firstFault_66_0 (pc' := 69) (L' := [some (.ref a0), some (.int a1), some (.int a2), some (.int a3), some (.int a4), none]) (st' := [.int a4, .ref a0]) rfl rfl ?_
  obtain ⟨ho, h⟩ := gp_inv h
  obtain ⟨fs, ho⟩ := isO_inv ho
  obtain ⟨x1, H2, hx1, h⟩ := bd2_inv h
  refine sn_callv (av := [.int a4]) (st := []) (M2 := mX3_figure) dX3_firstFault_69 msX3_figure mlX3_19 rfl rfl rfl rfl rfl ho (sX3_figure hx1) ?_
  refine sn_blk _ kX3_firstFault_66_1 (pc' := 76) (L' := [some (.ref a0), some (.int a1), some (.int a2), some (.int a3), some (.int a4), some (.int x1)]) (st' := [.int x1]) rfl rfl ?_
  refine sn_if_lt (tgt := 94) dX3_firstFault_76 (by decide) (fun c => ?_) (fun c => ?_)
  · rw [if_pos c] at h
    refine sn_blk _ kX3_firstFault_66_2 (pc' := 96) (L' := [some (.ref a0), some (.int a1), some (.int a2), some (.int a3), some (.int a4), some (.int x1)]) (st' := [.int a4]) rfl rfl ?_
    cases h
    exact sn_iret (ty := .int) dX3_firstFault_96 rfl rfl
  · rw [if_neg c] at h
    refine sn_blk _ kX3_firstFault_66_3 (pc' := 82) (L' := [some (.ref a0), some (.int a1), some (.int a2), some (.int a3), some (.int a4), some (.int x1)]) (st' := [.int a1, .int x1]) rfl rfl ?_
    refine sn_icmp_ge (tgt := 94) dX3_firstFault_82 (by decide) (fun c => ?_) (fun c => ?_)
    · rw [if_pos c] at h
      refine sn_blk _ kX3_firstFault_66_4 (pc' := 96) (L' := [some (.ref a0), some (.int a1), some (.int a2), some (.int a3), some (.int a4), some (.int x1)]) (st' := [.int a4]) rfl rfl ?_
      cases h
      exact sn_iret (ty := .int) dX3_firstFault_96 rfl rfl
    · rw [if_neg c] at h
      refine sn_blk _ kX3_firstFault_66_5 (pc' := 88) (L' := [some (.ref a0), some (.int a1), some (.int a2), some (.int a3), some (.int a4), some (.int x1)]) (st' := [.int x1, .int a3]) rfl rfl ?_
      obtain ⟨x3, H4, hx3, h⟩ := bd2_inv h
      refine sn_calls (av := [.int a3, .int x1]) (st := []) (M2 := mX6_isIn) dX3_firstFault_88 msX6_isIn mlX3_29 rfl rfl rfl rfl rfl (sX6_isIn hx3) ?_
      refine sn_if_eq (tgt := 97) dX3_firstFault_91 (by decide) (fun c => ?_) (fun c => ?_)
      · rw [if_pos c] at h
        refine sn_blk _ kX3_firstFault_66_6 (pc' := 50) (L' := [some (.ref a0), some (.int a1), some (.int a2), some (.int (a3 ||| (1 <<< (x1 &&& 31)))), some (.int (a4 + 1)), some (.int x1)]) (st' := []) rfl rfl ?_
        refine sn_msk [true, true, true, true, true, false] (L2 := [some (.ref a0), some (.int a1), some (.int a2), some (.int (a3 ||| (1 <<< (x1 &&& 31)))), some (.int (a4 + 1)), none]) rfl ?_
        exact hK50 _ _ _ _ _ _ h
      · rw [if_neg c] at h
        refine sn_blk _ kX3_firstFault_66_7 (pc' := 96) (L' := [some (.ref a0), some (.int a1), some (.int a2), some (.int a3), some (.int a4), some (.int x1)]) (st' := [.int a4]) rfl rfl ?_
        cases h
        exact sn_iret (ty := .int) dX3_firstFault_96 rfl rfl
def bX3_firstFault_50 (K50 : Nat → Int32 → Int32 → Int32 → Int32 → Hp → Option (Int32 × Hp)) (a0 : Nat) (a1 : Int32) (a2 : Int32) (a3 : Int32) (a4 : Int32) (H : Hp) : Option (Int32 × Hp) :=
  if (a2 ≤ a4 : Prop) then
    bd (gI H a0 3 1) fun x1 =>
    if (x1 ≤ a2 : Prop) then
      some ((-9), H)
    else
      some (a2, H)
  else
    if (a4 = (2 + a1) : Prop) then
      fX3_firstFault_66 K50 a0 a1 a2 0 a4 H
    else
      fX3_firstFault_66 K50 a0 a1 a2 a3 a4 H
set_option maxHeartbeats 4000000 in
set_option maxRecDepth 100000 in
theorem tbX3_firstFault_50 {G : GG} {r : Int32} {H' : Hp} {K50 : Nat → Int32 → Int32 → Int32 → Int32 → Hp → Option (Int32 × Hp)} (hK50 : ∀ (a0 : Nat) (a1 : Int32) (a2 : Int32) (a3 : Int32) (a4 : Int32) (H : Hp), K50 a0 a1 a2 a3 a4 H = some (r, H') → Sn G (T0 G (some (.int r)) H') mX3_firstFault 50 [some (.ref a0), some (.int a1), some (.int a2), some (.int a3), some (.int a4), none] [] H) {a0 : Nat} {a1 : Int32} {a2 : Int32} {a3 : Int32} {a4 : Int32} {H : Hp} (h : bX3_firstFault_50 K50 a0 a1 a2 a3 a4 H = some (r, H')) : Sn G (T0 G (some (.int r)) H') mX3_firstFault 50 [some (.ref a0), some (.int a1), some (.int a2), some (.int a3), some (.int a4), none] [] H := by
  unfold bX3_firstFault_50 at h
  refine sn_blk _ kX3_firstFault_50_0 (pc' := 53) (L' := [some (.ref a0), some (.int a1), some (.int a2), some (.int a3), some (.int a4), none]) (st' := [.int a2, .int a4]) rfl rfl ?_
  refine sn_icmp_ge (tgt := 110) dX3_firstFault_53 (by decide) (fun c => ?_) (fun c => ?_)
  · rw [if_pos c] at h
    refine sn_blk _ kX3_firstFault_50_1 (pc' := 111) (L' := [some (.ref a0), some (.int a1), some (.int a2), some (.int a3), some (.int a4), none]) (st' := [.ref a0]) rfl rfl ?_
    obtain ⟨x1, hx1, h⟩ := bd_inv h
    refine sn_gI dX3_firstFault_111 foX3_15 hx1 ?_
    refine sn_blk _ kX3_firstFault_50_2 (pc' := 115) (L' := [some (.ref a0), some (.int a1), some (.int a2), some (.int a3), some (.int a4), none]) (st' := [.int a2, .int x1]) rfl rfl ?_
    refine sn_icmp_le (tgt := 122) dX3_firstFault_115 (by decide) (fun c => ?_) (fun c => ?_)
    · rw [if_pos c] at h
      refine sn_blk _ kX3_firstFault_50_3 (pc' := 124) (L' := [some (.ref a0), some (.int a1), some (.int a2), some (.int a3), some (.int a4), none]) (st' := [.int (-9)]) rfl rfl ?_
      cases h
      exact sn_iret (ty := .int) dX3_firstFault_124 rfl rfl
    · rw [if_neg c] at h
      refine sn_blk _ kX3_firstFault_50_4 (pc' := 124) (L' := [some (.ref a0), some (.int a1), some (.int a2), some (.int a3), some (.int a4), none]) (st' := [.int a2]) rfl rfl ?_
      cases h
      exact sn_iret (ty := .int) dX3_firstFault_124 rfl rfl
  · rw [if_neg c] at h
    refine sn_blk _ kX3_firstFault_50_5 (pc' := 61) (L' := [some (.ref a0), some (.int a1), some (.int a2), some (.int a3), some (.int a4), none]) (st' := [.int (2 + a1), .int a4]) rfl rfl ?_
    refine sn_icmp_ne (tgt := 66) dX3_firstFault_61 (by decide) (fun c => ?_) (fun c => ?_)
    · rw [if_neg c] at h
      exact tfX3_firstFault_66 hK50 h
    · rw [if_pos c] at h
      refine sn_blk _ kX3_firstFault_50_6 (pc' := 66) (L' := [some (.ref a0), some (.int a1), some (.int a2), some (.int 0), some (.int a4), none]) (st' := []) rfl rfl ?_
      exact tfX3_firstFault_66 hK50 h
def fX3_firstFault_50  : Nat → Nat → Int32 → Int32 → Int32 → Int32 → Hp → Option (Int32 × Hp)
  | 0, _, _, _, _, _, _ => none
  | d + 1, a0, a1, a2, a3, a4, H => bX3_firstFault_50 (fX3_firstFault_50  d) a0 a1 a2 a3 a4 H
theorem tfX3_firstFault_50 {G : GG} {r : Int32} {H' : Hp}   : ∀ (d : Nat) {a0 : Nat} {a1 : Int32} {a2 : Int32} {a3 : Int32} {a4 : Int32} {H : Hp}, fX3_firstFault_50  d a0 a1 a2 a3 a4 H = some (r, H') → Sn G (T0 G (some (.int r)) H') mX3_firstFault 50 [some (.ref a0), some (.int a1), some (.int a2), some (.int a3), some (.int a4), none] [] H := by
  intro d
  induction d with
  | zero => intro a0 a1 a2 a3 a4 H h; cases h
  | succ d ih => intro a0 a1 a2 a3 a4 H h; exact tbX3_firstFault_50 (fun a0 a1 a2 a3 a4 H h => ih h) h
def FX3_firstFault  (a0 : Nat) (H : Hp) : Option (Int32 × Hp) :=
  bd (gI H a0 3 1) fun x1 =>
  if (x1 < 1 : Prop) then
    some (0, H)
  else
    bd (gA H a0 3 0) fun x2 =>
    bd (aI H x2 0 0) fun x3 =>
    if (x3 = 83 : Prop) then
      gp (isO H a0 3 = true) (
        bd2 (FX3_figure a0 1 H) fun x4 H5 =>
        if (x4 < 1 : Prop) then
          some (1, H5)
        else
          if (x4 ≤ 5 : Prop) then
            fX3_firstFault_50  4096 a0 x4 (2 + (2 * x4)) 0 2 H5
          else
            some (1, H5)
        )
    else
      some (0, H)
set_option maxHeartbeats 4000000 in
set_option maxRecDepth 100000 in
theorem tFX3_firstFault {G : GG} {r : Int32} {H' : Hp}   {a0 : Nat} {H : Hp} (h : FX3_firstFault  a0 H = some (r, H')) : Sn G (T0 G (some (.int r)) H') mX3_firstFault 0 [some (.ref a0), none, none, none, none, none] [] H := by
  unfold FX3_firstFault at h
  refine sn_blk _ kX3_firstFault_0_0 (pc' := 1) (L' := [some (.ref a0), none, none, none, none, none]) (st' := [.ref a0]) rfl rfl ?_
  obtain ⟨x1, hx1, h⟩ := bd_inv h
  refine sn_gI dX3_firstFault_1 foX3_15 hx1 ?_
  refine sn_blk _ kX3_firstFault_0_1 (pc' := 5) (L' := [some (.ref a0), none, none, none, none, none]) (st' := [.int 1, .int x1]) rfl rfl ?_
  refine sn_icmp_lt (tgt := 19) dX3_firstFault_5 (by decide) (fun c => ?_) (fun c => ?_)
  · rw [if_pos c] at h
    refine sn_blk _ kX3_firstFault_0_2 (pc' := 20) (L' := [some (.ref a0), none, none, none, none, none]) (st' := [.int 0]) rfl rfl ?_
    cases h
    exact sn_iret (ty := .int) dX3_firstFault_20 rfl rfl
  · rw [if_neg c] at h
    refine sn_blk _ kX3_firstFault_0_3 (pc' := 9) (L' := [some (.ref a0), none, none, none, none, none]) (st' := [.ref a0]) rfl rfl ?_
    obtain ⟨x2, hx2, h⟩ := bd_inv h
    refine sn_gA dX3_firstFault_9 foX3_11 hx2 ?_
    refine sn_blk _ kX3_firstFault_0_4 (pc' := 13) (L' := [some (.ref a0), none, none, none, none, none]) (st' := [.int 0, .ref x2]) rfl rfl ?_
    obtain ⟨x3, hx3, h⟩ := bd_inv h
    refine sn_iald dX3_firstFault_13 hx3 ?_
    refine sn_blk _ kX3_firstFault_0_5 (pc' := 16) (L' := [some (.ref a0), none, none, none, none, none]) (st' := [.int 83, .int x3]) rfl rfl ?_
    refine sn_icmp_eq (tgt := 21) dX3_firstFault_16 (by decide) (fun c => ?_) (fun c => ?_)
    · rw [if_pos c] at h
      refine sn_blk _ kX3_firstFault_0_6 (pc' := 23) (L' := [some (.ref a0), none, none, none, none, none]) (st' := [.int 1, .ref a0]) rfl rfl ?_
      obtain ⟨ho, h⟩ := gp_inv h
      obtain ⟨fs, ho⟩ := isO_inv ho
      obtain ⟨x4, H5, hx4, h⟩ := bd2_inv h
      refine sn_callv (av := [.int 1]) (st := []) (M2 := mX3_figure) dX3_firstFault_23 msX3_figure mlX3_19 rfl rfl rfl rfl rfl ho (sX3_figure hx4) ?_
      refine sn_blk _ kX3_firstFault_0_7 (pc' := 29) (L' := [some (.ref a0), some (.int x4), none, none, none, none]) (st' := [.int 1, .int x4]) rfl rfl ?_
      refine sn_icmp_lt (tgt := 37) dX3_firstFault_29 (by decide) (fun c => ?_) (fun c => ?_)
      · rw [if_pos c] at h
        refine sn_blk _ kX3_firstFault_0_8 (pc' := 38) (L' := [some (.ref a0), some (.int x4), none, none, none, none]) (st' := [.int 1]) rfl rfl ?_
        cases h
        exact sn_iret (ty := .int) dX3_firstFault_38 rfl rfl
      · rw [if_neg c] at h
        refine sn_blk _ kX3_firstFault_0_9 (pc' := 34) (L' := [some (.ref a0), some (.int x4), none, none, none, none]) (st' := [.int 5, .int x4]) rfl rfl ?_
        refine sn_icmp_le (tgt := 39) dX3_firstFault_34 (by decide) (fun c => ?_) (fun c => ?_)
        · rw [if_pos c] at h
          refine sn_blk _ kX3_firstFault_0_10 (pc' := 50) (L' := [some (.ref a0), some (.int x4), some (.int (2 + (2 * x4))), some (.int 0), some (.int 2), none]) (st' := []) rfl rfl ?_
          exact tfX3_firstFault_50  4096 h
        · rw [if_neg c] at h
          refine sn_blk _ kX3_firstFault_0_11 (pc' := 38) (L' := [some (.ref a0), some (.int x4), none, none, none, none]) (st' := [.int 1]) rfl rfl ?_
          cases h
          exact sn_iret (ty := .int) dX3_firstFault_38 rfl rfl
    · rw [if_neg c] at h
      refine sn_blk _ kX3_firstFault_0_12 (pc' := 20) (L' := [some (.ref a0), none, none, none, none, none]) (st' := [.int 0]) rfl rfl ?_
      cases h
      exact sn_iret (ty := .int) dX3_firstFault_20 rfl rfl
theorem sX3_firstFault {G : GG} {r : Int32} {H' : Hp} {a0 : Nat} {H : Hp} (h : FX3_firstFault a0 H = some (r, H')) : SM G mX3_firstFault [.ref a0] H (some (.int r)) H' := tFX3_firstFault h
/-! SquareFolds$Letters.rowFrom(II)I -/
theorem kX3_rowFrom_0_0 : decB cX3_rowFrom 0 [(.iconst 0, .int 0), (.istore_n 3, .null), (.iconst 0, .int 0), (.istore 4, .null)] = true := by decide +kernel
theorem kX3_rowFrom_5_0 : decB cX3_rowFrom 5 [(.iload 4, .null), (.iload_n 2, .null)] = true := by decide +kernel
theorem kX3_rowFrom_5_1 : decB cX3_rowFrom 32 [(.iload_n 3, .null)] = true := by decide +kernel
theorem kX3_rowFrom_5_2 : decB cX3_rowFrom 11 [(.iload_n 3, .null), (.iload 4, .null), (.aload_n 0, .null), (.iload_n 1, .null), (.iload 4, .null), (.iadd, .null)] = true := by decide +kernel
theorem kX3_rowFrom_5_3 : decB cX3_rowFrom 25 [(.istore_n 3, .null), (.iinc 4 1, .int 1), (.goto (-24), .retAddr 5)] = true := by decide +kernel
theorem dX3_rowFrom_8 : decode cX3_rowFrom 8 = .ok (.if_icmp .ge 24, 3) := by decide +kernel
theorem dX3_rowFrom_19 : decode cX3_rowFrom 19 = .ok (.invokevirtual 19, 3) := by decide +kernel
theorem dX3_rowFrom_22 : decode cX3_rowFrom 22 = .ok (.invokestatic 23, 3) := by decide +kernel
theorem dX3_rowFrom_33 : decode cX3_rowFrom 33 = .ok (.ireturn, 1) := by decide +kernel
def bX3_rowFrom_5 (K5 : Nat → Int32 → Int32 → Int32 → Int32 → Hp → Option (Int32 × Hp)) (a0 : Nat) (a1 : Int32) (a2 : Int32) (a3 : Int32) (a4 : Int32) (H : Hp) : Option (Int32 × Hp) :=
  if (a2 ≤ a4 : Prop) then
    some (a3, H)
  else
    gp (isO H a0 3 = true) (
      bd2 (FX3_figure a0 (a1 + a4) H) fun x1 H2 =>
      bd2 (FX6_put a3 a4 x1 H2) fun x3 H4 =>
      K5 a0 a1 a2 x3 (a4 + 1) H4
      )
set_option maxHeartbeats 4000000 in
set_option maxRecDepth 100000 in
theorem tbX3_rowFrom_5 {G : GG} {r : Int32} {H' : Hp} {K5 : Nat → Int32 → Int32 → Int32 → Int32 → Hp → Option (Int32 × Hp)} (hK5 : ∀ (a0 : Nat) (a1 : Int32) (a2 : Int32) (a3 : Int32) (a4 : Int32) (H : Hp), K5 a0 a1 a2 a3 a4 H = some (r, H') → Sn G (T0 G (some (.int r)) H') mX3_rowFrom 5 [some (.ref a0), some (.int a1), some (.int a2), some (.int a3), some (.int a4)] [] H) {a0 : Nat} {a1 : Int32} {a2 : Int32} {a3 : Int32} {a4 : Int32} {H : Hp} (h : bX3_rowFrom_5 K5 a0 a1 a2 a3 a4 H = some (r, H')) : Sn G (T0 G (some (.int r)) H') mX3_rowFrom 5 [some (.ref a0), some (.int a1), some (.int a2), some (.int a3), some (.int a4)] [] H := by
  unfold bX3_rowFrom_5 at h
  refine sn_blk _ kX3_rowFrom_5_0 (pc' := 8) (L' := [some (.ref a0), some (.int a1), some (.int a2), some (.int a3), some (.int a4)]) (st' := [.int a2, .int a4]) rfl rfl ?_
  refine sn_icmp_ge (tgt := 32) dX3_rowFrom_8 (by decide) (fun c => ?_) (fun c => ?_)
  · rw [if_pos c] at h
    refine sn_blk _ kX3_rowFrom_5_1 (pc' := 33) (L' := [some (.ref a0), some (.int a1), some (.int a2), some (.int a3), some (.int a4)]) (st' := [.int a3]) rfl rfl ?_
    cases h
    exact sn_iret (ty := .int) dX3_rowFrom_33 rfl rfl
  · rw [if_neg c] at h
    refine sn_blk _ kX3_rowFrom_5_2 (pc' := 19) (L' := [some (.ref a0), some (.int a1), some (.int a2), some (.int a3), some (.int a4)]) (st' := [.int (a1 + a4), .ref a0, .int a4, .int a3]) rfl rfl ?_
    obtain ⟨ho, h⟩ := gp_inv h
    obtain ⟨fs, ho⟩ := isO_inv ho
    obtain ⟨x1, H2, hx1, h⟩ := bd2_inv h
    refine sn_callv (av := [.int (a1 + a4)]) (st := [.int a4, .int a3]) (M2 := mX3_figure) dX3_rowFrom_19 msX3_figure mlX3_19 rfl rfl rfl rfl rfl ho (sX3_figure hx1) ?_
    obtain ⟨x3, H4, hx3, h⟩ := bd2_inv h
    refine sn_calls (av := [.int a3, .int a4, .int x1]) (st := []) (M2 := mX6_put) dX3_rowFrom_22 msX6_put mlX3_23 rfl rfl rfl rfl rfl (sX6_put hx3) ?_
    refine sn_blk _ kX3_rowFrom_5_3 (pc' := 5) (L' := [some (.ref a0), some (.int a1), some (.int a2), some (.int x3), some (.int (a4 + 1))]) (st' := []) rfl rfl ?_
    exact hK5 _ _ _ _ _ _ h
def fX3_rowFrom_5  : Nat → Nat → Int32 → Int32 → Int32 → Int32 → Hp → Option (Int32 × Hp)
  | 0, _, _, _, _, _, _ => none
  | d + 1, a0, a1, a2, a3, a4, H => bX3_rowFrom_5 (fX3_rowFrom_5  d) a0 a1 a2 a3 a4 H
theorem tfX3_rowFrom_5 {G : GG} {r : Int32} {H' : Hp}   : ∀ (d : Nat) {a0 : Nat} {a1 : Int32} {a2 : Int32} {a3 : Int32} {a4 : Int32} {H : Hp}, fX3_rowFrom_5  d a0 a1 a2 a3 a4 H = some (r, H') → Sn G (T0 G (some (.int r)) H') mX3_rowFrom 5 [some (.ref a0), some (.int a1), some (.int a2), some (.int a3), some (.int a4)] [] H := by
  intro d
  induction d with
  | zero => intro a0 a1 a2 a3 a4 H h; cases h
  | succ d ih => intro a0 a1 a2 a3 a4 H h; exact tbX3_rowFrom_5 (fun a0 a1 a2 a3 a4 H h => ih h) h
def FX3_rowFrom  (a0 : Nat) (a1 : Int32) (a2 : Int32) (H : Hp) : Option (Int32 × Hp) :=
  fX3_rowFrom_5  4096 a0 a1 a2 0 0 H
set_option maxHeartbeats 4000000 in
set_option maxRecDepth 100000 in
theorem tFX3_rowFrom {G : GG} {r : Int32} {H' : Hp}   {a0 : Nat} {a1 : Int32} {a2 : Int32} {H : Hp} (h : FX3_rowFrom  a0 a1 a2 H = some (r, H')) : Sn G (T0 G (some (.int r)) H') mX3_rowFrom 0 [some (.ref a0), some (.int a1), some (.int a2), none, none] [] H := by
  unfold FX3_rowFrom at h
  refine sn_blk _ kX3_rowFrom_0_0 (pc' := 5) (L' := [some (.ref a0), some (.int a1), some (.int a2), some (.int 0), some (.int 0)]) (st' := []) rfl rfl ?_
  exact tfX3_rowFrom_5  4096 h
theorem sX3_rowFrom {G : GG} {r : Int32} {H' : Hp} {a0 : Nat} {a1 : Int32} {a2 : Int32} {H : Hp} (h : FX3_rowFrom a0 a1 a2 H = some (r, H')) : SM G mX3_rowFrom [.ref a0, .int a1, .int a2] H (some (.int r)) H' := tFX3_rowFrom h
/-! SquareFolds$Slots.clear()V -/
theorem kX8_clear_0_0 : decB cX8_clear 0 [(.aload_n 0, .null), (.iconst 0, .int 0)] = true := by decide +kernel
theorem dX8_clear_2 : decode cX8_clear 2 = .ok (.putfield 16, 3) := by decide +kernel
theorem dX8_clear_5 : decode cX8_clear 5 = .ok (.return_, 1) := by decide +kernel
def FX8_clear  (a0 : Nat) (H : Hp) : Option (Unit × Hp) :=
  bd (pV H a0 7 2 (.int 0)) fun H1 =>
  some ((), H1)
set_option maxHeartbeats 4000000 in
set_option maxRecDepth 100000 in
theorem tFX8_clear {G : GG} {r : Unit} {H' : Hp}   {a0 : Nat} {H : Hp} (h : FX8_clear  a0 H = some (r, H')) : Sn G (T0 G none H') mX8_clear 0 [some (.ref a0)] [] H := by
  unfold FX8_clear at h
  refine sn_blk _ kX8_clear_0_0 (pc' := 2) (L' := [some (.ref a0)]) (st' := [.int 0, .ref a0]) rfl rfl ?_
  obtain ⟨H1, hH1, h⟩ := bd_inv h
  refine sn_pI dX8_clear_2 foX8_16 fpX8_2 hH1 ?_
  cases h
  exact sn_vret dX8_clear_5 rfl
theorem sX8_clear {G : GG} {r : Unit} {H' : Hp} {a0 : Nat} {H : Hp} (h : FX8_clear a0 H = some (r, H')) : SM G mX8_clear [.ref a0] H none H' := tFX8_clear h
/-! SquareFolds$Distinct.find(J)I -/
theorem kX0_find_0_0 : decB cX0_find 0 [(.iconst 0, .int 0), (.istore_n 3, .null)] = true := by decide +kernel
theorem kX0_find_2_0 : decB cX0_find 2 [(.iload_n 3, .null), (.aload_n 0, .null)] = true := by decide +kernel
theorem kX0_find_2_1 : decB cX0_find 36 [(.iconst (-1), .int (-1))] = true := by decide +kernel
theorem kX0_find_2_2 : decB cX0_find 10 [(.iload_n 3, .null), (.sipush 128, .int 128)] = true := by decide +kernel
theorem kX0_find_2_3 : decB cX0_find 36 [(.iconst (-1), .int (-1))] = true := by decide +kernel
theorem kX0_find_2_4 : decB cX0_find 17 [(.aload_n 0, .null)] = true := by decide +kernel
theorem kX0_find_2_5 : decB cX0_find 21 [(.iload_n 3, .null)] = true := by decide +kernel
theorem kX0_find_2_6 : decB cX0_find 23 [(.lload_n 1, .null), (.lcmp, .null)] = true := by decide +kernel
theorem kX0_find_2_7 : decB cX0_find 30 [(.iinc 3 1, .int 1), (.goto (-31), .retAddr 2)] = true := by decide +kernel
theorem kX0_find_2_8 : decB cX0_find 28 [(.iload_n 3, .null)] = true := by decide +kernel
theorem dX0_find_4 : decode cX0_find 4 = .ok (.getfield 13, 3) := by decide +kernel
theorem dX0_find_7 : decode cX0_find 7 = .ok (.if_icmp .ge 29, 3) := by decide +kernel
theorem dX0_find_14 : decode cX0_find 14 = .ok (.if_icmp .ge 22, 3) := by decide +kernel
theorem dX0_find_18 : decode cX0_find 18 = .ok (.getfield 9, 3) := by decide +kernel
theorem dX0_find_22 : decode cX0_find 22 = .ok (.laload, 1) := by decide +kernel
theorem dX0_find_25 : decode cX0_find 25 = .ok (.ifCond .ne 5, 3) := by decide +kernel
theorem dX0_find_29 : decode cX0_find 29 = .ok (.ireturn, 1) := by decide +kernel
theorem dX0_find_37 : decode cX0_find 37 = .ok (.ireturn, 1) := by decide +kernel
def bX0_find_2 (K2 : Nat → Int64 → Int32 → Hp → Option (Int32 × Hp)) (a0 : Nat) (a1 : Int64) (a3 : Int32) (H : Hp) : Option (Int32 × Hp) :=
  bd (gI H a0 0 1) fun x1 =>
  if (x1 ≤ a3 : Prop) then
    some ((-1), H)
  else
    if (128 ≤ a3 : Prop) then
      some ((-1), H)
    else
      bd (gA H a0 0 0) fun x2 =>
      bd (aJ H x2 a3) fun x3 =>
      if ((lg_cmp x3 a1) = 0 : Prop) then
        some (a3, H)
      else
        K2 a0 a1 (a3 + 1) H
set_option maxHeartbeats 4000000 in
set_option maxRecDepth 100000 in
theorem tbX0_find_2 {G : GG} {r : Int32} {H' : Hp} {K2 : Nat → Int64 → Int32 → Hp → Option (Int32 × Hp)} (hK2 : ∀ (a0 : Nat) (a1 : Int64) (a3 : Int32) (H : Hp), K2 a0 a1 a3 H = some (r, H') → Sn G (T0 G (some (.int r)) H') mX0_find 2 [some (.ref a0), some (.long a1), none, some (.int a3)] [] H) {a0 : Nat} {a1 : Int64} {a3 : Int32} {H : Hp} (h : bX0_find_2 K2 a0 a1 a3 H = some (r, H')) : Sn G (T0 G (some (.int r)) H') mX0_find 2 [some (.ref a0), some (.long a1), none, some (.int a3)] [] H := by
  unfold bX0_find_2 at h
  refine sn_blk _ kX0_find_2_0 (pc' := 4) (L' := [some (.ref a0), some (.long a1), none, some (.int a3)]) (st' := [.ref a0, .int a3]) rfl rfl ?_
  obtain ⟨x1, hx1, h⟩ := bd_inv h
  refine sn_gI dX0_find_4 foX0_13 hx1 ?_
  refine sn_icmp_ge (tgt := 36) dX0_find_7 (by decide) (fun c => ?_) (fun c => ?_)
  · rw [if_pos c] at h
    refine sn_blk _ kX0_find_2_1 (pc' := 37) (L' := [some (.ref a0), some (.long a1), none, some (.int a3)]) (st' := [.int (-1)]) rfl rfl ?_
    cases h
    exact sn_iret (ty := .int) dX0_find_37 rfl rfl
  · rw [if_neg c] at h
    refine sn_blk _ kX0_find_2_2 (pc' := 14) (L' := [some (.ref a0), some (.long a1), none, some (.int a3)]) (st' := [.int 128, .int a3]) rfl rfl ?_
    refine sn_icmp_ge (tgt := 36) dX0_find_14 (by decide) (fun c => ?_) (fun c => ?_)
    · rw [if_pos c] at h
      refine sn_blk _ kX0_find_2_3 (pc' := 37) (L' := [some (.ref a0), some (.long a1), none, some (.int a3)]) (st' := [.int (-1)]) rfl rfl ?_
      cases h
      exact sn_iret (ty := .int) dX0_find_37 rfl rfl
    · rw [if_neg c] at h
      refine sn_blk _ kX0_find_2_4 (pc' := 18) (L' := [some (.ref a0), some (.long a1), none, some (.int a3)]) (st' := [.ref a0]) rfl rfl ?_
      obtain ⟨x2, hx2, h⟩ := bd_inv h
      refine sn_gA dX0_find_18 foX0_9 hx2 ?_
      refine sn_blk _ kX0_find_2_5 (pc' := 22) (L' := [some (.ref a0), some (.long a1), none, some (.int a3)]) (st' := [.int a3, .ref x2]) rfl rfl ?_
      obtain ⟨x3, hx3, h⟩ := bd_inv h
      refine sn_lald dX0_find_22 hx3 ?_
      refine sn_blk _ kX0_find_2_6 (pc' := 25) (L' := [some (.ref a0), some (.long a1), none, some (.int a3)]) (st' := [.int (lg_cmp x3 a1)]) rfl rfl ?_
      refine sn_if_ne (tgt := 30) dX0_find_25 (by decide) (fun c => ?_) (fun c => ?_)
      · rw [if_neg c] at h
        refine sn_blk _ kX0_find_2_7 (pc' := 2) (L' := [some (.ref a0), some (.long a1), none, some (.int (a3 + 1))]) (st' := []) rfl rfl ?_
        exact hK2 _ _ _ _ h
      · rw [if_pos c] at h
        refine sn_blk _ kX0_find_2_8 (pc' := 29) (L' := [some (.ref a0), some (.long a1), none, some (.int a3)]) (st' := [.int a3]) rfl rfl ?_
        cases h
        exact sn_iret (ty := .int) dX0_find_29 rfl rfl
def fX0_find_2  : Nat → Nat → Int64 → Int32 → Hp → Option (Int32 × Hp)
  | 0, _, _, _, _ => none
  | d + 1, a0, a1, a3, H => bX0_find_2 (fX0_find_2  d) a0 a1 a3 H
theorem tfX0_find_2 {G : GG} {r : Int32} {H' : Hp}   : ∀ (d : Nat) {a0 : Nat} {a1 : Int64} {a3 : Int32} {H : Hp}, fX0_find_2  d a0 a1 a3 H = some (r, H') → Sn G (T0 G (some (.int r)) H') mX0_find 2 [some (.ref a0), some (.long a1), none, some (.int a3)] [] H := by
  intro d
  induction d with
  | zero => intro a0 a1 a3 H h; cases h
  | succ d ih => intro a0 a1 a3 H h; exact tbX0_find_2 (fun a0 a1 a3 H h => ih h) h
def FX0_find  (a0 : Nat) (a1 : Int64) (H : Hp) : Option (Int32 × Hp) :=
  fX0_find_2  4096 a0 a1 0 H
set_option maxHeartbeats 4000000 in
set_option maxRecDepth 100000 in
theorem tFX0_find {G : GG} {r : Int32} {H' : Hp}   {a0 : Nat} {a1 : Int64} {H : Hp} (h : FX0_find  a0 a1 H = some (r, H')) : Sn G (T0 G (some (.int r)) H') mX0_find 0 [some (.ref a0), some (.long a1), none, none] [] H := by
  unfold FX0_find at h
  refine sn_blk _ kX0_find_0_0 (pc' := 2) (L' := [some (.ref a0), some (.long a1), none, some (.int 0)]) (st' := []) rfl rfl ?_
  exact tfX0_find_2  4096 h
theorem sX0_find {G : GG} {r : Int32} {H' : Hp} {a0 : Nat} {a1 : Int64} {H : Hp} (h : FX0_find a0 a1 H = some (r, H')) : SM G mX0_find [.ref a0, .long a1] H (some (.int r)) H' := tFX0_find h
/-! SquareFolds$Distinct.placeOf(J)I -/
theorem kX0_placeOf_0_0 : decB cX0_placeOf 0 [(.aload_n 0, .null), (.lload_n 1, .null)] = true := by decide +kernel
theorem kX0_placeOf_0_1 : decB cX0_placeOf 5 [(.istore_n 3, .null), (.iload_n 3, .null)] = true := by decide +kernel
theorem kX0_placeOf_0_2 : decB cX0_placeOf 27 [(.iload_n 3, .null)] = true := by decide +kernel
theorem kX0_placeOf_0_3 : decB cX0_placeOf 10 [(.aload_n 0, .null)] = true := by decide +kernel
theorem kX0_placeOf_0_4 : decB cX0_placeOf 27 [(.iload_n 3, .null)] = true := by decide +kernel
theorem kX0_placeOf_0_5 : decB cX0_placeOf 17 [(.aload_n 0, .null)] = true := by decide +kernel
theorem kX0_placeOf_0_6 : decB cX0_placeOf 21 [(.sipush 128, .int 128)] = true := by decide +kernel
theorem kX0_placeOf_0_7 : decB cX0_placeOf 29 [(.aload_n 0, .null)] = true := by decide +kernel
theorem kX0_placeOf_0_8 : decB cX0_placeOf 33 [(.aload_n 0, .null)] = true := by decide +kernel
theorem kX0_placeOf_0_9 : decB cX0_placeOf 37 [(.lload_n 1, .null)] = true := by decide +kernel
theorem kX0_placeOf_0_10 : decB cX0_placeOf 39 [(.aload_n 0, .null), (.dup, .null)] = true := by decide +kernel
theorem kX0_placeOf_0_11 : decB cX0_placeOf 44 [(.iconst 1, .int 1), (.iadd, .null)] = true := by decide +kernel
theorem kX0_placeOf_0_12 : decB cX0_placeOf 49 [(.aload_n 0, .null)] = true := by decide +kernel
theorem kX0_placeOf_0_13 : decB cX0_placeOf 53 [(.iconst 1, .int 1), (.isub, .null)] = true := by decide +kernel
theorem kX0_placeOf_0_14 : decB cX0_placeOf 27 [(.iload_n 3, .null)] = true := by decide +kernel
theorem dX0_placeOf_2 : decode cX0_placeOf 2 = .ok (.invokevirtual 17, 3) := by decide +kernel
theorem dX0_placeOf_7 : decode cX0_placeOf 7 = .ok (.ifCond .ge 20, 3) := by decide +kernel
theorem dX0_placeOf_11 : decode cX0_placeOf 11 = .ok (.getfield 13, 3) := by decide +kernel
theorem dX0_placeOf_14 : decode cX0_placeOf 14 = .ok (.ifCond .lt 13, 3) := by decide +kernel
theorem dX0_placeOf_18 : decode cX0_placeOf 18 = .ok (.getfield 13, 3) := by decide +kernel
theorem dX0_placeOf_24 : decode cX0_placeOf 24 = .ok (.if_icmp .lt 5, 3) := by decide +kernel
theorem dX0_placeOf_28 : decode cX0_placeOf 28 = .ok (.ireturn, 1) := by decide +kernel
theorem dX0_placeOf_30 : decode cX0_placeOf 30 = .ok (.getfield 9, 3) := by decide +kernel
theorem dX0_placeOf_34 : decode cX0_placeOf 34 = .ok (.getfield 13, 3) := by decide +kernel
theorem dX0_placeOf_38 : decode cX0_placeOf 38 = .ok (.lastore, 1) := by decide +kernel
theorem dX0_placeOf_41 : decode cX0_placeOf 41 = .ok (.getfield 13, 3) := by decide +kernel
theorem dX0_placeOf_46 : decode cX0_placeOf 46 = .ok (.putfield 13, 3) := by decide +kernel
theorem dX0_placeOf_50 : decode cX0_placeOf 50 = .ok (.getfield 13, 3) := by decide +kernel
theorem dX0_placeOf_55 : decode cX0_placeOf 55 = .ok (.ireturn, 1) := by decide +kernel
def FX0_placeOf  (a0 : Nat) (a1 : Int64) (H : Hp) : Option (Int32 × Hp) :=
  gp (isO H a0 0 = true) (
    bd2 (FX0_find a0 a1 H) fun x1 H2 =>
    if (0 ≤ x1 : Prop) then
      some (x1, H2)
    else
      bd (gI H2 a0 0 1) fun x3 =>
      if (x3 < 0 : Prop) then
        some (x1, H2)
      else
        bd (gI H2 a0 0 1) fun x4 =>
        if (x4 < 128 : Prop) then
          bd (gA H2 a0 0 0) fun x5 =>
          bd (gI H2 a0 0 1) fun x6 =>
          bd (sJ H2 x5 x6 a1) fun H7 =>
          bd (gI H7 a0 0 1) fun x8 =>
          bd (pV H7 a0 0 1 (.int (x8 + 1))) fun H9 =>
          bd (gI H9 a0 0 1) fun x10 =>
          some ((x10 - 1), H9)
        else
          some (x1, H2)
    )
set_option maxHeartbeats 4000000 in
set_option maxRecDepth 100000 in
theorem tFX0_placeOf {G : GG} {r : Int32} {H' : Hp}   {a0 : Nat} {a1 : Int64} {H : Hp} (h : FX0_placeOf  a0 a1 H = some (r, H')) : Sn G (T0 G (some (.int r)) H') mX0_placeOf 0 [some (.ref a0), some (.long a1), none, none] [] H := by
  unfold FX0_placeOf at h
  refine sn_blk _ kX0_placeOf_0_0 (pc' := 2) (L' := [some (.ref a0), some (.long a1), none, none]) (st' := [.long a1, .ref a0]) rfl rfl ?_
  obtain ⟨ho, h⟩ := gp_inv h
  obtain ⟨fs, ho⟩ := isO_inv ho
  obtain ⟨x1, H2, hx1, h⟩ := bd2_inv h
  refine sn_callv (av := [.long a1]) (st := []) (M2 := mX0_find) dX0_placeOf_2 msX0_find mlX0_17 rfl rfl rfl rfl rfl ho (sX0_find hx1) ?_
  refine sn_blk _ kX0_placeOf_0_1 (pc' := 7) (L' := [some (.ref a0), some (.long a1), none, some (.int x1)]) (st' := [.int x1]) rfl rfl ?_
  refine sn_if_ge (tgt := 27) dX0_placeOf_7 (by decide) (fun c => ?_) (fun c => ?_)
  · rw [if_pos c] at h
    refine sn_blk _ kX0_placeOf_0_2 (pc' := 28) (L' := [some (.ref a0), some (.long a1), none, some (.int x1)]) (st' := [.int x1]) rfl rfl ?_
    cases h
    exact sn_iret (ty := .int) dX0_placeOf_28 rfl rfl
  · rw [if_neg c] at h
    refine sn_blk _ kX0_placeOf_0_3 (pc' := 11) (L' := [some (.ref a0), some (.long a1), none, some (.int x1)]) (st' := [.ref a0]) rfl rfl ?_
    obtain ⟨x3, hx3, h⟩ := bd_inv h
    refine sn_gI dX0_placeOf_11 foX0_13 hx3 ?_
    refine sn_if_lt (tgt := 27) dX0_placeOf_14 (by decide) (fun c => ?_) (fun c => ?_)
    · rw [if_pos c] at h
      refine sn_blk _ kX0_placeOf_0_4 (pc' := 28) (L' := [some (.ref a0), some (.long a1), none, some (.int x1)]) (st' := [.int x1]) rfl rfl ?_
      cases h
      exact sn_iret (ty := .int) dX0_placeOf_28 rfl rfl
    · rw [if_neg c] at h
      refine sn_blk _ kX0_placeOf_0_5 (pc' := 18) (L' := [some (.ref a0), some (.long a1), none, some (.int x1)]) (st' := [.ref a0]) rfl rfl ?_
      obtain ⟨x4, hx4, h⟩ := bd_inv h
      refine sn_gI dX0_placeOf_18 foX0_13 hx4 ?_
      refine sn_blk _ kX0_placeOf_0_6 (pc' := 24) (L' := [some (.ref a0), some (.long a1), none, some (.int x1)]) (st' := [.int 128, .int x4]) rfl rfl ?_
      refine sn_icmp_lt (tgt := 29) dX0_placeOf_24 (by decide) (fun c => ?_) (fun c => ?_)
      · rw [if_pos c] at h
        refine sn_blk _ kX0_placeOf_0_7 (pc' := 30) (L' := [some (.ref a0), some (.long a1), none, some (.int x1)]) (st' := [.ref a0]) rfl rfl ?_
        obtain ⟨x5, hx5, h⟩ := bd_inv h
        refine sn_gA dX0_placeOf_30 foX0_9 hx5 ?_
        refine sn_blk _ kX0_placeOf_0_8 (pc' := 34) (L' := [some (.ref a0), some (.long a1), none, some (.int x1)]) (st' := [.ref a0, .ref x5]) rfl rfl ?_
        obtain ⟨x6, hx6, h⟩ := bd_inv h
        refine sn_gI dX0_placeOf_34 foX0_13 hx6 ?_
        refine sn_blk _ kX0_placeOf_0_9 (pc' := 38) (L' := [some (.ref a0), some (.long a1), none, some (.int x1)]) (st' := [.long a1, .int x6, .ref x5]) rfl rfl ?_
        obtain ⟨H7, hH7, h⟩ := bd_inv h
        refine sn_last dX0_placeOf_38 hH7 ?_
        refine sn_blk _ kX0_placeOf_0_10 (pc' := 41) (L' := [some (.ref a0), some (.long a1), none, some (.int x1)]) (st' := [.ref a0, .ref a0]) rfl rfl ?_
        obtain ⟨x8, hx8, h⟩ := bd_inv h
        refine sn_gI dX0_placeOf_41 foX0_13 hx8 ?_
        refine sn_blk _ kX0_placeOf_0_11 (pc' := 46) (L' := [some (.ref a0), some (.long a1), none, some (.int x1)]) (st' := [.int (x8 + 1), .ref a0]) rfl rfl ?_
        obtain ⟨H9, hH9, h⟩ := bd_inv h
        refine sn_pI dX0_placeOf_46 foX0_13 fpX0_1 hH9 ?_
        refine sn_blk _ kX0_placeOf_0_12 (pc' := 50) (L' := [some (.ref a0), some (.long a1), none, some (.int x1)]) (st' := [.ref a0]) rfl rfl ?_
        obtain ⟨x10, hx10, h⟩ := bd_inv h
        refine sn_gI dX0_placeOf_50 foX0_13 hx10 ?_
        refine sn_blk _ kX0_placeOf_0_13 (pc' := 55) (L' := [some (.ref a0), some (.long a1), none, some (.int x1)]) (st' := [.int (x10 - 1)]) rfl rfl ?_
        cases h
        exact sn_iret (ty := .int) dX0_placeOf_55 rfl rfl
      · rw [if_neg c] at h
        refine sn_blk _ kX0_placeOf_0_14 (pc' := 28) (L' := [some (.ref a0), some (.long a1), none, some (.int x1)]) (st' := [.int x1]) rfl rfl ?_
        cases h
        exact sn_iret (ty := .int) dX0_placeOf_28 rfl rfl
theorem sX0_placeOf {G : GG} {r : Int32} {H' : Hp} {a0 : Nat} {a1 : Int64} {H : Hp} (h : FX0_placeOf a0 a1 H = some (r, H')) : SM G mX0_placeOf [.ref a0, .long a1] H (some (.int r)) H' := tFX0_placeOf h
/-! SquareFolds$Distinct.at(I)J -/
theorem kX0_at_0_0 : decB cX0_at 0 [(.iload_n 1, .null)] = true := by decide +kernel
theorem kX0_at_0_1 : decB cX0_at 20 [(.lconst 0, .long 0)] = true := by decide +kernel
theorem kX0_at_0_2 : decB cX0_at 4 [(.iload_n 1, .null), (.sipush 128, .int 128)] = true := by decide +kernel
theorem kX0_at_0_3 : decB cX0_at 20 [(.lconst 0, .long 0)] = true := by decide +kernel
theorem kX0_at_0_4 : decB cX0_at 11 [(.aload_n 0, .null)] = true := by decide +kernel
theorem kX0_at_0_5 : decB cX0_at 15 [(.iload_n 1, .null)] = true := by decide +kernel
theorem kX0_at_0_6 : decB cX0_at 17 [(.goto 4, .retAddr 21)] = true := by decide +kernel
theorem dX0_at_1 : decode cX0_at 1 = .ok (.ifCond .lt 19, 3) := by decide +kernel
theorem dX0_at_8 : decode cX0_at 8 = .ok (.if_icmp .ge 12, 3) := by decide +kernel
theorem dX0_at_12 : decode cX0_at 12 = .ok (.getfield 9, 3) := by decide +kernel
theorem dX0_at_16 : decode cX0_at 16 = .ok (.laload, 1) := by decide +kernel
theorem dX0_at_21 : decode cX0_at 21 = .ok (.lreturn, 1) := by decide +kernel
def FX0_at  (a0 : Nat) (a1 : Int32) (H : Hp) : Option (Int64 × Hp) :=
  if (a1 < 0 : Prop) then
    some (0, H)
  else
    if (128 ≤ a1 : Prop) then
      some (0, H)
    else
      bd (gA H a0 0 0) fun x1 =>
      bd (aJ H x1 a1) fun x2 =>
      some (x2, H)
set_option maxHeartbeats 4000000 in
set_option maxRecDepth 100000 in
theorem tFX0_at {G : GG} {r : Int64} {H' : Hp}   {a0 : Nat} {a1 : Int32} {H : Hp} (h : FX0_at  a0 a1 H = some (r, H')) : Sn G (T0 G (some (.long r)) H') mX0_at 0 [some (.ref a0), some (.int a1)] [] H := by
  unfold FX0_at at h
  refine sn_blk _ kX0_at_0_0 (pc' := 1) (L' := [some (.ref a0), some (.int a1)]) (st' := [.int a1]) rfl rfl ?_
  refine sn_if_lt (tgt := 20) dX0_at_1 (by decide) (fun c => ?_) (fun c => ?_)
  · rw [if_pos c] at h
    refine sn_blk _ kX0_at_0_1 (pc' := 21) (L' := [some (.ref a0), some (.int a1)]) (st' := [.long 0]) rfl rfl ?_
    cases h
    exact sn_lret dX0_at_21 rfl
  · rw [if_neg c] at h
    refine sn_blk _ kX0_at_0_2 (pc' := 8) (L' := [some (.ref a0), some (.int a1)]) (st' := [.int 128, .int a1]) rfl rfl ?_
    refine sn_icmp_ge (tgt := 20) dX0_at_8 (by decide) (fun c => ?_) (fun c => ?_)
    · rw [if_pos c] at h
      refine sn_blk _ kX0_at_0_3 (pc' := 21) (L' := [some (.ref a0), some (.int a1)]) (st' := [.long 0]) rfl rfl ?_
      cases h
      exact sn_lret dX0_at_21 rfl
    · rw [if_neg c] at h
      refine sn_blk _ kX0_at_0_4 (pc' := 12) (L' := [some (.ref a0), some (.int a1)]) (st' := [.ref a0]) rfl rfl ?_
      obtain ⟨x1, hx1, h⟩ := bd_inv h
      refine sn_gA dX0_at_12 foX0_9 hx1 ?_
      refine sn_blk _ kX0_at_0_5 (pc' := 16) (L' := [some (.ref a0), some (.int a1)]) (st' := [.int a1, .ref x1]) rfl rfl ?_
      obtain ⟨x2, hx2, h⟩ := bd_inv h
      refine sn_lald dX0_at_16 hx2 ?_
      refine sn_blk _ kX0_at_0_6 (pc' := 21) (L' := [some (.ref a0), some (.int a1)]) (st' := [.long x2]) rfl rfl ?_
      cases h
      exact sn_lret dX0_at_21 rfl
theorem sX0_at {G : GG} {r : Int64} {H' : Hp} {a0 : Nat} {a1 : Int32} {H : Hp} (h : FX0_at a0 a1 H = some (r, H')) : SM G mX0_at [.ref a0, .int a1] H (some (.long r)) H' := tFX0_at h
/-! SquareFolds$Past.add(II)V -/
theorem kX5_add_0_0 : decB cX5_add 0 [(.aload_n 0, .null)] = true := by decide +kernel
theorem kX5_add_0_1 : decB cX5_add 4 [(.bipush 14, .int 14)] = true := by decide +kernel
theorem kX5_add_0_2 : decB cX5_add 9 [(.aload_n 0, .null)] = true := by decide +kernel
theorem kX5_add_0_3 : decB cX5_add 13 [(.iconst 1, .int 1), (.aload_n 0, .null)] = true := by decide +kernel
theorem kX5_add_0_4 : decB cX5_add 18 [(.iconst 0, .int 0), (.bipush 13, .int 13)] = true := by decide +kernel
theorem kX5_add_0_5 : decB cX5_add 24 [(.aload_n 0, .null)] = true := by decide +kernel
theorem kX5_add_0_6 : decB cX5_add 28 [(.iconst 1, .int 1), (.aload_n 0, .null)] = true := by decide +kernel
theorem kX5_add_0_7 : decB cX5_add 33 [(.iconst 0, .int 0), (.bipush 13, .int 13)] = true := by decide +kernel
theorem kX5_add_0_8 : decB cX5_add 39 [(.aload_n 0, .null), (.bipush 13, .int 13)] = true := by decide +kernel
theorem kX5_add_45_0 : decB cX5_add 45 [(.aload_n 0, .null)] = true := by decide +kernel
theorem kX5_add_45_1 : decB cX5_add 52 [(.aload_n 0, .null)] = true := by decide +kernel
theorem kX5_add_45_2 : decB cX5_add 56 [(.aload_n 0, .null)] = true := by decide +kernel
theorem kX5_add_45_3 : decB cX5_add 60 [(.iload_n 1, .null)] = true := by decide +kernel
theorem kX5_add_45_4 : decB cX5_add 62 [(.aload_n 0, .null)] = true := by decide +kernel
theorem kX5_add_45_5 : decB cX5_add 66 [(.aload_n 0, .null)] = true := by decide +kernel
theorem kX5_add_45_6 : decB cX5_add 70 [(.iload_n 2, .null)] = true := by decide +kernel
theorem kX5_add_45_7 : decB cX5_add 72 [(.aload_n 0, .null), (.dup, .null)] = true := by decide +kernel
theorem kX5_add_45_8 : decB cX5_add 77 [(.iconst 1, .int 1), (.iadd, .null)] = true := by decide +kernel
theorem dX5_add_1 : decode cX5_add 1 = .ok (.getfield 16, 3) := by decide +kernel
theorem dX5_add_6 : decode cX5_add 6 = .ok (.if_icmp .lt 39, 3) := by decide +kernel
theorem dX5_add_10 : decode cX5_add 10 = .ok (.getfield 9, 3) := by decide +kernel
theorem dX5_add_15 : decode cX5_add 15 = .ok (.getfield 9, 3) := by decide +kernel
theorem dX5_add_21 : decode cX5_add 21 = .ok (.invokestatic 20, 3) := by decide +kernel
theorem dX5_add_25 : decode cX5_add 25 = .ok (.getfield 13, 3) := by decide +kernel
theorem dX5_add_30 : decode cX5_add 30 = .ok (.getfield 13, 3) := by decide +kernel
theorem dX5_add_36 : decode cX5_add 36 = .ok (.invokestatic 20, 3) := by decide +kernel
theorem dX5_add_42 : decode cX5_add 42 = .ok (.putfield 16, 3) := by decide +kernel
theorem dX5_add_46 : decode cX5_add 46 = .ok (.getfield 16, 3) := by decide +kernel
theorem dX5_add_49 : decode cX5_add 49 = .ok (.ifCond .lt 33, 3) := by decide +kernel
theorem dX5_add_53 : decode cX5_add 53 = .ok (.getfield 9, 3) := by decide +kernel
theorem dX5_add_57 : decode cX5_add 57 = .ok (.getfield 16, 3) := by decide +kernel
theorem dX5_add_61 : decode cX5_add 61 = .ok (.iastore, 1) := by decide +kernel
theorem dX5_add_63 : decode cX5_add 63 = .ok (.getfield 13, 3) := by decide +kernel
theorem dX5_add_67 : decode cX5_add 67 = .ok (.getfield 16, 3) := by decide +kernel
theorem dX5_add_71 : decode cX5_add 71 = .ok (.iastore, 1) := by decide +kernel
theorem dX5_add_74 : decode cX5_add 74 = .ok (.getfield 16, 3) := by decide +kernel
theorem dX5_add_79 : decode cX5_add 79 = .ok (.putfield 16, 3) := by decide +kernel
theorem dX5_add_82 : decode cX5_add 82 = .ok (.return_, 1) := by decide +kernel
def fX5_add_45  (a0 : Nat) (a1 : Int32) (a2 : Int32) (H : Hp) : Option (Unit × Hp) :=
  bd (gI H a0 5 2) fun x1 =>
  if (x1 < 0 : Prop) then
    some ((), H)
  else
    bd (gA H a0 5 0) fun x2 =>
    bd (gI H a0 5 2) fun x3 =>
    bd (sI H x2 0 x3 a1) fun H4 =>
    bd (gA H4 a0 5 1) fun x5 =>
    bd (gI H4 a0 5 2) fun x6 =>
    bd (sI H4 x5 0 x6 a2) fun H7 =>
    bd (gI H7 a0 5 2) fun x8 =>
    bd (pV H7 a0 5 2 (.int (x8 + 1))) fun H9 =>
    some ((), H9)
set_option maxHeartbeats 4000000 in
set_option maxRecDepth 100000 in
theorem tfX5_add_45 {G : GG} {r : Unit} {H' : Hp}   {a0 : Nat} {a1 : Int32} {a2 : Int32} {H : Hp} (h : fX5_add_45  a0 a1 a2 H = some (r, H')) : Sn G (T0 G none H') mX5_add 45 [some (.ref a0), some (.int a1), some (.int a2)] [] H := by
  unfold fX5_add_45 at h
  refine sn_blk _ kX5_add_45_0 (pc' := 46) (L' := [some (.ref a0), some (.int a1), some (.int a2)]) (st' := [.ref a0]) rfl rfl ?_
  obtain ⟨x1, hx1, h⟩ := bd_inv h
  refine sn_gI dX5_add_46 foX5_16 hx1 ?_
  refine sn_if_lt (tgt := 82) dX5_add_49 (by decide) (fun c => ?_) (fun c => ?_)
  · rw [if_pos c] at h
    cases h
    exact sn_vret dX5_add_82 rfl
  · rw [if_neg c] at h
    refine sn_blk _ kX5_add_45_1 (pc' := 53) (L' := [some (.ref a0), some (.int a1), some (.int a2)]) (st' := [.ref a0]) rfl rfl ?_
    obtain ⟨x2, hx2, h⟩ := bd_inv h
    refine sn_gA dX5_add_53 foX5_9 hx2 ?_
    refine sn_blk _ kX5_add_45_2 (pc' := 57) (L' := [some (.ref a0), some (.int a1), some (.int a2)]) (st' := [.ref a0, .ref x2]) rfl rfl ?_
    obtain ⟨x3, hx3, h⟩ := bd_inv h
    refine sn_gI dX5_add_57 foX5_16 hx3 ?_
    refine sn_blk _ kX5_add_45_3 (pc' := 61) (L' := [some (.ref a0), some (.int a1), some (.int a2)]) (st' := [.int a1, .int x3, .ref x2]) rfl rfl ?_
    obtain ⟨H4, hH4, h⟩ := bd_inv h
    refine sn_iast dX5_add_61 hH4 ?_
    refine sn_blk _ kX5_add_45_4 (pc' := 63) (L' := [some (.ref a0), some (.int a1), some (.int a2)]) (st' := [.ref a0]) rfl rfl ?_
    obtain ⟨x5, hx5, h⟩ := bd_inv h
    refine sn_gA dX5_add_63 foX5_13 hx5 ?_
    refine sn_blk _ kX5_add_45_5 (pc' := 67) (L' := [some (.ref a0), some (.int a1), some (.int a2)]) (st' := [.ref a0, .ref x5]) rfl rfl ?_
    obtain ⟨x6, hx6, h⟩ := bd_inv h
    refine sn_gI dX5_add_67 foX5_16 hx6 ?_
    refine sn_blk _ kX5_add_45_6 (pc' := 71) (L' := [some (.ref a0), some (.int a1), some (.int a2)]) (st' := [.int a2, .int x6, .ref x5]) rfl rfl ?_
    obtain ⟨H7, hH7, h⟩ := bd_inv h
    refine sn_iast dX5_add_71 hH7 ?_
    refine sn_blk _ kX5_add_45_7 (pc' := 74) (L' := [some (.ref a0), some (.int a1), some (.int a2)]) (st' := [.ref a0, .ref a0]) rfl rfl ?_
    obtain ⟨x8, hx8, h⟩ := bd_inv h
    refine sn_gI dX5_add_74 foX5_16 hx8 ?_
    refine sn_blk _ kX5_add_45_8 (pc' := 79) (L' := [some (.ref a0), some (.int a1), some (.int a2)]) (st' := [.int (x8 + 1), .ref a0]) rfl rfl ?_
    obtain ⟨H9, hH9, h⟩ := bd_inv h
    refine sn_pI dX5_add_79 foX5_16 fpX5_2 hH9 ?_
    cases h
    exact sn_vret dX5_add_82 rfl
def FX5_add  (a0 : Nat) (a1 : Int32) (a2 : Int32) (H : Hp) : Option (Unit × Hp) :=
  bd (gI H a0 5 2) fun x1 =>
  if (x1 < 14 : Prop) then
    fX5_add_45  a0 a1 a2 H
  else
    bd (gA H a0 5 0) fun x2 =>
    bd (gA H a0 5 0) fun x3 =>
    gp (x2 = x3) (
      bd (cpI H x3 1 0 13) fun H4 =>
      bd (gA H4 a0 5 1) fun x5 =>
      bd (gA H4 a0 5 1) fun x6 =>
      gp (x5 = x6) (
        bd (cpI H4 x6 1 0 13) fun H7 =>
        bd (pV H7 a0 5 2 (.int 13)) fun H8 =>
        fX5_add_45  a0 a1 a2 H8
        )
      )
set_option maxHeartbeats 4000000 in
set_option maxRecDepth 100000 in
theorem tFX5_add {G : GG} {r : Unit} {H' : Hp}   {a0 : Nat} {a1 : Int32} {a2 : Int32} {H : Hp} (h : FX5_add  a0 a1 a2 H = some (r, H')) : Sn G (T0 G none H') mX5_add 0 [some (.ref a0), some (.int a1), some (.int a2)] [] H := by
  unfold FX5_add at h
  refine sn_blk _ kX5_add_0_0 (pc' := 1) (L' := [some (.ref a0), some (.int a1), some (.int a2)]) (st' := [.ref a0]) rfl rfl ?_
  obtain ⟨x1, hx1, h⟩ := bd_inv h
  refine sn_gI dX5_add_1 foX5_16 hx1 ?_
  refine sn_blk _ kX5_add_0_1 (pc' := 6) (L' := [some (.ref a0), some (.int a1), some (.int a2)]) (st' := [.int 14, .int x1]) rfl rfl ?_
  refine sn_icmp_lt (tgt := 45) dX5_add_6 (by decide) (fun c => ?_) (fun c => ?_)
  · rw [if_pos c] at h
    exact tfX5_add_45  h
  · rw [if_neg c] at h
    refine sn_blk _ kX5_add_0_2 (pc' := 10) (L' := [some (.ref a0), some (.int a1), some (.int a2)]) (st' := [.ref a0]) rfl rfl ?_
    obtain ⟨x2, hx2, h⟩ := bd_inv h
    refine sn_gA dX5_add_10 foX5_9 hx2 ?_
    refine sn_blk _ kX5_add_0_3 (pc' := 15) (L' := [some (.ref a0), some (.int a1), some (.int a2)]) (st' := [.ref a0, .int 1, .ref x2]) rfl rfl ?_
    obtain ⟨x3, hx3, h⟩ := bd_inv h
    refine sn_gA dX5_add_15 foX5_9 hx3 ?_
    refine sn_blk _ kX5_add_0_4 (pc' := 21) (L' := [some (.ref a0), some (.int a1), some (.int a2)]) (st' := [.int 13, .int 0, .ref x3, .int 1, .ref x2]) rfl rfl ?_
    obtain ⟨hq, h⟩ := gp_inv h
    subst hq
    obtain ⟨H4, hH4, h⟩ := bd_inv h
    refine sn_copy dX5_add_21 mlX5_20 (gW_at 447 (by decide +kernel)) (gW_at 446 (by decide +kernel)) (gW_at 42 (by decide +kernel)) (by decide +kernel) hH4 ?_
    refine sn_blk _ kX5_add_0_5 (pc' := 25) (L' := [some (.ref a0), some (.int a1), some (.int a2)]) (st' := [.ref a0]) rfl rfl ?_
    obtain ⟨x5, hx5, h⟩ := bd_inv h
    refine sn_gA dX5_add_25 foX5_13 hx5 ?_
    refine sn_blk _ kX5_add_0_6 (pc' := 30) (L' := [some (.ref a0), some (.int a1), some (.int a2)]) (st' := [.ref a0, .int 1, .ref x5]) rfl rfl ?_
    obtain ⟨x6, hx6, h⟩ := bd_inv h
    refine sn_gA dX5_add_30 foX5_13 hx6 ?_
    refine sn_blk _ kX5_add_0_7 (pc' := 36) (L' := [some (.ref a0), some (.int a1), some (.int a2)]) (st' := [.int 13, .int 0, .ref x6, .int 1, .ref x5]) rfl rfl ?_
    obtain ⟨hq, h⟩ := gp_inv h
    subst hq
    obtain ⟨H7, hH7, h⟩ := bd_inv h
    refine sn_copy dX5_add_36 mlX5_20 (gW_at 447 (by decide +kernel)) (gW_at 446 (by decide +kernel)) (gW_at 42 (by decide +kernel)) (by decide +kernel) hH7 ?_
    refine sn_blk _ kX5_add_0_8 (pc' := 42) (L' := [some (.ref a0), some (.int a1), some (.int a2)]) (st' := [.int 13, .ref a0]) rfl rfl ?_
    obtain ⟨H8, hH8, h⟩ := bd_inv h
    refine sn_pI dX5_add_42 foX5_16 fpX5_2 hH8 ?_
    exact tfX5_add_45  h
theorem sX5_add {G : GG} {r : Unit} {H' : Hp} {a0 : Nat} {a1 : Int32} {a2 : Int32} {H : Hp} (h : FX5_add a0 a1 a2 H = some (r, H')) : SM G mX5_add [.ref a0, .int a1, .int a2] H none H' := tFX5_add h
/-! SquareFolds$Past.rightAt(I)I -/
theorem kX5_rightAt_0_0 : decB cX5_rightAt 0 [(.iload_n 1, .null)] = true := by decide +kernel
theorem kX5_rightAt_0_1 : decB cX5_rightAt 19 [(.iconst 0, .int 0)] = true := by decide +kernel
theorem kX5_rightAt_0_2 : decB cX5_rightAt 4 [(.iload_n 1, .null), (.bipush 14, .int 14)] = true := by decide +kernel
theorem kX5_rightAt_0_3 : decB cX5_rightAt 19 [(.iconst 0, .int 0)] = true := by decide +kernel
theorem kX5_rightAt_0_4 : decB cX5_rightAt 10 [(.aload_n 0, .null)] = true := by decide +kernel
theorem kX5_rightAt_0_5 : decB cX5_rightAt 14 [(.iload_n 1, .null)] = true := by decide +kernel
theorem kX5_rightAt_0_6 : decB cX5_rightAt 16 [(.goto 4, .retAddr 20)] = true := by decide +kernel
theorem dX5_rightAt_1 : decode cX5_rightAt 1 = .ok (.ifCond .lt 18, 3) := by decide +kernel
theorem dX5_rightAt_7 : decode cX5_rightAt 7 = .ok (.if_icmp .ge 12, 3) := by decide +kernel
theorem dX5_rightAt_11 : decode cX5_rightAt 11 = .ok (.getfield 9, 3) := by decide +kernel
theorem dX5_rightAt_15 : decode cX5_rightAt 15 = .ok (.iaload, 1) := by decide +kernel
theorem dX5_rightAt_20 : decode cX5_rightAt 20 = .ok (.ireturn, 1) := by decide +kernel
def FX5_rightAt  (a0 : Nat) (a1 : Int32) (H : Hp) : Option (Int32 × Hp) :=
  if (a1 < 0 : Prop) then
    some (0, H)
  else
    if (14 ≤ a1 : Prop) then
      some (0, H)
    else
      bd (gA H a0 5 0) fun x1 =>
      bd (aI H x1 0 a1) fun x2 =>
      some (x2, H)
set_option maxHeartbeats 4000000 in
set_option maxRecDepth 100000 in
theorem tFX5_rightAt {G : GG} {r : Int32} {H' : Hp}   {a0 : Nat} {a1 : Int32} {H : Hp} (h : FX5_rightAt  a0 a1 H = some (r, H')) : Sn G (T0 G (some (.int r)) H') mX5_rightAt 0 [some (.ref a0), some (.int a1)] [] H := by
  unfold FX5_rightAt at h
  refine sn_blk _ kX5_rightAt_0_0 (pc' := 1) (L' := [some (.ref a0), some (.int a1)]) (st' := [.int a1]) rfl rfl ?_
  refine sn_if_lt (tgt := 19) dX5_rightAt_1 (by decide) (fun c => ?_) (fun c => ?_)
  · rw [if_pos c] at h
    refine sn_blk _ kX5_rightAt_0_1 (pc' := 20) (L' := [some (.ref a0), some (.int a1)]) (st' := [.int 0]) rfl rfl ?_
    cases h
    exact sn_iret (ty := .int) dX5_rightAt_20 rfl rfl
  · rw [if_neg c] at h
    refine sn_blk _ kX5_rightAt_0_2 (pc' := 7) (L' := [some (.ref a0), some (.int a1)]) (st' := [.int 14, .int a1]) rfl rfl ?_
    refine sn_icmp_ge (tgt := 19) dX5_rightAt_7 (by decide) (fun c => ?_) (fun c => ?_)
    · rw [if_pos c] at h
      refine sn_blk _ kX5_rightAt_0_3 (pc' := 20) (L' := [some (.ref a0), some (.int a1)]) (st' := [.int 0]) rfl rfl ?_
      cases h
      exact sn_iret (ty := .int) dX5_rightAt_20 rfl rfl
    · rw [if_neg c] at h
      refine sn_blk _ kX5_rightAt_0_4 (pc' := 11) (L' := [some (.ref a0), some (.int a1)]) (st' := [.ref a0]) rfl rfl ?_
      obtain ⟨x1, hx1, h⟩ := bd_inv h
      refine sn_gA dX5_rightAt_11 foX5_9 hx1 ?_
      refine sn_blk _ kX5_rightAt_0_5 (pc' := 15) (L' := [some (.ref a0), some (.int a1)]) (st' := [.int a1, .ref x1]) rfl rfl ?_
      obtain ⟨x2, hx2, h⟩ := bd_inv h
      refine sn_iald dX5_rightAt_15 hx2 ?_
      refine sn_blk _ kX5_rightAt_0_6 (pc' := 20) (L' := [some (.ref a0), some (.int a1)]) (st' := [.int x2]) rfl rfl ?_
      cases h
      exact sn_iret (ty := .int) dX5_rightAt_20 rfl rfl
theorem sX5_rightAt {G : GG} {r : Int32} {H' : Hp} {a0 : Nat} {a1 : Int32} {H : Hp} (h : FX5_rightAt a0 a1 H = some (r, H')) : SM G mX5_rightAt [.ref a0, .int a1] H (some (.int r)) H' := tFX5_rightAt h
/-! SquareFolds$Past.upAt(I)I -/
theorem kX5_upAt_0_0 : decB cX5_upAt 0 [(.iload_n 1, .null)] = true := by decide +kernel
theorem kX5_upAt_0_1 : decB cX5_upAt 19 [(.iconst 0, .int 0)] = true := by decide +kernel
theorem kX5_upAt_0_2 : decB cX5_upAt 4 [(.iload_n 1, .null), (.bipush 14, .int 14)] = true := by decide +kernel
theorem kX5_upAt_0_3 : decB cX5_upAt 19 [(.iconst 0, .int 0)] = true := by decide +kernel
theorem kX5_upAt_0_4 : decB cX5_upAt 10 [(.aload_n 0, .null)] = true := by decide +kernel
theorem kX5_upAt_0_5 : decB cX5_upAt 14 [(.iload_n 1, .null)] = true := by decide +kernel
theorem kX5_upAt_0_6 : decB cX5_upAt 16 [(.goto 4, .retAddr 20)] = true := by decide +kernel
theorem dX5_upAt_1 : decode cX5_upAt 1 = .ok (.ifCond .lt 18, 3) := by decide +kernel
theorem dX5_upAt_7 : decode cX5_upAt 7 = .ok (.if_icmp .ge 12, 3) := by decide +kernel
theorem dX5_upAt_11 : decode cX5_upAt 11 = .ok (.getfield 13, 3) := by decide +kernel
theorem dX5_upAt_15 : decode cX5_upAt 15 = .ok (.iaload, 1) := by decide +kernel
theorem dX5_upAt_20 : decode cX5_upAt 20 = .ok (.ireturn, 1) := by decide +kernel
def FX5_upAt  (a0 : Nat) (a1 : Int32) (H : Hp) : Option (Int32 × Hp) :=
  if (a1 < 0 : Prop) then
    some (0, H)
  else
    if (14 ≤ a1 : Prop) then
      some (0, H)
    else
      bd (gA H a0 5 1) fun x1 =>
      bd (aI H x1 0 a1) fun x2 =>
      some (x2, H)
set_option maxHeartbeats 4000000 in
set_option maxRecDepth 100000 in
theorem tFX5_upAt {G : GG} {r : Int32} {H' : Hp}   {a0 : Nat} {a1 : Int32} {H : Hp} (h : FX5_upAt  a0 a1 H = some (r, H')) : Sn G (T0 G (some (.int r)) H') mX5_upAt 0 [some (.ref a0), some (.int a1)] [] H := by
  unfold FX5_upAt at h
  refine sn_blk _ kX5_upAt_0_0 (pc' := 1) (L' := [some (.ref a0), some (.int a1)]) (st' := [.int a1]) rfl rfl ?_
  refine sn_if_lt (tgt := 19) dX5_upAt_1 (by decide) (fun c => ?_) (fun c => ?_)
  · rw [if_pos c] at h
    refine sn_blk _ kX5_upAt_0_1 (pc' := 20) (L' := [some (.ref a0), some (.int a1)]) (st' := [.int 0]) rfl rfl ?_
    cases h
    exact sn_iret (ty := .int) dX5_upAt_20 rfl rfl
  · rw [if_neg c] at h
    refine sn_blk _ kX5_upAt_0_2 (pc' := 7) (L' := [some (.ref a0), some (.int a1)]) (st' := [.int 14, .int a1]) rfl rfl ?_
    refine sn_icmp_ge (tgt := 19) dX5_upAt_7 (by decide) (fun c => ?_) (fun c => ?_)
    · rw [if_pos c] at h
      refine sn_blk _ kX5_upAt_0_3 (pc' := 20) (L' := [some (.ref a0), some (.int a1)]) (st' := [.int 0]) rfl rfl ?_
      cases h
      exact sn_iret (ty := .int) dX5_upAt_20 rfl rfl
    · rw [if_neg c] at h
      refine sn_blk _ kX5_upAt_0_4 (pc' := 11) (L' := [some (.ref a0), some (.int a1)]) (st' := [.ref a0]) rfl rfl ?_
      obtain ⟨x1, hx1, h⟩ := bd_inv h
      refine sn_gA dX5_upAt_11 foX5_13 hx1 ?_
      refine sn_blk _ kX5_upAt_0_5 (pc' := 15) (L' := [some (.ref a0), some (.int a1)]) (st' := [.int a1, .ref x1]) rfl rfl ?_
      obtain ⟨x2, hx2, h⟩ := bd_inv h
      refine sn_iald dX5_upAt_15 hx2 ?_
      refine sn_blk _ kX5_upAt_0_6 (pc' := 20) (L' := [some (.ref a0), some (.int a1)]) (st' := [.int x2]) rfl rfl ?_
      cases h
      exact sn_iret (ty := .int) dX5_upAt_20 rfl rfl
theorem sX5_upAt {G : GG} {r : Int32} {H' : Hp} {a0 : Nat} {a1 : Int32} {H : Hp} (h : FX5_upAt a0 a1 H = some (r, H')) : SM G mX5_upAt [.ref a0, .int a1] H (some (.int r)) H' := tFX5_upAt h
/-! SquareFolds$Fraction.measure(II)I -/
theorem kX1_measure_0_0 : decB cX1_measure 0 [(.iload_n 0, .null), (.istore_n 2, .null), (.iload_n 1, .null), (.istore_n 3, .null), (.iconst 0, .int 0), (.istore 4, .null)] = true := by decide +kernel
theorem kX1_measure_7_0 : decB cX1_measure 7 [(.iload 4, .null), (.bipush 100, .int 100)] = true := by decide +kernel
theorem kX1_measure_7_1 : decB cX1_measure 34 [(.iload_n 2, .null)] = true := by decide +kernel
theorem kX1_measure_7_2 : decB cX1_measure 14 [(.iload_n 3, .null)] = true := by decide +kernel
theorem kX1_measure_7_3 : decB cX1_measure 34 [(.iload_n 2, .null)] = true := by decide +kernel
theorem kX1_measure_7_4 : decB cX1_measure 18 [(.iload_n 2, .null), (.iload_n 3, .null)] = true := by decide +kernel
theorem kX1_measure_7_5 : decB cX1_measure 21 [(.istore 5, .null), (.iload_n 3, .null), (.istore_n 2, .null), (.iload 5, .null), (.istore_n 3, .null), (.iinc 4 1, .int 1), (.goto (-24), .retAddr 7)] = true := by decide +kernel
theorem dX1_measure_11 : decode cX1_measure 11 = .ok (.if_icmp .ge 23, 3) := by decide +kernel
theorem dX1_measure_15 : decode cX1_measure 15 = .ok (.ifCond .eq 19, 3) := by decide +kernel
theorem dX1_measure_20 : decode cX1_measure 20 = .ok (.irem, 1) := by decide +kernel
theorem dX1_measure_35 : decode cX1_measure 35 = .ok (.ireturn, 1) := by decide +kernel
def bX1_measure_7 (K7 : Int32 → Int32 → Int32 → Hp → Option (Int32 × Hp)) (a2 : Int32) (a3 : Int32) (a4 : Int32) (H : Hp) : Option (Int32 × Hp) :=
  if (100 ≤ a4 : Prop) then
    some (a2, H)
  else
    if (a3 = 0 : Prop) then
      some (a2, H)
    else
      gp (¬ a3 = 0) (
        K7 a3 (rI a2 a3) (a4 + 1) H
        )
set_option maxHeartbeats 4000000 in
set_option maxRecDepth 100000 in
theorem tbX1_measure_7 {G : GG} {r : Int32} {H' : Hp} {K7 : Int32 → Int32 → Int32 → Hp → Option (Int32 × Hp)} (hK7 : ∀ (a2 : Int32) (a3 : Int32) (a4 : Int32) (H : Hp), K7 a2 a3 a4 H = some (r, H') → Sn G (T0 G (some (.int r)) H') mX1_measure 7 [none, none, some (.int a2), some (.int a3), some (.int a4), none] [] H) {a2 : Int32} {a3 : Int32} {a4 : Int32} {H : Hp} (h : bX1_measure_7 K7 a2 a3 a4 H = some (r, H')) : Sn G (T0 G (some (.int r)) H') mX1_measure 7 [none, none, some (.int a2), some (.int a3), some (.int a4), none] [] H := by
  unfold bX1_measure_7 at h
  refine sn_blk _ kX1_measure_7_0 (pc' := 11) (L' := [none, none, some (.int a2), some (.int a3), some (.int a4), none]) (st' := [.int 100, .int a4]) rfl rfl ?_
  refine sn_icmp_ge (tgt := 34) dX1_measure_11 (by decide) (fun c => ?_) (fun c => ?_)
  · rw [if_pos c] at h
    refine sn_blk _ kX1_measure_7_1 (pc' := 35) (L' := [none, none, some (.int a2), some (.int a3), some (.int a4), none]) (st' := [.int a2]) rfl rfl ?_
    cases h
    exact sn_iret (ty := .int) dX1_measure_35 rfl rfl
  · rw [if_neg c] at h
    refine sn_blk _ kX1_measure_7_2 (pc' := 15) (L' := [none, none, some (.int a2), some (.int a3), some (.int a4), none]) (st' := [.int a3]) rfl rfl ?_
    refine sn_if_eq (tgt := 34) dX1_measure_15 (by decide) (fun c => ?_) (fun c => ?_)
    · rw [if_pos c] at h
      refine sn_blk _ kX1_measure_7_3 (pc' := 35) (L' := [none, none, some (.int a2), some (.int a3), some (.int a4), none]) (st' := [.int a2]) rfl rfl ?_
      cases h
      exact sn_iret (ty := .int) dX1_measure_35 rfl rfl
    · rw [if_neg c] at h
      refine sn_blk _ kX1_measure_7_4 (pc' := 20) (L' := [none, none, some (.int a2), some (.int a3), some (.int a4), none]) (st' := [.int a3, .int a2]) rfl rfl ?_
      obtain ⟨hy, h⟩ := gp_inv h
      refine sn_irem dX1_measure_20 hy ?_
      refine sn_blk _ kX1_measure_7_5 (pc' := 7) (L' := [none, none, some (.int a3), some (.int (rI a2 a3)), some (.int (a4 + 1)), some (.int (rI a2 a3))]) (st' := []) rfl rfl ?_
      refine sn_msk [true, true, true, true, true, false] (L2 := [none, none, some (.int a3), some (.int (rI a2 a3)), some (.int (a4 + 1)), none]) rfl ?_
      exact hK7 _ _ _ _ h
def fX1_measure_7  : Nat → Int32 → Int32 → Int32 → Hp → Option (Int32 × Hp)
  | 0, _, _, _, _ => none
  | d + 1, a2, a3, a4, H => bX1_measure_7 (fX1_measure_7  d) a2 a3 a4 H
theorem tfX1_measure_7 {G : GG} {r : Int32} {H' : Hp}   : ∀ (d : Nat) {a2 : Int32} {a3 : Int32} {a4 : Int32} {H : Hp}, fX1_measure_7  d a2 a3 a4 H = some (r, H') → Sn G (T0 G (some (.int r)) H') mX1_measure 7 [none, none, some (.int a2), some (.int a3), some (.int a4), none] [] H := by
  intro d
  induction d with
  | zero => intro a2 a3 a4 H h; cases h
  | succ d ih => intro a2 a3 a4 H h; exact tbX1_measure_7 (fun a2 a3 a4 H h => ih h) h
def FX1_measure  (a0 : Int32) (a1 : Int32) (H : Hp) : Option (Int32 × Hp) :=
  fX1_measure_7  4096 a0 a1 0 H
set_option maxHeartbeats 4000000 in
set_option maxRecDepth 100000 in
theorem tFX1_measure {G : GG} {r : Int32} {H' : Hp}   {a0 : Int32} {a1 : Int32} {H : Hp} (h : FX1_measure  a0 a1 H = some (r, H')) : Sn G (T0 G (some (.int r)) H') mX1_measure 0 [some (.int a0), some (.int a1), none, none, none, none] [] H := by
  unfold FX1_measure at h
  refine sn_blk _ kX1_measure_0_0 (pc' := 7) (L' := [some (.int a0), some (.int a1), some (.int a0), some (.int a1), some (.int 0), none]) (st' := []) rfl rfl ?_
  refine sn_msk [false, false, true, true, true, true] (L2 := [none, none, some (.int a0), some (.int a1), some (.int 0), none]) rfl ?_
  exact tfX1_measure_7  4096 h
theorem sX1_measure {G : GG} {r : Int32} {H' : Hp} {a0 : Int32} {a1 : Int32} {H : Hp} (h : FX1_measure a0 a1 H = some (r, H')) : SM G mX1_measure [.int a0, .int a1] H (some (.int r)) H' := tFX1_measure h
/-! SquareFolds$Fraction.become(II)V -/
theorem kX1_become_0_0 : decB cX1_become 0 [(.iload_n 1, .null)] = true := by decide +kernel
theorem kX1_become_0_1 : decB cX1_become 4 [(.iload_n 2, .null)] = true := by decide +kernel
theorem kX1_become_0_2 : decB cX1_become 8 [(.istore_n 3, .null), (.aload_n 0, .null), (.iload_n 3, .null), (.iconst 1, .int 1)] = true := by decide +kernel
theorem kX1_become_0_3 : decB cX1_become 21 [(.iload_n 1, .null)] = true := by decide +kernel
theorem kX1_become_0_4 : decB cX1_become 15 [(.iload_n 1, .null), (.iload_n 3, .null)] = true := by decide +kernel
theorem kX1_become_0_5 : decB cX1_become 18 [(.goto 4, .retAddr 22)] = true := by decide +kernel
theorem kX1_become_22_0 : decB cX1_become 25 [(.aload_n 0, .null), (.iload_n 3, .null), (.iconst 1, .int 1)] = true := by decide +kernel
theorem kX1_become_22_1 : decB cX1_become 37 [(.iload_n 2, .null)] = true := by decide +kernel
theorem kX1_become_22_2 : decB cX1_become 31 [(.iload_n 2, .null), (.iload_n 3, .null)] = true := by decide +kernel
theorem kX1_become_22_3 : decB cX1_become 34 [(.goto 4, .retAddr 38)] = true := by decide +kernel
theorem dX1_become_1 : decode cX1_become 1 = .ok (.invokestatic 16, 3) := by decide +kernel
theorem dX1_become_5 : decode cX1_become 5 = .ok (.invokestatic 22, 3) := by decide +kernel
theorem dX1_become_12 : decode cX1_become 12 = .ok (.if_icmp .le 9, 3) := by decide +kernel
theorem dX1_become_17 : decode cX1_become 17 = .ok (.idiv, 1) := by decide +kernel
theorem dX1_become_22 : decode cX1_become 22 = .ok (.putfield 7, 3) := by decide +kernel
theorem dX1_become_28 : decode cX1_become 28 = .ok (.if_icmp .le 9, 3) := by decide +kernel
theorem dX1_become_33 : decode cX1_become 33 = .ok (.idiv, 1) := by decide +kernel
theorem dX1_become_38 : decode cX1_become 38 = .ok (.putfield 13, 3) := by decide +kernel
theorem dX1_become_41 : decode cX1_become 41 = .ok (.return_, 1) := by decide +kernel
def fX1_become_38  (s0 : Nat) (s1 : Int32) (H : Hp) : Option (Unit × Hp) :=
  bd (pV H s0 1 1 (.int s1)) fun H1 =>
  some ((), H1)
set_option maxHeartbeats 4000000 in
set_option maxRecDepth 100000 in
theorem tfX1_become_38 {G : GG} {r : Unit} {H' : Hp}   {s0 : Nat} {s1 : Int32} {H : Hp} (h : fX1_become_38  s0 s1 H = some (r, H')) : Sn G (T0 G none H') mX1_become 38 [none, none, none, none] [.int s1, .ref s0] H := by
  unfold fX1_become_38 at h
  obtain ⟨H1, hH1, h⟩ := bd_inv h
  refine sn_pI dX1_become_38 foX1_13 fpX1_1 hH1 ?_
  cases h
  exact sn_vret dX1_become_41 rfl
def fX1_become_22  (a0 : Nat) (a2 : Int32) (a3 : Int32) (s0 : Nat) (s1 : Int32) (H : Hp) : Option (Unit × Hp) :=
  bd (pV H s0 1 0 (.int s1)) fun H1 =>
  if (a3 ≤ 1 : Prop) then
    fX1_become_38  a0 a2 H1
  else
    gp (¬ a3 = 0) (
      fX1_become_38  a0 (a2 / a3) H1
      )
set_option maxHeartbeats 4000000 in
set_option maxRecDepth 100000 in
theorem tfX1_become_22 {G : GG} {r : Unit} {H' : Hp}   {a0 : Nat} {a2 : Int32} {a3 : Int32} {s0 : Nat} {s1 : Int32} {H : Hp} (h : fX1_become_22  a0 a2 a3 s0 s1 H = some (r, H')) : Sn G (T0 G none H') mX1_become 22 [some (.ref a0), none, some (.int a2), some (.int a3)] [.int s1, .ref s0] H := by
  unfold fX1_become_22 at h
  obtain ⟨H1, hH1, h⟩ := bd_inv h
  refine sn_pI dX1_become_22 foX1_7 fpX1_0 hH1 ?_
  refine sn_blk _ kX1_become_22_0 (pc' := 28) (L' := [some (.ref a0), none, some (.int a2), some (.int a3)]) (st' := [.int 1, .int a3, .ref a0]) rfl rfl ?_
  refine sn_icmp_le (tgt := 37) dX1_become_28 (by decide) (fun c => ?_) (fun c => ?_)
  · rw [if_pos c] at h
    refine sn_blk _ kX1_become_22_1 (pc' := 38) (L' := [some (.ref a0), none, some (.int a2), some (.int a3)]) (st' := [.int a2, .ref a0]) rfl rfl ?_
    refine sn_msk [false, true, false, false] (L2 := [none, none, none, none]) rfl ?_
    exact tfX1_become_38  h
  · rw [if_neg c] at h
    refine sn_blk _ kX1_become_22_2 (pc' := 33) (L' := [some (.ref a0), none, some (.int a2), some (.int a3)]) (st' := [.int a3, .int a2, .ref a0]) rfl rfl ?_
    obtain ⟨hy, h⟩ := gp_inv h
    refine sn_idiv dX1_become_33 hy ?_
    refine sn_blk _ kX1_become_22_3 (pc' := 38) (L' := [some (.ref a0), none, some (.int a2), some (.int a3)]) (st' := [.int (a2 / a3), .ref a0]) rfl rfl ?_
    refine sn_msk [false, true, false, false] (L2 := [none, none, none, none]) rfl ?_
    exact tfX1_become_38  h
def FX1_become  (a0 : Nat) (a1 : Int32) (a2 : Int32) (H : Hp) : Option (Unit × Hp) :=
  bd2 (FX1_measure (if 0 ≤ a1 then a1 else 0 - a1) a2 H) fun x1 H2 =>
  if (x1 ≤ 1 : Prop) then
    fX1_become_22  a0 a2 x1 a0 a1 H2
  else
    gp (¬ x1 = 0) (
      fX1_become_22  a0 a2 x1 a0 (a1 / x1) H2
      )
set_option maxHeartbeats 4000000 in
set_option maxRecDepth 100000 in
theorem tFX1_become {G : GG} {r : Unit} {H' : Hp}   {a0 : Nat} {a1 : Int32} {a2 : Int32} {H : Hp} (h : FX1_become  a0 a1 a2 H = some (r, H')) : Sn G (T0 G none H') mX1_become 0 [some (.ref a0), some (.int a1), some (.int a2), none] [] H := by
  unfold FX1_become at h
  refine sn_blk _ kX1_become_0_0 (pc' := 1) (L' := [some (.ref a0), some (.int a1), some (.int a2), none]) (st' := [.int a1]) rfl rfl ?_
  refine sn_mabs dX1_become_1 mlX1_16 (by decide +kernel) rfl ?_
  refine sn_blk _ kX1_become_0_1 (pc' := 5) (L' := [some (.ref a0), some (.int a1), some (.int a2), none]) (st' := [.int a2, .int (if 0 ≤ a1 then a1 else 0 - a1)]) rfl rfl ?_
  obtain ⟨x1, H2, hx1, h⟩ := bd2_inv h
  refine sn_calls (av := [.int (if 0 ≤ a1 then a1 else 0 - a1), .int a2]) (st := []) (M2 := mX1_measure) dX1_become_5 msX1_measure mlX1_22 rfl rfl rfl rfl rfl (sX1_measure hx1) ?_
  refine sn_blk _ kX1_become_0_2 (pc' := 12) (L' := [some (.ref a0), some (.int a1), some (.int a2), some (.int x1)]) (st' := [.int 1, .int x1, .ref a0]) rfl rfl ?_
  refine sn_icmp_le (tgt := 21) dX1_become_12 (by decide) (fun c => ?_) (fun c => ?_)
  · rw [if_pos c] at h
    refine sn_blk _ kX1_become_0_3 (pc' := 22) (L' := [some (.ref a0), some (.int a1), some (.int a2), some (.int x1)]) (st' := [.int a1, .ref a0]) rfl rfl ?_
    refine sn_msk [true, false, true, true] (L2 := [some (.ref a0), none, some (.int a2), some (.int x1)]) rfl ?_
    exact tfX1_become_22  h
  · rw [if_neg c] at h
    refine sn_blk _ kX1_become_0_4 (pc' := 17) (L' := [some (.ref a0), some (.int a1), some (.int a2), some (.int x1)]) (st' := [.int x1, .int a1, .ref a0]) rfl rfl ?_
    obtain ⟨hy, h⟩ := gp_inv h
    refine sn_idiv dX1_become_17 hy ?_
    refine sn_blk _ kX1_become_0_5 (pc' := 22) (L' := [some (.ref a0), some (.int a1), some (.int a2), some (.int x1)]) (st' := [.int (a1 / x1), .ref a0]) rfl rfl ?_
    refine sn_msk [true, false, true, true] (L2 := [some (.ref a0), none, some (.int a2), some (.int x1)]) rfl ?_
    exact tfX1_become_22  h
theorem sX1_become {G : GG} {r : Unit} {H' : Hp} {a0 : Nat} {a1 : Int32} {a2 : Int32} {H : Hp} (h : FX1_become a0 a1 a2 H = some (r, H')) : SM G mX1_become [.ref a0, .int a1, .int a2] H none H' := tFX1_become h
/-! SquareFolds$Fraction.told(Z)I -/
theorem kX1_told_0_0 : decB cX1_told 0 [(.iload_n 1, .null)] = true := by decide +kernel
theorem kX1_told_0_1 : decB cX1_told 11 [(.aload_n 0, .null)] = true := by decide +kernel
theorem kX1_told_0_2 : decB cX1_told 4 [(.aload_n 0, .null)] = true := by decide +kernel
theorem kX1_told_0_3 : decB cX1_told 8 [(.goto 7, .retAddr 15)] = true := by decide +kernel
theorem dX1_told_1 : decode cX1_told 1 = .ok (.ifCond .eq 10, 3) := by decide +kernel
theorem dX1_told_5 : decode cX1_told 5 = .ok (.getfield 7, 3) := by decide +kernel
theorem dX1_told_12 : decode cX1_told 12 = .ok (.getfield 13, 3) := by decide +kernel
theorem dX1_told_15 : decode cX1_told 15 = .ok (.ireturn, 1) := by decide +kernel
def FX1_told  (a0 : Nat) (a1 : Int32) (H : Hp) : Option (Int32 × Hp) :=
  if (a1 = 0 : Prop) then
    bd (gI H a0 1 1) fun x1 =>
    some (x1, H)
  else
    bd (gI H a0 1 0) fun x2 =>
    some (x2, H)
set_option maxHeartbeats 4000000 in
set_option maxRecDepth 100000 in
theorem tFX1_told {G : GG} {r : Int32} {H' : Hp}   {a0 : Nat} {a1 : Int32} {H : Hp} (h : FX1_told  a0 a1 H = some (r, H')) : Sn G (T0 G (some (.int r)) H') mX1_told 0 [some (.ref a0), some (.int a1)] [] H := by
  unfold FX1_told at h
  refine sn_blk _ kX1_told_0_0 (pc' := 1) (L' := [some (.ref a0), some (.int a1)]) (st' := [.int a1]) rfl rfl ?_
  refine sn_if_eq (tgt := 11) dX1_told_1 (by decide) (fun c => ?_) (fun c => ?_)
  · rw [if_pos c] at h
    refine sn_blk _ kX1_told_0_1 (pc' := 12) (L' := [some (.ref a0), some (.int a1)]) (st' := [.ref a0]) rfl rfl ?_
    obtain ⟨x1, hx1, h⟩ := bd_inv h
    refine sn_gI dX1_told_12 foX1_13 hx1 ?_
    cases h
    exact sn_iret (ty := .int) dX1_told_15 rfl rfl
  · rw [if_neg c] at h
    refine sn_blk _ kX1_told_0_2 (pc' := 5) (L' := [some (.ref a0), some (.int a1)]) (st' := [.ref a0]) rfl rfl ?_
    obtain ⟨x2, hx2, h⟩ := bd_inv h
    refine sn_gI dX1_told_5 foX1_7 hx2 ?_
    refine sn_blk _ kX1_told_0_3 (pc' := 15) (L' := [some (.ref a0), some (.int a1)]) (st' := [.int x2]) rfl rfl ?_
    cases h
    exact sn_iret (ty := .int) dX1_told_15 rfl rfl
theorem sX1_told {G : GG} {r : Int32} {H' : Hp} {a0 : Nat} {a1 : Int32} {H : Hp} (h : FX1_told a0 a1 H = some (r, H')) : SM G mX1_told [.ref a0, .int a1] H (some (.int r)) H' := tFX1_told h
/-! SquareFolds$Sightings.add(II)Z -/
theorem kX7_add_0_0 : decB cX7_add 0 [(.aload_n 0, .null)] = true := by decide +kernel
theorem kX7_add_0_1 : decB cX7_add 16 [(.iconst 0, .int 0)] = true := by decide +kernel
theorem kX7_add_0_2 : decB cX7_add 7 [(.aload_n 0, .null)] = true := by decide +kernel
theorem kX7_add_0_3 : decB cX7_add 11 [(.bipush 6, .int 6)] = true := by decide +kernel
theorem kX7_add_0_4 : decB cX7_add 18 [(.aload_n 0, .null)] = true := by decide +kernel
theorem kX7_add_0_5 : decB cX7_add 22 [(.aload_n 0, .null)] = true := by decide +kernel
theorem kX7_add_0_6 : decB cX7_add 26 [(.iload_n 1, .null)] = true := by decide +kernel
theorem kX7_add_0_7 : decB cX7_add 28 [(.aload_n 0, .null)] = true := by decide +kernel
theorem kX7_add_0_8 : decB cX7_add 32 [(.aload_n 0, .null)] = true := by decide +kernel
theorem kX7_add_0_9 : decB cX7_add 36 [(.iload_n 2, .null)] = true := by decide +kernel
theorem kX7_add_0_10 : decB cX7_add 38 [(.aload_n 0, .null), (.dup, .null)] = true := by decide +kernel
theorem kX7_add_0_11 : decB cX7_add 43 [(.iconst 1, .int 1), (.iadd, .null)] = true := by decide +kernel
theorem kX7_add_0_12 : decB cX7_add 48 [(.iconst 1, .int 1)] = true := by decide +kernel
theorem kX7_add_0_13 : decB cX7_add 16 [(.iconst 0, .int 0)] = true := by decide +kernel
theorem dX7_add_1 : decode cX7_add 1 = .ok (.getfield 16, 3) := by decide +kernel
theorem dX7_add_4 : decode cX7_add 4 = .ok (.ifCond .lt 12, 3) := by decide +kernel
theorem dX7_add_8 : decode cX7_add 8 = .ok (.getfield 16, 3) := by decide +kernel
theorem dX7_add_13 : decode cX7_add 13 = .ok (.if_icmp .lt 5, 3) := by decide +kernel
theorem dX7_add_17 : decode cX7_add 17 = .ok (.ireturn, 1) := by decide +kernel
theorem dX7_add_19 : decode cX7_add 19 = .ok (.getfield 9, 3) := by decide +kernel
theorem dX7_add_23 : decode cX7_add 23 = .ok (.getfield 16, 3) := by decide +kernel
theorem dX7_add_27 : decode cX7_add 27 = .ok (.iastore, 1) := by decide +kernel
theorem dX7_add_29 : decode cX7_add 29 = .ok (.getfield 13, 3) := by decide +kernel
theorem dX7_add_33 : decode cX7_add 33 = .ok (.getfield 16, 3) := by decide +kernel
theorem dX7_add_37 : decode cX7_add 37 = .ok (.iastore, 1) := by decide +kernel
theorem dX7_add_40 : decode cX7_add 40 = .ok (.getfield 16, 3) := by decide +kernel
theorem dX7_add_45 : decode cX7_add 45 = .ok (.putfield 16, 3) := by decide +kernel
theorem dX7_add_49 : decode cX7_add 49 = .ok (.ireturn, 1) := by decide +kernel
def FX7_add  (a0 : Nat) (a1 : Int32) (a2 : Int32) (H : Hp) : Option (Int32 × Hp) :=
  bd (gI H a0 6 2) fun x1 =>
  if (x1 < 0 : Prop) then
    some (0, H)
  else
    bd (gI H a0 6 2) fun x2 =>
    if (x2 < 6 : Prop) then
      bd (gA H a0 6 0) fun x3 =>
      bd (gI H a0 6 2) fun x4 =>
      bd (sI H x3 0 x4 a1) fun H5 =>
      bd (gA H5 a0 6 1) fun x6 =>
      bd (gI H5 a0 6 2) fun x7 =>
      bd (sI H5 x6 0 x7 a2) fun H8 =>
      bd (gI H8 a0 6 2) fun x9 =>
      bd (pV H8 a0 6 2 (.int (x9 + 1))) fun H10 =>
      some (1, H10)
    else
      some (0, H)
set_option maxHeartbeats 4000000 in
set_option maxRecDepth 100000 in
theorem tFX7_add {G : GG} {r : Int32} {H' : Hp}   {a0 : Nat} {a1 : Int32} {a2 : Int32} {H : Hp} (h : FX7_add  a0 a1 a2 H = some (r, H')) : Sn G (T0 G (some (.int r)) H') mX7_add 0 [some (.ref a0), some (.int a1), some (.int a2)] [] H := by
  unfold FX7_add at h
  refine sn_blk _ kX7_add_0_0 (pc' := 1) (L' := [some (.ref a0), some (.int a1), some (.int a2)]) (st' := [.ref a0]) rfl rfl ?_
  obtain ⟨x1, hx1, h⟩ := bd_inv h
  refine sn_gI dX7_add_1 foX7_16 hx1 ?_
  refine sn_if_lt (tgt := 16) dX7_add_4 (by decide) (fun c => ?_) (fun c => ?_)
  · rw [if_pos c] at h
    refine sn_blk _ kX7_add_0_1 (pc' := 17) (L' := [some (.ref a0), some (.int a1), some (.int a2)]) (st' := [.int 0]) rfl rfl ?_
    cases h
    exact sn_iret (ty := .boolean) dX7_add_17 rfl rfl
  · rw [if_neg c] at h
    refine sn_blk _ kX7_add_0_2 (pc' := 8) (L' := [some (.ref a0), some (.int a1), some (.int a2)]) (st' := [.ref a0]) rfl rfl ?_
    obtain ⟨x2, hx2, h⟩ := bd_inv h
    refine sn_gI dX7_add_8 foX7_16 hx2 ?_
    refine sn_blk _ kX7_add_0_3 (pc' := 13) (L' := [some (.ref a0), some (.int a1), some (.int a2)]) (st' := [.int 6, .int x2]) rfl rfl ?_
    refine sn_icmp_lt (tgt := 18) dX7_add_13 (by decide) (fun c => ?_) (fun c => ?_)
    · rw [if_pos c] at h
      refine sn_blk _ kX7_add_0_4 (pc' := 19) (L' := [some (.ref a0), some (.int a1), some (.int a2)]) (st' := [.ref a0]) rfl rfl ?_
      obtain ⟨x3, hx3, h⟩ := bd_inv h
      refine sn_gA dX7_add_19 foX7_9 hx3 ?_
      refine sn_blk _ kX7_add_0_5 (pc' := 23) (L' := [some (.ref a0), some (.int a1), some (.int a2)]) (st' := [.ref a0, .ref x3]) rfl rfl ?_
      obtain ⟨x4, hx4, h⟩ := bd_inv h
      refine sn_gI dX7_add_23 foX7_16 hx4 ?_
      refine sn_blk _ kX7_add_0_6 (pc' := 27) (L' := [some (.ref a0), some (.int a1), some (.int a2)]) (st' := [.int a1, .int x4, .ref x3]) rfl rfl ?_
      obtain ⟨H5, hH5, h⟩ := bd_inv h
      refine sn_iast dX7_add_27 hH5 ?_
      refine sn_blk _ kX7_add_0_7 (pc' := 29) (L' := [some (.ref a0), some (.int a1), some (.int a2)]) (st' := [.ref a0]) rfl rfl ?_
      obtain ⟨x6, hx6, h⟩ := bd_inv h
      refine sn_gA dX7_add_29 foX7_13 hx6 ?_
      refine sn_blk _ kX7_add_0_8 (pc' := 33) (L' := [some (.ref a0), some (.int a1), some (.int a2)]) (st' := [.ref a0, .ref x6]) rfl rfl ?_
      obtain ⟨x7, hx7, h⟩ := bd_inv h
      refine sn_gI dX7_add_33 foX7_16 hx7 ?_
      refine sn_blk _ kX7_add_0_9 (pc' := 37) (L' := [some (.ref a0), some (.int a1), some (.int a2)]) (st' := [.int a2, .int x7, .ref x6]) rfl rfl ?_
      obtain ⟨H8, hH8, h⟩ := bd_inv h
      refine sn_iast dX7_add_37 hH8 ?_
      refine sn_blk _ kX7_add_0_10 (pc' := 40) (L' := [some (.ref a0), some (.int a1), some (.int a2)]) (st' := [.ref a0, .ref a0]) rfl rfl ?_
      obtain ⟨x9, hx9, h⟩ := bd_inv h
      refine sn_gI dX7_add_40 foX7_16 hx9 ?_
      refine sn_blk _ kX7_add_0_11 (pc' := 45) (L' := [some (.ref a0), some (.int a1), some (.int a2)]) (st' := [.int (x9 + 1), .ref a0]) rfl rfl ?_
      obtain ⟨H10, hH10, h⟩ := bd_inv h
      refine sn_pI dX7_add_45 foX7_16 fpX7_2 hH10 ?_
      refine sn_blk _ kX7_add_0_12 (pc' := 49) (L' := [some (.ref a0), some (.int a1), some (.int a2)]) (st' := [.int 1]) rfl rfl ?_
      cases h
      exact sn_iret (ty := .boolean) dX7_add_49 rfl rfl
    · rw [if_neg c] at h
      refine sn_blk _ kX7_add_0_13 (pc' := 17) (L' := [some (.ref a0), some (.int a1), some (.int a2)]) (st' := [.int 0]) rfl rfl ?_
      cases h
      exact sn_iret (ty := .boolean) dX7_add_17 rfl rfl
theorem sX7_add {G : GG} {r : Int32} {H' : Hp} {a0 : Nat} {a1 : Int32} {a2 : Int32} {H : Hp} (h : FX7_add a0 a1 a2 H = some (r, H')) : SM G mX7_add [.ref a0, .int a1, .int a2] H (some (.int r)) H' := tFX7_add h
/-! SquareFolds$Sightings.wayAt(I)I -/
theorem kX7_wayAt_0_0 : decB cX7_wayAt 0 [(.iload_n 1, .null)] = true := by decide +kernel
theorem kX7_wayAt_0_1 : decB cX7_wayAt 19 [(.iconst 0, .int 0)] = true := by decide +kernel
theorem kX7_wayAt_0_2 : decB cX7_wayAt 4 [(.iload_n 1, .null), (.bipush 6, .int 6)] = true := by decide +kernel
theorem kX7_wayAt_0_3 : decB cX7_wayAt 19 [(.iconst 0, .int 0)] = true := by decide +kernel
theorem kX7_wayAt_0_4 : decB cX7_wayAt 10 [(.aload_n 0, .null)] = true := by decide +kernel
theorem kX7_wayAt_0_5 : decB cX7_wayAt 14 [(.iload_n 1, .null)] = true := by decide +kernel
theorem kX7_wayAt_0_6 : decB cX7_wayAt 16 [(.goto 4, .retAddr 20)] = true := by decide +kernel
theorem dX7_wayAt_1 : decode cX7_wayAt 1 = .ok (.ifCond .lt 18, 3) := by decide +kernel
theorem dX7_wayAt_7 : decode cX7_wayAt 7 = .ok (.if_icmp .ge 12, 3) := by decide +kernel
theorem dX7_wayAt_11 : decode cX7_wayAt 11 = .ok (.getfield 9, 3) := by decide +kernel
theorem dX7_wayAt_15 : decode cX7_wayAt 15 = .ok (.iaload, 1) := by decide +kernel
theorem dX7_wayAt_20 : decode cX7_wayAt 20 = .ok (.ireturn, 1) := by decide +kernel
def FX7_wayAt  (a0 : Nat) (a1 : Int32) (H : Hp) : Option (Int32 × Hp) :=
  if (a1 < 0 : Prop) then
    some (0, H)
  else
    if (6 ≤ a1 : Prop) then
      some (0, H)
    else
      bd (gA H a0 6 0) fun x1 =>
      bd (aI H x1 0 a1) fun x2 =>
      some (x2, H)
set_option maxHeartbeats 4000000 in
set_option maxRecDepth 100000 in
theorem tFX7_wayAt {G : GG} {r : Int32} {H' : Hp}   {a0 : Nat} {a1 : Int32} {H : Hp} (h : FX7_wayAt  a0 a1 H = some (r, H')) : Sn G (T0 G (some (.int r)) H') mX7_wayAt 0 [some (.ref a0), some (.int a1)] [] H := by
  unfold FX7_wayAt at h
  refine sn_blk _ kX7_wayAt_0_0 (pc' := 1) (L' := [some (.ref a0), some (.int a1)]) (st' := [.int a1]) rfl rfl ?_
  refine sn_if_lt (tgt := 19) dX7_wayAt_1 (by decide) (fun c => ?_) (fun c => ?_)
  · rw [if_pos c] at h
    refine sn_blk _ kX7_wayAt_0_1 (pc' := 20) (L' := [some (.ref a0), some (.int a1)]) (st' := [.int 0]) rfl rfl ?_
    cases h
    exact sn_iret (ty := .int) dX7_wayAt_20 rfl rfl
  · rw [if_neg c] at h
    refine sn_blk _ kX7_wayAt_0_2 (pc' := 7) (L' := [some (.ref a0), some (.int a1)]) (st' := [.int 6, .int a1]) rfl rfl ?_
    refine sn_icmp_ge (tgt := 19) dX7_wayAt_7 (by decide) (fun c => ?_) (fun c => ?_)
    · rw [if_pos c] at h
      refine sn_blk _ kX7_wayAt_0_3 (pc' := 20) (L' := [some (.ref a0), some (.int a1)]) (st' := [.int 0]) rfl rfl ?_
      cases h
      exact sn_iret (ty := .int) dX7_wayAt_20 rfl rfl
    · rw [if_neg c] at h
      refine sn_blk _ kX7_wayAt_0_4 (pc' := 11) (L' := [some (.ref a0), some (.int a1)]) (st' := [.ref a0]) rfl rfl ?_
      obtain ⟨x1, hx1, h⟩ := bd_inv h
      refine sn_gA dX7_wayAt_11 foX7_9 hx1 ?_
      refine sn_blk _ kX7_wayAt_0_5 (pc' := 15) (L' := [some (.ref a0), some (.int a1)]) (st' := [.int a1, .ref x1]) rfl rfl ?_
      obtain ⟨x2, hx2, h⟩ := bd_inv h
      refine sn_iald dX7_wayAt_15 hx2 ?_
      refine sn_blk _ kX7_wayAt_0_6 (pc' := 20) (L' := [some (.ref a0), some (.int a1)]) (st' := [.int x2]) rfl rfl ?_
      cases h
      exact sn_iret (ty := .int) dX7_wayAt_20 rfl rfl
theorem sX7_wayAt {G : GG} {r : Int32} {H' : Hp} {a0 : Nat} {a1 : Int32} {H : Hp} (h : FX7_wayAt a0 a1 H = some (r, H')) : SM G mX7_wayAt [.ref a0, .int a1] H (some (.int r)) H' := tFX7_wayAt h
/-! SquareFolds$Sightings.cameBack(I)Z -/
theorem kX7_cameBack_0_0 : decB cX7_cameBack 0 [(.iload_n 1, .null)] = true := by decide +kernel
theorem kX7_cameBack_0_1 : decB cX7_cameBack 24 [(.iconst 0, .int 0)] = true := by decide +kernel
theorem kX7_cameBack_0_2 : decB cX7_cameBack 4 [(.iload_n 1, .null), (.bipush 6, .int 6)] = true := by decide +kernel
theorem kX7_cameBack_0_3 : decB cX7_cameBack 24 [(.iconst 0, .int 0)] = true := by decide +kernel
theorem kX7_cameBack_0_4 : decB cX7_cameBack 10 [(.aload_n 0, .null)] = true := by decide +kernel
theorem kX7_cameBack_0_5 : decB cX7_cameBack 14 [(.iload_n 1, .null)] = true := by decide +kernel
theorem kX7_cameBack_0_6 : decB cX7_cameBack 16 [(.iconst 1, .int 1)] = true := by decide +kernel
theorem kX7_cameBack_0_7 : decB cX7_cameBack 24 [(.iconst 0, .int 0)] = true := by decide +kernel
theorem kX7_cameBack_0_8 : decB cX7_cameBack 20 [(.iconst 1, .int 1), (.goto 4, .retAddr 25)] = true := by decide +kernel
theorem dX7_cameBack_1 : decode cX7_cameBack 1 = .ok (.ifCond .lt 23, 3) := by decide +kernel
theorem dX7_cameBack_7 : decode cX7_cameBack 7 = .ok (.if_icmp .ge 17, 3) := by decide +kernel
theorem dX7_cameBack_11 : decode cX7_cameBack 11 = .ok (.getfield 13, 3) := by decide +kernel
theorem dX7_cameBack_15 : decode cX7_cameBack 15 = .ok (.iaload, 1) := by decide +kernel
theorem dX7_cameBack_17 : decode cX7_cameBack 17 = .ok (.if_icmp .ne 7, 3) := by decide +kernel
theorem dX7_cameBack_25 : decode cX7_cameBack 25 = .ok (.ireturn, 1) := by decide +kernel
def FX7_cameBack  (a0 : Nat) (a1 : Int32) (H : Hp) : Option (Int32 × Hp) :=
  if (a1 < 0 : Prop) then
    some (0, H)
  else
    if (6 ≤ a1 : Prop) then
      some (0, H)
    else
      bd (gA H a0 6 1) fun x1 =>
      bd (aI H x1 0 a1) fun x2 =>
      if (x2 = 1 : Prop) then
        some (1, H)
      else
        some (0, H)
set_option maxHeartbeats 4000000 in
set_option maxRecDepth 100000 in
theorem tFX7_cameBack {G : GG} {r : Int32} {H' : Hp}   {a0 : Nat} {a1 : Int32} {H : Hp} (h : FX7_cameBack  a0 a1 H = some (r, H')) : Sn G (T0 G (some (.int r)) H') mX7_cameBack 0 [some (.ref a0), some (.int a1)] [] H := by
  unfold FX7_cameBack at h
  refine sn_blk _ kX7_cameBack_0_0 (pc' := 1) (L' := [some (.ref a0), some (.int a1)]) (st' := [.int a1]) rfl rfl ?_
  refine sn_if_lt (tgt := 24) dX7_cameBack_1 (by decide) (fun c => ?_) (fun c => ?_)
  · rw [if_pos c] at h
    refine sn_blk _ kX7_cameBack_0_1 (pc' := 25) (L' := [some (.ref a0), some (.int a1)]) (st' := [.int 0]) rfl rfl ?_
    cases h
    exact sn_iret (ty := .boolean) dX7_cameBack_25 rfl rfl
  · rw [if_neg c] at h
    refine sn_blk _ kX7_cameBack_0_2 (pc' := 7) (L' := [some (.ref a0), some (.int a1)]) (st' := [.int 6, .int a1]) rfl rfl ?_
    refine sn_icmp_ge (tgt := 24) dX7_cameBack_7 (by decide) (fun c => ?_) (fun c => ?_)
    · rw [if_pos c] at h
      refine sn_blk _ kX7_cameBack_0_3 (pc' := 25) (L' := [some (.ref a0), some (.int a1)]) (st' := [.int 0]) rfl rfl ?_
      cases h
      exact sn_iret (ty := .boolean) dX7_cameBack_25 rfl rfl
    · rw [if_neg c] at h
      refine sn_blk _ kX7_cameBack_0_4 (pc' := 11) (L' := [some (.ref a0), some (.int a1)]) (st' := [.ref a0]) rfl rfl ?_
      obtain ⟨x1, hx1, h⟩ := bd_inv h
      refine sn_gA dX7_cameBack_11 foX7_13 hx1 ?_
      refine sn_blk _ kX7_cameBack_0_5 (pc' := 15) (L' := [some (.ref a0), some (.int a1)]) (st' := [.int a1, .ref x1]) rfl rfl ?_
      obtain ⟨x2, hx2, h⟩ := bd_inv h
      refine sn_iald dX7_cameBack_15 hx2 ?_
      refine sn_blk _ kX7_cameBack_0_6 (pc' := 17) (L' := [some (.ref a0), some (.int a1)]) (st' := [.int 1, .int x2]) rfl rfl ?_
      refine sn_icmp_ne (tgt := 24) dX7_cameBack_17 (by decide) (fun c => ?_) (fun c => ?_)
      · rw [if_neg c] at h
        refine sn_blk _ kX7_cameBack_0_7 (pc' := 25) (L' := [some (.ref a0), some (.int a1)]) (st' := [.int 0]) rfl rfl ?_
        cases h
        exact sn_iret (ty := .boolean) dX7_cameBack_25 rfl rfl
      · rw [if_pos c] at h
        refine sn_blk _ kX7_cameBack_0_8 (pc' := 25) (L' := [some (.ref a0), some (.int a1)]) (st' := [.int 1]) rfl rfl ?_
        cases h
        exact sn_iret (ty := .boolean) dX7_cameBack_25 rfl rfl
theorem sX7_cameBack {G : GG} {r : Int32} {H' : Hp} {a0 : Nat} {a1 : Int32} {H : Hp} (h : FX7_cameBack a0 a1 H = some (r, H')) : SM G mX7_cameBack [.ref a0, .int a1] H (some (.int r)) H' := tFX7_cameBack h
/-! SquareFolds$Slots.has(I)Z -/
theorem kX8_has_0_0 : decB cX8_has 0 [(.iload_n 0, .null)] = true := by decide +kernel
theorem kX8_has_0_1 : decB cX8_has 13 [(.iconst 0, .int 0)] = true := by decide +kernel
theorem kX8_has_0_2 : decB cX8_has 4 [(.iload_n 0, .null), (.iconst 2, .int 2)] = true := by decide +kernel
theorem kX8_has_0_3 : decB cX8_has 13 [(.iconst 0, .int 0)] = true := by decide +kernel
theorem kX8_has_0_4 : decB cX8_has 9 [(.iconst 1, .int 1), (.goto 4, .retAddr 14)] = true := by decide +kernel
theorem dX8_has_1 : decode cX8_has 1 = .ok (.ifCond .lt 12, 3) := by decide +kernel
theorem dX8_has_6 : decode cX8_has 6 = .ok (.if_icmp .ge 7, 3) := by decide +kernel
theorem dX8_has_14 : decode cX8_has 14 = .ok (.ireturn, 1) := by decide +kernel
def FX8_has  (a0 : Int32) (H : Hp) : Option (Int32 × Hp) :=
  if (a0 < 0 : Prop) then
    some (0, H)
  else
    if (2 ≤ a0 : Prop) then
      some (0, H)
    else
      some (1, H)
set_option maxHeartbeats 4000000 in
set_option maxRecDepth 100000 in
theorem tFX8_has {G : GG} {r : Int32} {H' : Hp}   {a0 : Int32} {H : Hp} (h : FX8_has  a0 H = some (r, H')) : Sn G (T0 G (some (.int r)) H') mX8_has 0 [some (.int a0)] [] H := by
  unfold FX8_has at h
  refine sn_blk _ kX8_has_0_0 (pc' := 1) (L' := [some (.int a0)]) (st' := [.int a0]) rfl rfl ?_
  refine sn_if_lt (tgt := 13) dX8_has_1 (by decide) (fun c => ?_) (fun c => ?_)
  · rw [if_pos c] at h
    refine sn_blk _ kX8_has_0_1 (pc' := 14) (L' := [some (.int a0)]) (st' := [.int 0]) rfl rfl ?_
    cases h
    exact sn_iret (ty := .boolean) dX8_has_14 rfl rfl
  · rw [if_neg c] at h
    refine sn_blk _ kX8_has_0_2 (pc' := 6) (L' := [some (.int a0)]) (st' := [.int 2, .int a0]) rfl rfl ?_
    refine sn_icmp_ge (tgt := 13) dX8_has_6 (by decide) (fun c => ?_) (fun c => ?_)
    · rw [if_pos c] at h
      refine sn_blk _ kX8_has_0_3 (pc' := 14) (L' := [some (.int a0)]) (st' := [.int 0]) rfl rfl ?_
      cases h
      exact sn_iret (ty := .boolean) dX8_has_14 rfl rfl
    · rw [if_neg c] at h
      refine sn_blk _ kX8_has_0_4 (pc' := 14) (L' := [some (.int a0)]) (st' := [.int 1]) rfl rfl ?_
      cases h
      exact sn_iret (ty := .boolean) dX8_has_14 rfl rfl
theorem sX8_has {G : GG} {r : Int32} {H' : Hp} {a0 : Int32} {H : Hp} (h : FX8_has a0 H = some (r, H')) : SM G mX8_has [.int a0] H (some (.int r)) H' := tFX8_has h
/-! SquareFolds$Slots.put(III)V -/
theorem kX8_put_0_0 : decB cX8_put 0 [(.iload_n 1, .null)] = true := by decide +kernel
theorem kX8_put_0_1 : decB cX8_put 7 [(.aload_n 0, .null)] = true := by decide +kernel
theorem kX8_put_0_2 : decB cX8_put 11 [(.iload_n 1, .null), (.iload_n 2, .null)] = true := by decide +kernel
theorem kX8_put_0_3 : decB cX8_put 14 [(.aload_n 0, .null)] = true := by decide +kernel
theorem kX8_put_0_4 : decB cX8_put 18 [(.iload_n 1, .null), (.iload_n 3, .null)] = true := by decide +kernel
theorem kX8_put_0_5 : decB cX8_put 21 [(.aload_n 0, .null), (.dup, .null)] = true := by decide +kernel
theorem kX8_put_0_6 : decB cX8_put 26 [(.iconst 1, .int 1), (.iload_n 1, .null), (.ishl, .null), (.ior, .null)] = true := by decide +kernel
theorem dX8_put_1 : decode cX8_put 1 = .ok (.invokestatic 20, 3) := by decide +kernel
theorem dX8_put_4 : decode cX8_put 4 = .ok (.ifCond .eq 29, 3) := by decide +kernel
theorem dX8_put_8 : decode cX8_put 8 = .ok (.getfield 9, 3) := by decide +kernel
theorem dX8_put_13 : decode cX8_put 13 = .ok (.iastore, 1) := by decide +kernel
theorem dX8_put_15 : decode cX8_put 15 = .ok (.getfield 13, 3) := by decide +kernel
theorem dX8_put_20 : decode cX8_put 20 = .ok (.iastore, 1) := by decide +kernel
theorem dX8_put_23 : decode cX8_put 23 = .ok (.getfield 16, 3) := by decide +kernel
theorem dX8_put_30 : decode cX8_put 30 = .ok (.putfield 16, 3) := by decide +kernel
theorem dX8_put_33 : decode cX8_put 33 = .ok (.return_, 1) := by decide +kernel
def FX8_put  (a0 : Nat) (a1 : Int32) (a2 : Int32) (a3 : Int32) (H : Hp) : Option (Unit × Hp) :=
  bd2 (FX8_has a1 H) fun x1 H2 =>
  if (x1 = 0 : Prop) then
    some ((), H2)
  else
    bd (gA H2 a0 7 0) fun x3 =>
    bd (sI H2 x3 0 a1 a2) fun H4 =>
    bd (gA H4 a0 7 1) fun x5 =>
    bd (sI H4 x5 0 a1 a3) fun H6 =>
    bd (gI H6 a0 7 2) fun x7 =>
    bd (pV H6 a0 7 2 (.int (x7 ||| (1 <<< (a1 &&& 31))))) fun H8 =>
    some ((), H8)
set_option maxHeartbeats 4000000 in
set_option maxRecDepth 100000 in
theorem tFX8_put {G : GG} {r : Unit} {H' : Hp}   {a0 : Nat} {a1 : Int32} {a2 : Int32} {a3 : Int32} {H : Hp} (h : FX8_put  a0 a1 a2 a3 H = some (r, H')) : Sn G (T0 G none H') mX8_put 0 [some (.ref a0), some (.int a1), some (.int a2), some (.int a3)] [] H := by
  unfold FX8_put at h
  refine sn_blk _ kX8_put_0_0 (pc' := 1) (L' := [some (.ref a0), some (.int a1), some (.int a2), some (.int a3)]) (st' := [.int a1]) rfl rfl ?_
  obtain ⟨x1, H2, hx1, h⟩ := bd2_inv h
  refine sn_calls (av := [.int a1]) (st := []) (M2 := mX8_has) dX8_put_1 msX8_has mlX8_20 rfl rfl rfl rfl rfl (sX8_has hx1) ?_
  refine sn_if_eq (tgt := 33) dX8_put_4 (by decide) (fun c => ?_) (fun c => ?_)
  · rw [if_pos c] at h
    cases h
    exact sn_vret dX8_put_33 rfl
  · rw [if_neg c] at h
    refine sn_blk _ kX8_put_0_1 (pc' := 8) (L' := [some (.ref a0), some (.int a1), some (.int a2), some (.int a3)]) (st' := [.ref a0]) rfl rfl ?_
    obtain ⟨x3, hx3, h⟩ := bd_inv h
    refine sn_gA dX8_put_8 foX8_9 hx3 ?_
    refine sn_blk _ kX8_put_0_2 (pc' := 13) (L' := [some (.ref a0), some (.int a1), some (.int a2), some (.int a3)]) (st' := [.int a2, .int a1, .ref x3]) rfl rfl ?_
    obtain ⟨H4, hH4, h⟩ := bd_inv h
    refine sn_iast dX8_put_13 hH4 ?_
    refine sn_blk _ kX8_put_0_3 (pc' := 15) (L' := [some (.ref a0), some (.int a1), some (.int a2), some (.int a3)]) (st' := [.ref a0]) rfl rfl ?_
    obtain ⟨x5, hx5, h⟩ := bd_inv h
    refine sn_gA dX8_put_15 foX8_13 hx5 ?_
    refine sn_blk _ kX8_put_0_4 (pc' := 20) (L' := [some (.ref a0), some (.int a1), some (.int a2), some (.int a3)]) (st' := [.int a3, .int a1, .ref x5]) rfl rfl ?_
    obtain ⟨H6, hH6, h⟩ := bd_inv h
    refine sn_iast dX8_put_20 hH6 ?_
    refine sn_blk _ kX8_put_0_5 (pc' := 23) (L' := [some (.ref a0), some (.int a1), some (.int a2), some (.int a3)]) (st' := [.ref a0, .ref a0]) rfl rfl ?_
    obtain ⟨x7, hx7, h⟩ := bd_inv h
    refine sn_gI dX8_put_23 foX8_16 hx7 ?_
    refine sn_blk _ kX8_put_0_6 (pc' := 30) (L' := [some (.ref a0), some (.int a1), some (.int a2), some (.int a3)]) (st' := [.int (x7 ||| (1 <<< (a1 &&& 31))), .ref a0]) rfl rfl ?_
    obtain ⟨H8, hH8, h⟩ := bd_inv h
    refine sn_pI dX8_put_30 foX8_16 fpX8_2 hH8 ?_
    cases h
    exact sn_vret dX8_put_33 rfl
theorem sX8_put {G : GG} {r : Unit} {H' : Hp} {a0 : Nat} {a1 : Int32} {a2 : Int32} {a3 : Int32} {H : Hp} (h : FX8_put a0 a1 a2 a3 H = some (r, H')) : SM G mX8_put [.ref a0, .int a1, .int a2, .int a3] H none H' := tFX8_put h
/-! SquareFolds$Slots.isKept(I)Z -/
theorem kX8_isKept_0_0 : decB cX8_isKept 0 [(.iload_n 1, .null)] = true := by decide +kernel
theorem kX8_isKept_0_1 : decB cX8_isKept 22 [(.iconst 0, .int 0)] = true := by decide +kernel
theorem kX8_isKept_0_2 : decB cX8_isKept 7 [(.aload_n 0, .null)] = true := by decide +kernel
theorem kX8_isKept_0_3 : decB cX8_isKept 11 [(.iload_n 1, .null)] = true := by decide +kernel
theorem kX8_isKept_0_4 : decB cX8_isKept 22 [(.iconst 0, .int 0)] = true := by decide +kernel
theorem kX8_isKept_0_5 : decB cX8_isKept 18 [(.iconst 1, .int 1), (.goto 4, .retAddr 23)] = true := by decide +kernel
theorem dX8_isKept_1 : decode cX8_isKept 1 = .ok (.invokestatic 20, 3) := by decide +kernel
theorem dX8_isKept_4 : decode cX8_isKept 4 = .ok (.ifCond .eq 18, 3) := by decide +kernel
theorem dX8_isKept_8 : decode cX8_isKept 8 = .ok (.getfield 16, 3) := by decide +kernel
theorem dX8_isKept_12 : decode cX8_isKept 12 = .ok (.invokestatic 24, 3) := by decide +kernel
theorem dX8_isKept_15 : decode cX8_isKept 15 = .ok (.ifCond .eq 7, 3) := by decide +kernel
theorem dX8_isKept_23 : decode cX8_isKept 23 = .ok (.ireturn, 1) := by decide +kernel
def FX8_isKept  (a0 : Nat) (a1 : Int32) (H : Hp) : Option (Int32 × Hp) :=
  bd2 (FX8_has a1 H) fun x1 H2 =>
  if (x1 = 0 : Prop) then
    some (0, H2)
  else
    bd (gI H2 a0 7 2) fun x3 =>
    bd2 (FX6_isIn x3 a1 H2) fun x4 H5 =>
    if (x4 = 0 : Prop) then
      some (0, H5)
    else
      some (1, H5)
set_option maxHeartbeats 4000000 in
set_option maxRecDepth 100000 in
theorem tFX8_isKept {G : GG} {r : Int32} {H' : Hp}   {a0 : Nat} {a1 : Int32} {H : Hp} (h : FX8_isKept  a0 a1 H = some (r, H')) : Sn G (T0 G (some (.int r)) H') mX8_isKept 0 [some (.ref a0), some (.int a1)] [] H := by
  unfold FX8_isKept at h
  refine sn_blk _ kX8_isKept_0_0 (pc' := 1) (L' := [some (.ref a0), some (.int a1)]) (st' := [.int a1]) rfl rfl ?_
  obtain ⟨x1, H2, hx1, h⟩ := bd2_inv h
  refine sn_calls (av := [.int a1]) (st := []) (M2 := mX8_has) dX8_isKept_1 msX8_has mlX8_20 rfl rfl rfl rfl rfl (sX8_has hx1) ?_
  refine sn_if_eq (tgt := 22) dX8_isKept_4 (by decide) (fun c => ?_) (fun c => ?_)
  · rw [if_pos c] at h
    refine sn_blk _ kX8_isKept_0_1 (pc' := 23) (L' := [some (.ref a0), some (.int a1)]) (st' := [.int 0]) rfl rfl ?_
    cases h
    exact sn_iret (ty := .boolean) dX8_isKept_23 rfl rfl
  · rw [if_neg c] at h
    refine sn_blk _ kX8_isKept_0_2 (pc' := 8) (L' := [some (.ref a0), some (.int a1)]) (st' := [.ref a0]) rfl rfl ?_
    obtain ⟨x3, hx3, h⟩ := bd_inv h
    refine sn_gI dX8_isKept_8 foX8_16 hx3 ?_
    refine sn_blk _ kX8_isKept_0_3 (pc' := 12) (L' := [some (.ref a0), some (.int a1)]) (st' := [.int a1, .int x3]) rfl rfl ?_
    obtain ⟨x4, H5, hx4, h⟩ := bd2_inv h
    refine sn_calls (av := [.int x3, .int a1]) (st := []) (M2 := mX6_isIn) dX8_isKept_12 msX6_isIn mlX8_24 rfl rfl rfl rfl rfl (sX6_isIn hx4) ?_
    refine sn_if_eq (tgt := 22) dX8_isKept_15 (by decide) (fun c => ?_) (fun c => ?_)
    · rw [if_pos c] at h
      refine sn_blk _ kX8_isKept_0_4 (pc' := 23) (L' := [some (.ref a0), some (.int a1)]) (st' := [.int 0]) rfl rfl ?_
      cases h
      exact sn_iret (ty := .boolean) dX8_isKept_23 rfl rfl
    · rw [if_neg c] at h
      refine sn_blk _ kX8_isKept_0_5 (pc' := 23) (L' := [some (.ref a0), some (.int a1)]) (st' := [.int 1]) rfl rfl ?_
      cases h
      exact sn_iret (ty := .boolean) dX8_isKept_23 rfl rfl
theorem sX8_isKept {G : GG} {r : Int32} {H' : Hp} {a0 : Nat} {a1 : Int32} {H : Hp} (h : FX8_isKept a0 a1 H = some (r, H')) : SM G mX8_isKept [.ref a0, .int a1] H (some (.int r)) H' := tFX8_isKept h
/-! SquareFolds$Slots.rightAt(I)I -/
theorem kX8_rightAt_0_0 : decB cX8_rightAt 0 [(.iload_n 1, .null)] = true := by decide +kernel
theorem kX8_rightAt_0_1 : decB cX8_rightAt 16 [(.iconst 0, .int 0)] = true := by decide +kernel
theorem kX8_rightAt_0_2 : decB cX8_rightAt 7 [(.aload_n 0, .null)] = true := by decide +kernel
theorem kX8_rightAt_0_3 : decB cX8_rightAt 11 [(.iload_n 1, .null)] = true := by decide +kernel
theorem kX8_rightAt_0_4 : decB cX8_rightAt 13 [(.goto 4, .retAddr 17)] = true := by decide +kernel
theorem dX8_rightAt_1 : decode cX8_rightAt 1 = .ok (.invokestatic 20, 3) := by decide +kernel
theorem dX8_rightAt_4 : decode cX8_rightAt 4 = .ok (.ifCond .eq 12, 3) := by decide +kernel
theorem dX8_rightAt_8 : decode cX8_rightAt 8 = .ok (.getfield 9, 3) := by decide +kernel
theorem dX8_rightAt_12 : decode cX8_rightAt 12 = .ok (.iaload, 1) := by decide +kernel
theorem dX8_rightAt_17 : decode cX8_rightAt 17 = .ok (.ireturn, 1) := by decide +kernel
def FX8_rightAt  (a0 : Nat) (a1 : Int32) (H : Hp) : Option (Int32 × Hp) :=
  bd2 (FX8_has a1 H) fun x1 H2 =>
  if (x1 = 0 : Prop) then
    some (0, H2)
  else
    bd (gA H2 a0 7 0) fun x3 =>
    bd (aI H2 x3 0 a1) fun x4 =>
    some (x4, H2)
set_option maxHeartbeats 4000000 in
set_option maxRecDepth 100000 in
theorem tFX8_rightAt {G : GG} {r : Int32} {H' : Hp}   {a0 : Nat} {a1 : Int32} {H : Hp} (h : FX8_rightAt  a0 a1 H = some (r, H')) : Sn G (T0 G (some (.int r)) H') mX8_rightAt 0 [some (.ref a0), some (.int a1)] [] H := by
  unfold FX8_rightAt at h
  refine sn_blk _ kX8_rightAt_0_0 (pc' := 1) (L' := [some (.ref a0), some (.int a1)]) (st' := [.int a1]) rfl rfl ?_
  obtain ⟨x1, H2, hx1, h⟩ := bd2_inv h
  refine sn_calls (av := [.int a1]) (st := []) (M2 := mX8_has) dX8_rightAt_1 msX8_has mlX8_20 rfl rfl rfl rfl rfl (sX8_has hx1) ?_
  refine sn_if_eq (tgt := 16) dX8_rightAt_4 (by decide) (fun c => ?_) (fun c => ?_)
  · rw [if_pos c] at h
    refine sn_blk _ kX8_rightAt_0_1 (pc' := 17) (L' := [some (.ref a0), some (.int a1)]) (st' := [.int 0]) rfl rfl ?_
    cases h
    exact sn_iret (ty := .int) dX8_rightAt_17 rfl rfl
  · rw [if_neg c] at h
    refine sn_blk _ kX8_rightAt_0_2 (pc' := 8) (L' := [some (.ref a0), some (.int a1)]) (st' := [.ref a0]) rfl rfl ?_
    obtain ⟨x3, hx3, h⟩ := bd_inv h
    refine sn_gA dX8_rightAt_8 foX8_9 hx3 ?_
    refine sn_blk _ kX8_rightAt_0_3 (pc' := 12) (L' := [some (.ref a0), some (.int a1)]) (st' := [.int a1, .ref x3]) rfl rfl ?_
    obtain ⟨x4, hx4, h⟩ := bd_inv h
    refine sn_iald dX8_rightAt_12 hx4 ?_
    refine sn_blk _ kX8_rightAt_0_4 (pc' := 17) (L' := [some (.ref a0), some (.int a1)]) (st' := [.int x4]) rfl rfl ?_
    cases h
    exact sn_iret (ty := .int) dX8_rightAt_17 rfl rfl
theorem sX8_rightAt {G : GG} {r : Int32} {H' : Hp} {a0 : Nat} {a1 : Int32} {H : Hp} (h : FX8_rightAt a0 a1 H = some (r, H')) : SM G mX8_rightAt [.ref a0, .int a1] H (some (.int r)) H' := tFX8_rightAt h
/-! SquareFolds$Slots.upAt(I)I -/
theorem kX8_upAt_0_0 : decB cX8_upAt 0 [(.iload_n 1, .null)] = true := by decide +kernel
theorem kX8_upAt_0_1 : decB cX8_upAt 16 [(.iconst 0, .int 0)] = true := by decide +kernel
theorem kX8_upAt_0_2 : decB cX8_upAt 7 [(.aload_n 0, .null)] = true := by decide +kernel
theorem kX8_upAt_0_3 : decB cX8_upAt 11 [(.iload_n 1, .null)] = true := by decide +kernel
theorem kX8_upAt_0_4 : decB cX8_upAt 13 [(.goto 4, .retAddr 17)] = true := by decide +kernel
theorem dX8_upAt_1 : decode cX8_upAt 1 = .ok (.invokestatic 20, 3) := by decide +kernel
theorem dX8_upAt_4 : decode cX8_upAt 4 = .ok (.ifCond .eq 12, 3) := by decide +kernel
theorem dX8_upAt_8 : decode cX8_upAt 8 = .ok (.getfield 13, 3) := by decide +kernel
theorem dX8_upAt_12 : decode cX8_upAt 12 = .ok (.iaload, 1) := by decide +kernel
theorem dX8_upAt_17 : decode cX8_upAt 17 = .ok (.ireturn, 1) := by decide +kernel
def FX8_upAt  (a0 : Nat) (a1 : Int32) (H : Hp) : Option (Int32 × Hp) :=
  bd2 (FX8_has a1 H) fun x1 H2 =>
  if (x1 = 0 : Prop) then
    some (0, H2)
  else
    bd (gA H2 a0 7 1) fun x3 =>
    bd (aI H2 x3 0 a1) fun x4 =>
    some (x4, H2)
set_option maxHeartbeats 4000000 in
set_option maxRecDepth 100000 in
theorem tFX8_upAt {G : GG} {r : Int32} {H' : Hp}   {a0 : Nat} {a1 : Int32} {H : Hp} (h : FX8_upAt  a0 a1 H = some (r, H')) : Sn G (T0 G (some (.int r)) H') mX8_upAt 0 [some (.ref a0), some (.int a1)] [] H := by
  unfold FX8_upAt at h
  refine sn_blk _ kX8_upAt_0_0 (pc' := 1) (L' := [some (.ref a0), some (.int a1)]) (st' := [.int a1]) rfl rfl ?_
  obtain ⟨x1, H2, hx1, h⟩ := bd2_inv h
  refine sn_calls (av := [.int a1]) (st := []) (M2 := mX8_has) dX8_upAt_1 msX8_has mlX8_20 rfl rfl rfl rfl rfl (sX8_has hx1) ?_
  refine sn_if_eq (tgt := 16) dX8_upAt_4 (by decide) (fun c => ?_) (fun c => ?_)
  · rw [if_pos c] at h
    refine sn_blk _ kX8_upAt_0_1 (pc' := 17) (L' := [some (.ref a0), some (.int a1)]) (st' := [.int 0]) rfl rfl ?_
    cases h
    exact sn_iret (ty := .int) dX8_upAt_17 rfl rfl
  · rw [if_neg c] at h
    refine sn_blk _ kX8_upAt_0_2 (pc' := 8) (L' := [some (.ref a0), some (.int a1)]) (st' := [.ref a0]) rfl rfl ?_
    obtain ⟨x3, hx3, h⟩ := bd_inv h
    refine sn_gA dX8_upAt_8 foX8_13 hx3 ?_
    refine sn_blk _ kX8_upAt_0_3 (pc' := 12) (L' := [some (.ref a0), some (.int a1)]) (st' := [.int a1, .ref x3]) rfl rfl ?_
    obtain ⟨x4, hx4, h⟩ := bd_inv h
    refine sn_iald dX8_upAt_12 hx4 ?_
    refine sn_blk _ kX8_upAt_0_4 (pc' := 17) (L' := [some (.ref a0), some (.int a1)]) (st' := [.int x4]) rfl rfl ?_
    cases h
    exact sn_iret (ty := .int) dX8_upAt_17 rfl rfl
theorem sX8_upAt {G : GG} {r : Int32} {H' : Hp} {a0 : Nat} {a1 : Int32} {H : Hp} (h : FX8_upAt a0 a1 H = some (r, H')) : SM G mX8_upAt [.ref a0, .int a1] H (some (.int r)) H' := tFX8_upAt h
