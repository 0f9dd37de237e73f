/-! SquareFolds$NameOrbit.placeSheared(III)I -/
theorem kX4_placeSheared_0_0 : decB cX4_placeSheared 0 [(.aload_n 0, .null)] = true := by decide +kernel
theorem kX4_placeSheared_0_1 : decB cX4_placeSheared 4 [(.aload_n 0, .null)] = true := by decide +kernel
theorem kX4_placeSheared_0_2 : decB cX4_placeSheared 8 [(.iload_n 1, .null)] = true := by decide +kernel
theorem kX4_placeSheared_0_3 : decB cX4_placeSheared 12 [(.iload_n 2, .null)] = true := by decide +kernel
theorem kX4_placeSheared_0_4 : decB cX4_placeSheared 16 [(.aload_n 0, .null)] = true := by decide +kernel
theorem kX4_placeSheared_0_5 : decB cX4_placeSheared 20 [(.iload_n 3, .null)] = true := by decide +kernel
theorem kX4_placeSheared_0_6 : decB cX4_placeSheared 24 [(.aload_n 0, .null)] = true := by decide +kernel
theorem kX4_placeSheared_0_7 : decB cX4_placeSheared 28 [(.aload_n 0, .null)] = true := by decide +kernel
theorem kX4_placeSheared_0_8 : decB cX4_placeSheared 32 [(.iconst 0, .int 0)] = true := by decide +kernel
theorem dX4_placeSheared_1 : decode cX4_placeSheared 1 = .ok (.getfield 25, 3) := by decide +kernel
theorem dX4_placeSheared_5 : decode cX4_placeSheared 5 = .ok (.getfield 12, 3) := by decide +kernel
theorem dX4_placeSheared_9 : decode cX4_placeSheared 9 = .ok (.invokevirtual 44, 3) := by decide +kernel
theorem dX4_placeSheared_13 : decode cX4_placeSheared 13 = .ok (.invokevirtual 48, 3) := by decide +kernel
theorem dX4_placeSheared_17 : decode cX4_placeSheared 17 = .ok (.getfield 25, 3) := by decide +kernel
theorem dX4_placeSheared_21 : decode cX4_placeSheared 21 = .ok (.invokevirtual 52, 3) := by decide +kernel
theorem dX4_placeSheared_25 : decode cX4_placeSheared 25 = .ok (.getfield 12, 3) := by decide +kernel
theorem dX4_placeSheared_29 : decode cX4_placeSheared 29 = .ok (.getfield 25, 3) := by decide +kernel
theorem dX4_placeSheared_33 : decode cX4_placeSheared 33 = .ok (.invokevirtual 56, 3) := by decide +kernel
theorem dX4_placeSheared_36 : decode cX4_placeSheared 36 = .ok (.invokevirtual 37, 3) := by decide +kernel
theorem dX4_placeSheared_39 : decode cX4_placeSheared 39 = .ok (.ireturn, 1) := by decide +kernel
def FX4_placeSheared  (a0 : Nat) (a1 : Int32) (a2 : Int32) (a3 : Int32) (H : Hp) : Option (Int32 × Hp) :=
  bd (gA H a0 4 2) fun x1 =>
  bd (gA H a0 4 0) fun x2 =>
  gp (isO H x2 0 = true) (
    bd2 (FX0_at x2 a1 H) fun x3 H4 =>
    gp (isO H4 x1 2 = true) (
      bd2 (FX2_becomeNamed x1 x3 a2 H4) fun _ H6 =>
      bd (gA H6 a0 4 2) fun x7 =>
      gp (isO H6 x7 2 = true) (
        bd2 (FX2_doShear x7 a3 H6) fun _ H9 =>
        bd (gA H9 a0 4 0) fun x10 =>
        bd (gA H9 a0 4 2) fun x11 =>
        gp (isO H9 x11 2 = true) (
          bd2 (FX2_leastName x11 0 H9) fun x12 H13 =>
          gp (isO H13 x10 0 = true) (
            bd2 (FX0_placeOf x10 x12 H13) fun x14 H15 =>
            some (x14, H15)
            )
          )
        )
      )
    )
set_option maxHeartbeats 4000000 in
set_option maxRecDepth 100000 in
theorem tFX4_placeSheared {G : GG} {r : Int32} {H' : Hp}   {a0 : Nat} {a1 : Int32} {a2 : Int32} {a3 : Int32} {H : Hp} (h : FX4_placeSheared  a0 a1 a2 a3 H = some (r, H')) : Sn G (T0 G (some (.int r)) H') mX4_placeSheared 0 [some (.ref a0), some (.int a1), some (.int a2), some (.int a3)] [] H := by
  unfold FX4_placeSheared at h
  refine sn_blk _ kX4_placeSheared_0_0 (pc' := 1) (L' := [some (.ref a0), some (.int a1), some (.int a2), some (.int a3)]) (st' := [.ref a0]) rfl rfl ?_
  obtain ⟨x1, hx1, h⟩ := bd_inv h
  refine sn_gA dX4_placeSheared_1 foX4_25 hx1 ?_
  refine sn_blk _ kX4_placeSheared_0_1 (pc' := 5) (L' := [some (.ref a0), some (.int a1), some (.int a2), some (.int a3)]) (st' := [.ref a0, .ref x1]) rfl rfl ?_
  obtain ⟨x2, hx2, h⟩ := bd_inv h
  refine sn_gA dX4_placeSheared_5 foX4_12 hx2 ?_
  refine sn_blk _ kX4_placeSheared_0_2 (pc' := 9) (L' := [some (.ref a0), some (.int a1), some (.int a2), some (.int a3)]) (st' := [.int a1, .ref x2, .ref x1]) rfl rfl ?_
  obtain ⟨ho, h⟩ := gp_inv h
  obtain ⟨fs, ho⟩ := isO_inv ho
  obtain ⟨x3, H4, hx3, h⟩ := bd2_inv h
  refine sn_callv (av := [.int a1]) (st := [.ref x1]) (M2 := mX0_at) dX4_placeSheared_9 msX0_at mlX4_44 rfl rfl rfl rfl rfl ho (sX0_at hx3) ?_
  refine sn_blk _ kX4_placeSheared_0_3 (pc' := 13) (L' := [some (.ref a0), some (.int a1), some (.int a2), some (.int a3)]) (st' := [.int a2, .long x3, .ref x1]) rfl rfl ?_
  obtain ⟨ho, h⟩ := gp_inv h
  obtain ⟨fs, ho⟩ := isO_inv ho
  obtain ⟨x5, H6, hx5, h⟩ := bd2_inv h
  refine sn_callv (av := [.long x3, .int a2]) (st := []) (M2 := mX2_becomeNamed) dX4_placeSheared_13 msX2_becomeNamed mlX4_48 rfl rfl rfl rfl rfl ho (sX2_becomeNamed hx5) ?_
  refine sn_blk _ kX4_placeSheared_0_4 (pc' := 17) (L' := [some (.ref a0), some (.int a1), some (.int a2), some (.int a3)]) (st' := [.ref a0]) rfl rfl ?_
  obtain ⟨x7, hx7, h⟩ := bd_inv h
  refine sn_gA dX4_placeSheared_17 foX4_25 hx7 ?_
  refine sn_blk _ kX4_placeSheared_0_5 (pc' := 21) (L' := [some (.ref a0), some (.int a1), some (.int a2), some (.int a3)]) (st' := [.int a3, .ref x7]) rfl rfl ?_
  obtain ⟨ho, h⟩ := gp_inv h
  obtain ⟨fs, ho⟩ := isO_inv ho
  obtain ⟨x8, H9, hx8, h⟩ := bd2_inv h
  refine sn_callv (av := [.int a3]) (st := []) (M2 := mX2_doShear) dX4_placeSheared_21 msX2_doShear mlX4_52 rfl rfl rfl rfl rfl ho (sX2_doShear hx8) ?_
  refine sn_blk _ kX4_placeSheared_0_6 (pc' := 25) (L' := [some (.ref a0), some (.int a1), some (.int a2), some (.int a3)]) (st' := [.ref a0]) rfl rfl ?_
  obtain ⟨x10, hx10, h⟩ := bd_inv h
  refine sn_gA dX4_placeSheared_25 foX4_12 hx10 ?_
  refine sn_blk _ kX4_placeSheared_0_7 (pc' := 29) (L' := [some (.ref a0), some (.int a1), some (.int a2), some (.int a3)]) (st' := [.ref a0, .ref x10]) rfl rfl ?_
  obtain ⟨x11, hx11, h⟩ := bd_inv h
  refine sn_gA dX4_placeSheared_29 foX4_25 hx11 ?_
  refine sn_blk _ kX4_placeSheared_0_8 (pc' := 33) (L' := [some (.ref a0), some (.int a1), some (.int a2), some (.int a3)]) (st' := [.int 0, .ref x11, .ref x10]) rfl rfl ?_
  obtain ⟨ho, h⟩ := gp_inv h
  obtain ⟨fs, ho⟩ := isO_inv ho
  obtain ⟨x12, H13, hx12, h⟩ := bd2_inv h
  refine sn_callv (av := [.int 0]) (st := [.ref x10]) (M2 := mX2_leastName) dX4_placeSheared_33 msX2_leastName mlX4_56 rfl rfl rfl rfl rfl ho (sX2_leastName hx12) ?_
  obtain ⟨ho, h⟩ := gp_inv h
  obtain ⟨fs, ho⟩ := isO_inv ho
  obtain ⟨x14, H15, hx14, h⟩ := bd2_inv h
  refine sn_callv (av := [.long x12]) (st := []) (M2 := mX0_placeOf) dX4_placeSheared_36 msX0_placeOf mlX4_37 rfl rfl rfl rfl rfl ho (sX0_placeOf hx14) ?_
  cases h
  exact sn_iret (ty := .int) dX4_placeSheared_39 rfl rfl
theorem sX4_placeSheared {G : GG} {r : Int32} {H' : Hp} {a0 : Nat} {a1 : Int32} {a2 : Int32} {a3 : Int32} {H : Hp} (h : FX4_placeSheared a0 a1 a2 a3 H = some (r, H')) : SM G mX4_placeSheared [.ref a0, .int a1, .int a2, .int a3] H (some (.int r)) H' := tFX4_placeSheared h
/-! SquareFolds$NameOrbit.gather(JI)V -/
theorem kX4_gather_0_0 : decB cX4_gather 0 [(.aload_n 0, .null)] = true := by decide +kernel
theorem kX4_gather_0_1 : decB cX4_gather 4 [(.lload_n 1, .null)] = true := by decide +kernel
theorem kX4_gather_0_2 : decB cX4_gather 12 [(.aload_n 0, .null)] = true := by decide +kernel
theorem kX4_gather_0_3 : decB cX4_gather 16 [(.iconst 0, .int 0)] = true := by decide +kernel
theorem kX4_gather_0_4 : decB cX4_gather 20 [(.aload_n 0, .null)] = true := by decide +kernel
theorem kX4_gather_0_5 : decB cX4_gather 24 [(.lload_n 1, .null)] = true := by decide +kernel
theorem kX4_gather_0_6 : decB cX4_gather 28 [(.pop, .null), (.iconst 0, .int 0), (.istore 4, .null)] = true := by decide +kernel
theorem kX4_gather_32_0 : decB cX4_gather 32 [(.iload 4, .null), (.aload_n 0, .null)] = true := by decide +kernel
theorem kX4_gather_32_1 : decB cX4_gather 44 [(.iload 4, .null), (.sipush 128, .int 128)] = true := by decide +kernel
theorem kX4_gather_32_2 : decB cX4_gather 52 [(.aload_n 0, .null)] = true := by decide +kernel
theorem kX4_gather_32_3 : decB cX4_gather 56 [(.iload 4, .null), (.aload_n 0, .null), (.iload 4, .null), (.iload_n 3, .null), (.iconst 0, .int 0)] = true := by decide +kernel
theorem kX4_gather_32_4 : decB cX4_gather 67 [(.aload_n 0, .null), (.iload 4, .null), (.iload_n 3, .null), (.iconst 1, .int 1)] = true := by decide +kernel
theorem kX4_gather_32_5 : decB cX4_gather 75 [(.pop, .null), (.iinc 4 1, .int 1), (.goto (-47), .retAddr 32)] = true := by decide +kernel
theorem dX4_gather_1 : decode cX4_gather 1 = .ok (.getfield 12, 3) := by decide +kernel
theorem dX4_gather_5 : decode cX4_gather 5 = .ok (.invokevirtual 29, 3) := by decide +kernel
theorem dX4_gather_8 : decode cX4_gather 8 = .ok (.ifCond .lt 4, 3) := by decide +kernel
theorem dX4_gather_11 : decode cX4_gather 11 = .ok (.return_, 1) := by decide +kernel
theorem dX4_gather_13 : decode cX4_gather 13 = .ok (.getfield 12, 3) := by decide +kernel
theorem dX4_gather_17 : decode cX4_gather 17 = .ok (.putfield 33, 3) := by decide +kernel
theorem dX4_gather_21 : decode cX4_gather 21 = .ok (.getfield 12, 3) := by decide +kernel
theorem dX4_gather_25 : decode cX4_gather 25 = .ok (.invokevirtual 37, 3) := by decide +kernel
theorem dX4_gather_35 : decode cX4_gather 35 = .ok (.getfield 12, 3) := by decide +kernel
theorem dX4_gather_38 : decode cX4_gather 38 = .ok (.getfield 33, 3) := by decide +kernel
theorem dX4_gather_41 : decode cX4_gather 41 = .ok (.if_icmp .ge 41, 3) := by decide +kernel
theorem dX4_gather_49 : decode cX4_gather 49 = .ok (.if_icmp .ge 33, 3) := by decide +kernel
theorem dX4_gather_53 : decode cX4_gather 53 = .ok (.getfield 18, 3) := by decide +kernel
theorem dX4_gather_63 : decode cX4_gather 63 = .ok (.invokevirtual 40, 3) := by decide +kernel
theorem dX4_gather_66 : decode cX4_gather 66 = .ok (.iastore, 1) := by decide +kernel
theorem dX4_gather_72 : decode cX4_gather 72 = .ok (.invokevirtual 40, 3) := by decide +kernel
theorem dX4_gather_82 : decode cX4_gather 82 = .ok (.return_, 1) := by decide +kernel
def bX4_gather_32 (K32 : Nat → Int32 → Int32 → Hp → Option (Unit × Hp)) (a0 : Nat) (a3 : Int32) (a4 : Int32) (H : Hp) : Option (Unit × Hp) :=
  bd (gA H a0 4 0) fun x1 =>
  bd (gI H x1 0 1) fun x2 =>
  if (x2 ≤ a4 : Prop) then
    some ((), H)
  else
    if (128 ≤ a4 : Prop) then
      some ((), H)
    else
      bd (gA H a0 4 1) fun x3 =>
      gp (isO H a0 4 = true) (
        bd2 (FX4_placeSheared a0 a4 a3 0 H) fun x4 H5 =>
        bd (sI H5 x3 0 a4 x4) fun H6 =>
        gp (isO H6 a0 4 = true) (
          bd2 (FX4_placeSheared a0 a4 a3 1 H6) fun x7 H8 =>
          K32 a0 a3 (a4 + 1) H8
          )
        )
set_option maxHeartbeats 4000000 in
set_option maxRecDepth 100000 in
theorem tbX4_gather_32 {G : GG} {r : Unit} {H' : Hp} {K32 : Nat → Int32 → Int32 → Hp → Option (Unit × Hp)} (hK32 : ∀ (a0 : Nat) (a3 : Int32) (a4 : Int32) (H : Hp), K32 a0 a3 a4 H = some (r, H') → Sn G (T0 G none H') mX4_gather 32 [some (.ref a0), none, none, some (.int a3), some (.int a4)] [] H) {a0 : Nat} {a3 : Int32} {a4 : Int32} {H : Hp} (h : bX4_gather_32 K32 a0 a3 a4 H = some (r, H')) : Sn G (T0 G none H') mX4_gather 32 [some (.ref a0), none, none, some (.int a3), some (.int a4)] [] H := by
  unfold bX4_gather_32 at h
  refine sn_blk _ kX4_gather_32_0 (pc' := 35) (L' := [some (.ref a0), none, none, some (.int a3), some (.int a4)]) (st' := [.ref a0, .int a4]) rfl rfl ?_
  obtain ⟨x1, hx1, h⟩ := bd_inv h
  refine sn_gA dX4_gather_35 foX4_12 hx1 ?_
  obtain ⟨x2, hx2, h⟩ := bd_inv h
  refine sn_gI dX4_gather_38 foX4_33 hx2 ?_
  refine sn_icmp_ge (tgt := 82) dX4_gather_41 (by decide) (fun c => ?_) (fun c => ?_)
  · rw [if_pos c] at h
    cases h
    exact sn_vret dX4_gather_82 rfl
  · rw [if_neg c] at h
    refine sn_blk _ kX4_gather_32_1 (pc' := 49) (L' := [some (.ref a0), none, none, some (.int a3), some (.int a4)]) (st' := [.int 128, .int a4]) rfl rfl ?_
    refine sn_icmp_ge (tgt := 82) dX4_gather_49 (by decide) (fun c => ?_) (fun c => ?_)
    · rw [if_pos c] at h
      cases h
      exact sn_vret dX4_gather_82 rfl
    · rw [if_neg c] at h
      refine sn_blk _ kX4_gather_32_2 (pc' := 53) (L' := [some (.ref a0), none, none, some (.int a3), some (.int a4)]) (st' := [.ref a0]) rfl rfl ?_
      obtain ⟨x3, hx3, h⟩ := bd_inv h
      refine sn_gA dX4_gather_53 foX4_18 hx3 ?_
      refine sn_blk _ kX4_gather_32_3 (pc' := 63) (L' := [some (.ref a0), none, none, some (.int a3), some (.int a4)]) (st' := [.int 0, .int a3, .int a4, .ref a0, .int a4, .ref x3]) rfl rfl ?_
      obtain ⟨ho, h⟩ := gp_inv h
      obtain ⟨fs, ho⟩ := isO_inv ho
      obtain ⟨x4, H5, hx4, h⟩ := bd2_inv h
      refine sn_callv (av := [.int a4, .int a3, .int 0]) (st := [.int a4, .ref x3]) (M2 := mX4_placeSheared) dX4_gather_63 msX4_placeSheared mlX4_40 rfl rfl rfl rfl rfl ho (sX4_placeSheared hx4) ?_
      obtain ⟨H6, hH6, h⟩ := bd_inv h
      refine sn_iast dX4_gather_66 hH6 ?_
      refine sn_blk _ kX4_gather_32_4 (pc' := 72) (L' := [some (.ref a0), none, none, some (.int a3), some (.int a4)]) (st' := [.int 1, .int a3, .int a4, .ref a0]) rfl rfl ?_
      obtain ⟨ho, h⟩ := gp_inv h
      obtain ⟨fs, ho⟩ := isO_inv ho
      obtain ⟨x7, H8, hx7, h⟩ := bd2_inv h
      refine sn_callv (av := [.int a4, .int a3, .int 1]) (st := []) (M2 := mX4_placeSheared) dX4_gather_72 msX4_placeSheared mlX4_40 rfl rfl rfl rfl rfl ho (sX4_placeSheared hx7) ?_
      refine sn_blk _ kX4_gather_32_5 (pc' := 32) (L' := [some (.ref a0), none, none, some (.int a3), some (.int (a4 + 1))]) (st' := []) rfl rfl ?_
      exact hK32 _ _ _ _ h
def fX4_gather_32  : Nat → Nat → Int32 → Int32 → Hp → Option (Unit × Hp)
  | 0, _, _, _, _ => none
  | d + 1, a0, a3, a4, H => bX4_gather_32 (fX4_gather_32  d) a0 a3 a4 H
theorem tfX4_gather_32 {G : GG} {r : Unit} {H' : Hp}   : ∀ (d : Nat) {a0 : Nat} {a3 : Int32} {a4 : Int32} {H : Hp}, fX4_gather_32  d a0 a3 a4 H = some (r, H') → Sn G (T0 G none H') mX4_gather 32 [some (.ref a0), none, none, some (.int a3), some (.int a4)] [] H := by
  intro d
  induction d with
  | zero => intro a0 a3 a4 H h; cases h
  | succ d ih => intro a0 a3 a4 H h; exact tbX4_gather_32 (fun a0 a3 a4 H h => ih h) h
def FX4_gather  (a0 : Nat) (a1 : Int64) (a3 : Int32) (H : Hp) : Option (Unit × Hp) :=
  bd (gA H a0 4 0) fun x1 =>
  gp (isO H x1 0 = true) (
    bd2 (FX0_find x1 a1 H) fun x2 H3 =>
    if (x2 < 0 : Prop) then
      bd (gA H3 a0 4 0) fun x4 =>
      bd (pV H3 x4 0 1 (.int 0)) fun H5 =>
      bd (gA H5 a0 4 0) fun x6 =>
      gp (isO H5 x6 0 = true) (
        bd2 (FX0_placeOf x6 a1 H5) fun x7 H8 =>
        fX4_gather_32  4096 a0 a3 0 H8
        )
    else
      some ((), H3)
    )
set_option maxHeartbeats 4000000 in
set_option maxRecDepth 100000 in
theorem tFX4_gather {G : GG} {r : Unit} {H' : Hp}   {a0 : Nat} {a1 : Int64} {a3 : Int32} {H : Hp} (h : FX4_gather  a0 a1 a3 H = some (r, H')) : Sn G (T0 G none H') mX4_gather 0 [some (.ref a0), some (.long a1), none, some (.int a3), none] [] H := by
  unfold FX4_gather at h
  refine sn_blk _ kX4_gather_0_0 (pc' := 1) (L' := [some (.ref a0), some (.long a1), none, some (.int a3), none]) (st' := [.ref a0]) rfl rfl ?_
  obtain ⟨x1, hx1, h⟩ := bd_inv h
  refine sn_gA dX4_gather_1 foX4_12 hx1 ?_
  refine sn_blk _ kX4_gather_0_1 (pc' := 5) (L' := [some (.ref a0), some (.long a1), none, some (.int a3), none]) (st' := [.long a1, .ref x1]) rfl rfl ?_
  obtain ⟨ho, h⟩ := gp_inv h
  obtain ⟨fs, ho⟩ := isO_inv ho
  obtain ⟨x2, H3, hx2, h⟩ := bd2_inv h
  refine sn_callv (av := [.long a1]) (st := []) (M2 := mX0_find) dX4_gather_5 msX0_find mlX4_29 rfl rfl rfl rfl rfl ho (sX0_find hx2) ?_
  refine sn_if_lt (tgt := 12) dX4_gather_8 (by decide) (fun c => ?_) (fun c => ?_)
  · rw [if_pos c] at h
    refine sn_blk _ kX4_gather_0_2 (pc' := 13) (L' := [some (.ref a0), some (.long a1), none, some (.int a3), none]) (st' := [.ref a0]) rfl rfl ?_
    obtain ⟨x4, hx4, h⟩ := bd_inv h
    refine sn_gA dX4_gather_13 foX4_12 hx4 ?_
    refine sn_blk _ kX4_gather_0_3 (pc' := 17) (L' := [some (.ref a0), some (.long a1), none, some (.int a3), none]) (st' := [.int 0, .ref x4]) rfl rfl ?_
    obtain ⟨H5, hH5, h⟩ := bd_inv h
    refine sn_pI dX4_gather_17 foX4_33 fpX0_1 hH5 ?_
    refine sn_blk _ kX4_gather_0_4 (pc' := 21) (L' := [some (.ref a0), some (.long a1), none, some (.int a3), none]) (st' := [.ref a0]) rfl rfl ?_
    obtain ⟨x6, hx6, h⟩ := bd_inv h
    refine sn_gA dX4_gather_21 foX4_12 hx6 ?_
    refine sn_blk _ kX4_gather_0_5 (pc' := 25) (L' := [some (.ref a0), some (.long a1), none, some (.int a3), none]) (st' := [.long a1, .ref x6]) rfl rfl ?_
    obtain ⟨ho, h⟩ := gp_inv h
    obtain ⟨fs, ho⟩ := isO_inv ho
    obtain ⟨x7, H8, hx7, h⟩ := bd2_inv h
    refine sn_callv (av := [.long a1]) (st := []) (M2 := mX0_placeOf) dX4_gather_25 msX0_placeOf mlX4_37 rfl rfl rfl rfl rfl ho (sX0_placeOf hx7) ?_
    refine sn_blk _ kX4_gather_0_6 (pc' := 32) (L' := [some (.ref a0), some (.long a1), none, some (.int a3), some (.int 0)]) (st' := []) rfl rfl ?_
    refine sn_msk [true, false, true, true, true] (L2 := [some (.ref a0), none, none, some (.int a3), some (.int 0)]) rfl ?_
    exact tfX4_gather_32  4096 h
  · rw [if_neg c] at h
    cases h
    exact sn_vret dX4_gather_11 rfl
theorem sX4_gather {G : GG} {r : Unit} {H' : Hp} {a0 : Nat} {a1 : Int64} {a3 : Int32} {H : Hp} (h : FX4_gather a0 a1 a3 H = some (r, H')) : SM G mX4_gather [.ref a0, .long a1, .int a3] H none H' := tFX4_gather h
/-! SquareFolds$NameOrbit.ringFrom(I)I -/
theorem kX4_ringFrom_0_0 : decB cX4_ringFrom 0 [(.iload_n 1, .null), (.istore_n 2, .null), (.iconst 1, .int 1), (.istore_n 3, .null)] = true := by decide +kernel
theorem kX4_ringFrom_4_0 : decB cX4_ringFrom 4 [(.iload_n 3, .null), (.aload_n 0, .null)] = true := by decide +kernel
theorem kX4_ringFrom_4_1 : decB cX4_ringFrom 57 [(.iconst 0, .int 0)] = true := by decide +kernel
theorem kX4_ringFrom_4_2 : decB cX4_ringFrom 15 [(.iload_n 2, .null)] = true := by decide +kernel
theorem kX4_ringFrom_4_3 : decB cX4_ringFrom 19 [(.iload_n 2, .null), (.sipush 128, .int 128)] = true := by decide +kernel
theorem kX4_ringFrom_4_4 : decB cX4_ringFrom 26 [(.aload_n 0, .null)] = true := by decide +kernel
theorem kX4_ringFrom_4_5 : decB cX4_ringFrom 30 [(.iload_n 2, .null)] = true := by decide +kernel
theorem kX4_ringFrom_4_6 : decB cX4_ringFrom 32 [(.goto 4, .retAddr 36)] = true := by decide +kernel
theorem kX4_ringFrom_35_0 : decB cX4_ringFrom 35 [(.iconst (-1), .int (-1))] = true := by decide +kernel
theorem kX4_ringFrom_36_0 : decB cX4_ringFrom 36 [(.istore_n 2, .null), (.iload_n 2, .null), (.iload_n 1, .null)] = true := by decide +kernel
theorem kX4_ringFrom_36_1 : decB cX4_ringFrom 44 [(.iload_n 2, .null), (.iload_n 1, .null)] = true := by decide +kernel
theorem kX4_ringFrom_36_2 : decB cX4_ringFrom 51 [(.iinc 3 1, .int 1), (.goto (-50), .retAddr 4)] = true := by decide +kernel
theorem kX4_ringFrom_36_3 : decB cX4_ringFrom 49 [(.iload_n 3, .null)] = true := by decide +kernel
theorem kX4_ringFrom_36_4 : decB cX4_ringFrom 42 [(.iconst 0, .int 0)] = true := by decide +kernel
theorem dX4_ringFrom_6 : decode cX4_ringFrom 6 = .ok (.getfield 12, 3) := by decide +kernel
theorem dX4_ringFrom_9 : decode cX4_ringFrom 9 = .ok (.getfield 33, 3) := by decide +kernel
theorem dX4_ringFrom_12 : decode cX4_ringFrom 12 = .ok (.if_icmp .gt 45, 3) := by decide +kernel
theorem dX4_ringFrom_16 : decode cX4_ringFrom 16 = .ok (.ifCond .lt 19, 3) := by decide +kernel
theorem dX4_ringFrom_23 : decode cX4_ringFrom 23 = .ok (.if_icmp .ge 12, 3) := by decide +kernel
theorem dX4_ringFrom_27 : decode cX4_ringFrom 27 = .ok (.getfield 18, 3) := by decide +kernel
theorem dX4_ringFrom_31 : decode cX4_ringFrom 31 = .ok (.iaload, 1) := by decide +kernel
theorem dX4_ringFrom_39 : decode cX4_ringFrom 39 = .ok (.if_icmp .ge 5, 3) := by decide +kernel
theorem dX4_ringFrom_43 : decode cX4_ringFrom 43 = .ok (.ireturn, 1) := by decide +kernel
theorem dX4_ringFrom_46 : decode cX4_ringFrom 46 = .ok (.if_icmp .ne 5, 3) := by decide +kernel
theorem dX4_ringFrom_50 : decode cX4_ringFrom 50 = .ok (.ireturn, 1) := by decide +kernel
theorem dX4_ringFrom_58 : decode cX4_ringFrom 58 = .ok (.ireturn, 1) := by decide +kernel
def fX4_ringFrom_36 (K4 : Nat → Int32 → Int32 → Int32 → Hp → Option (Int32 × Hp)) (a0 : Nat) (a1 : Int32) (a3 : Int32) (s0 : Int32) (H : Hp) : Option (Int32 × Hp) :=
  if (a1 ≤ s0 : Prop) then
    if (s0 = a1 : Prop) then
      some (a3, H)
    else
      K4 a0 a1 s0 (a3 + 1) H
  else
    some (0, H)
set_option maxHeartbeats 4000000 in
set_option maxRecDepth 100000 in
theorem tfX4_ringFrom_36 {G : GG} {r : Int32} {H' : Hp} {K4 : Nat → Int32 → Int32 → Int32 → Hp → Option (Int32 × Hp)} (hK4 : ∀ (a0 : Nat) (a1 : Int32) (a2 : Int32) (a3 : Int32) (H : Hp), K4 a0 a1 a2 a3 H = some (r, H') → Sn G (T0 G (some (.int r)) H') mX4_ringFrom 4 [some (.ref a0), some (.int a1), some (.int a2), some (.int a3)] [] H) {a0 : Nat} {a1 : Int32} {a3 : Int32} {s0 : Int32} {H : Hp} (h : fX4_ringFrom_36 K4 a0 a1 a3 s0 H = some (r, H')) : Sn G (T0 G (some (.int r)) H') mX4_ringFrom 36 [some (.ref a0), some (.int a1), none, some (.int a3)] [.int s0] H := by
  unfold fX4_ringFrom_36 at h
  refine sn_blk _ kX4_ringFrom_36_0 (pc' := 39) (L' := [some (.ref a0), some (.int a1), some (.int s0), some (.int a3)]) (st' := [.int a1, .int s0]) rfl rfl ?_
  refine sn_icmp_ge (tgt := 44) dX4_ringFrom_39 (by decide) (fun c => ?_) (fun c => ?_)
  · rw [if_pos c] at h
    refine sn_blk _ kX4_ringFrom_36_1 (pc' := 46) (L' := [some (.ref a0), some (.int a1), some (.int s0), some (.int a3)]) (st' := [.int a1, .int s0]) rfl rfl ?_
    refine sn_icmp_ne (tgt := 51) dX4_ringFrom_46 (by decide) (fun c => ?_) (fun c => ?_)
    · rw [if_neg c] at h
      refine sn_blk _ kX4_ringFrom_36_2 (pc' := 4) (L' := [some (.ref a0), some (.int a1), some (.int s0), some (.int (a3 + 1))]) (st' := []) rfl rfl ?_
      exact hK4 _ _ _ _ _ h
    · rw [if_pos c] at h
      refine sn_blk _ kX4_ringFrom_36_3 (pc' := 50) (L' := [some (.ref a0), some (.int a1), some (.int s0), some (.int a3)]) (st' := [.int a3]) rfl rfl ?_
      cases h
      exact sn_iret (ty := .int) dX4_ringFrom_50 rfl rfl
  · rw [if_neg c] at h
    refine sn_blk _ kX4_ringFrom_36_4 (pc' := 43) (L' := [some (.ref a0), some (.int a1), some (.int s0), some (.int a3)]) (st' := [.int 0]) rfl rfl ?_
    cases h
    exact sn_iret (ty := .int) dX4_ringFrom_43 rfl rfl
def fX4_ringFrom_35 (K4 : Nat → Int32 → Int32 → Int32 → Hp → Option (Int32 × Hp)) (a0 : Nat) (a1 : Int32) (a3 : Int32) (H : Hp) : Option (Int32 × Hp) :=
  fX4_ringFrom_36 K4 a0 a1 a3 (-1) H
set_option maxHeartbeats 4000000 in
set_option maxRecDepth 100000 in
theorem tfX4_ringFrom_35 {G : GG} {r : Int32} {H' : Hp} {K4 : Nat → Int32 → Int32 → Int32 → Hp → Option (Int32 × Hp)} (hK4 : ∀ (a0 : Nat) (a1 : Int32) (a2 : Int32) (a3 : Int32) (H : Hp), K4 a0 a1 a2 a3 H = some (r, H') → Sn G (T0 G (some (.int r)) H') mX4_ringFrom 4 [some (.ref a0), some (.int a1), some (.int a2), some (.int a3)] [] H) {a0 : Nat} {a1 : Int32} {a3 : Int32} {H : Hp} (h : fX4_ringFrom_35 K4 a0 a1 a3 H = some (r, H')) : Sn G (T0 G (some (.int r)) H') mX4_ringFrom 35 [some (.ref a0), some (.int a1), none, some (.int a3)] [] H := by
  unfold fX4_ringFrom_35 at h
  refine sn_blk _ kX4_ringFrom_35_0 (pc' := 36) (L' := [some (.ref a0), some (.int a1), none, some (.int a3)]) (st' := [.int (-1)]) rfl rfl ?_
  exact tfX4_ringFrom_36 hK4 h
def bX4_ringFrom_4 (K4 : Nat → Int32 → Int32 → Int32 → Hp → Option (Int32 × Hp)) (a0 : Nat) (a1 : Int32) (a2 : Int32) (a3 : Int32) (H : Hp) : Option (Int32 × Hp) :=
  bd (gA H a0 4 0) fun x1 =>
  bd (gI H x1 0 1) fun x2 =>
  if (x2 < a3 : Prop) then
    some (0, H)
  else
    if (a2 < 0 : Prop) then
      fX4_ringFrom_35 K4 a0 a1 a3 H
    else
      if (128 ≤ a2 : Prop) then
        fX4_ringFrom_35 K4 a0 a1 a3 H
      else
        bd (gA H a0 4 1) fun x3 =>
        bd (aI H x3 0 a2) fun x4 =>
        fX4_ringFrom_36 K4 a0 a1 a3 x4 H
set_option maxHeartbeats 4000000 in
set_option maxRecDepth 100000 in
theorem tbX4_ringFrom_4 {G : GG} {r : Int32} {H' : Hp} {K4 : Nat → Int32 → Int32 → Int32 → Hp → Option (Int32 × Hp)} (hK4 : ∀ (a0 : Nat) (a1 : Int32) (a2 : Int32) (a3 : Int32) (H : Hp), K4 a0 a1 a2 a3 H = some (r, H') → Sn G (T0 G (some (.int r)) H') mX4_ringFrom 4 [some (.ref a0), some (.int a1), some (.int a2), some (.int a3)] [] H) {a0 : Nat} {a1 : Int32} {a2 : Int32} {a3 : Int32} {H : Hp} (h : bX4_ringFrom_4 K4 a0 a1 a2 a3 H = some (r, H')) : Sn G (T0 G (some (.int r)) H') mX4_ringFrom 4 [some (.ref a0), some (.int a1), some (.int a2), some (.int a3)] [] H := by
  unfold bX4_ringFrom_4 at h
  refine sn_blk _ kX4_ringFrom_4_0 (pc' := 6) (L' := [some (.ref a0), some (.int a1), some (.int a2), some (.int a3)]) (st' := [.ref a0, .int a3]) rfl rfl ?_
  obtain ⟨x1, hx1, h⟩ := bd_inv h
  refine sn_gA dX4_ringFrom_6 foX4_12 hx1 ?_
  obtain ⟨x2, hx2, h⟩ := bd_inv h
  refine sn_gI dX4_ringFrom_9 foX4_33 hx2 ?_
  refine sn_icmp_gt (tgt := 57) dX4_ringFrom_12 (by decide) (fun c => ?_) (fun c => ?_)
  · rw [if_pos c] at h
    refine sn_blk _ kX4_ringFrom_4_1 (pc' := 58) (L' := [some (.ref a0), some (.int a1), some (.int a2), some (.int a3)]) (st' := [.int 0]) rfl rfl ?_
    cases h
    exact sn_iret (ty := .int) dX4_ringFrom_58 rfl rfl
  · rw [if_neg c] at h
    refine sn_blk _ kX4_ringFrom_4_2 (pc' := 16) (L' := [some (.ref a0), some (.int a1), some (.int a2), some (.int a3)]) (st' := [.int a2]) rfl rfl ?_
    refine sn_if_lt (tgt := 35) dX4_ringFrom_16 (by decide) (fun c => ?_) (fun c => ?_)
    · rw [if_pos c] at h
      refine sn_msk [true, true, false, true] (L2 := [some (.ref a0), some (.int a1), none, some (.int a3)]) rfl ?_
      exact tfX4_ringFrom_35 hK4 h
    · rw [if_neg c] at h
      refine sn_blk _ kX4_ringFrom_4_3 (pc' := 23) (L' := [some (.ref a0), some (.int a1), some (.int a2), some (.int a3)]) (st' := [.int 128, .int a2]) rfl rfl ?_
      refine sn_icmp_ge (tgt := 35) dX4_ringFrom_23 (by decide) (fun c => ?_) (fun c => ?_)
      · rw [if_pos c] at h
        refine sn_msk [true, true, false, true] (L2 := [some (.ref a0), some (.int a1), none, some (.int a3)]) rfl ?_
        exact tfX4_ringFrom_35 hK4 h
      · rw [if_neg c] at h
        refine sn_blk _ kX4_ringFrom_4_4 (pc' := 27) (L' := [some (.ref a0), some (.int a1), some (.int a2), some (.int a3)]) (st' := [.ref a0]) rfl rfl ?_
        obtain ⟨x3, hx3, h⟩ := bd_inv h
        refine sn_gA dX4_ringFrom_27 foX4_18 hx3 ?_
        refine sn_blk _ kX4_ringFrom_4_5 (pc' := 31) (L' := [some (.ref a0), some (.int a1), some (.int a2), some (.int a3)]) (st' := [.int a2, .ref x3]) rfl rfl ?_
        obtain ⟨x4, hx4, h⟩ := bd_inv h
        refine sn_iald dX4_ringFrom_31 hx4 ?_
        refine sn_blk _ kX4_ringFrom_4_6 (pc' := 36) (L' := [some (.ref a0), some (.int a1), some (.int a2), some (.int a3)]) (st' := [.int x4]) rfl rfl ?_
        refine sn_msk [true, true, false, true] (L2 := [some (.ref a0), some (.int a1), none, some (.int a3)]) rfl ?_
        exact tfX4_ringFrom_36 hK4 h
def fX4_ringFrom_4  : Nat → Nat → Int32 → Int32 → Int32 → Hp → Option (Int32 × Hp)
  | 0, _, _, _, _, _ => none
  | d + 1, a0, a1, a2, a3, H => bX4_ringFrom_4 (fX4_ringFrom_4  d) a0 a1 a2 a3 H
theorem tfX4_ringFrom_4 {G : GG} {r : Int32} {H' : Hp}   : ∀ (d : Nat) {a0 : Nat} {a1 : Int32} {a2 : Int32} {a3 : Int32} {H : Hp}, fX4_ringFrom_4  d a0 a1 a2 a3 H = some (r, H') → Sn G (T0 G (some (.int r)) H') mX4_ringFrom 4 [some (.ref a0), some (.int a1), some (.int a2), some (.int a3)] [] H := by
  intro d
  induction d with
  | zero => intro a0 a1 a2 a3 H h; cases h
  | succ d ih => intro a0 a1 a2 a3 H h; exact tbX4_ringFrom_4 (fun a0 a1 a2 a3 H h => ih h) h
def FX4_ringFrom  (a0 : Nat) (a1 : Int32) (H : Hp) : Option (Int32 × Hp) :=
  fX4_ringFrom_4  4096 a0 a1 a1 1 H
set_option maxHeartbeats 4000000 in
set_option maxRecDepth 100000 in
theorem tFX4_ringFrom {G : GG} {r : Int32} {H' : Hp}   {a0 : Nat} {a1 : Int32} {H : Hp} (h : FX4_ringFrom  a0 a1 H = some (r, H')) : Sn G (T0 G (some (.int r)) H') mX4_ringFrom 0 [some (.ref a0), some (.int a1), none, none] [] H := by
  unfold FX4_ringFrom at h
  refine sn_blk _ kX4_ringFrom_0_0 (pc' := 4) (L' := [some (.ref a0), some (.int a1), some (.int a1), some (.int 1)]) (st' := []) rfl rfl ?_
  exact tfX4_ringFrom_4  4096 h
theorem sX4_ringFrom {G : GG} {r : Int32} {H' : Hp} {a0 : Nat} {a1 : Int32} {H : Hp} (h : FX4_ringFrom a0 a1 H = some (r, H')) : SM G mX4_ringFrom [.ref a0, .int a1] H (some (.int r)) H' := tFX4_ringFrom h
/-! SquareFolds$NameOrbit.cusps()I -/
theorem kX4_cusps_0_0 : decB cX4_cusps 0 [(.iconst 0, .int 0), (.istore_n 1, .null), (.iconst 0, .int 0), (.istore_n 2, .null)] = true := by decide +kernel
theorem kX4_cusps_4_0 : decB cX4_cusps 4 [(.iload_n 2, .null), (.aload_n 0, .null)] = true := by decide +kernel
theorem kX4_cusps_4_1 : decB cX4_cusps 32 [(.iload_n 1, .null)] = true := by decide +kernel
theorem kX4_cusps_4_2 : decB cX4_cusps 15 [(.aload_n 0, .null), (.iload_n 2, .null)] = true := by decide +kernel
theorem kX4_cusps_4_3 : decB cX4_cusps 26 [(.iinc 2 1, .int 1), (.goto (-25), .retAddr 4)] = true := by decide +kernel
theorem kX4_cusps_4_4 : decB cX4_cusps 23 [(.iinc 1 1, .int 1), (.iinc 2 1, .int 1), (.goto (-25), .retAddr 4)] = true := by decide +kernel
theorem dX4_cusps_6 : decode cX4_cusps 6 = .ok (.getfield 12, 3) := by decide +kernel
theorem dX4_cusps_9 : decode cX4_cusps 9 = .ok (.getfield 33, 3) := by decide +kernel
theorem dX4_cusps_12 : decode cX4_cusps 12 = .ok (.if_icmp .ge 20, 3) := by decide +kernel
theorem dX4_cusps_17 : decode cX4_cusps 17 = .ok (.invokevirtual 59, 3) := by decide +kernel
theorem dX4_cusps_20 : decode cX4_cusps 20 = .ok (.ifCond .le 6, 3) := by decide +kernel
theorem dX4_cusps_33 : decode cX4_cusps 33 = .ok (.ireturn, 1) := by decide +kernel
def bX4_cusps_4 (K4 : Nat → Int32 → Int32 → Hp → Option (Int32 × Hp)) (a0 : Nat) (a1 : Int32) (a2 : Int32) (H : Hp) : Option (Int32 × Hp) :=
  bd (gA H a0 4 0) fun x1 =>
  bd (gI H x1 0 1) fun x2 =>
  if (x2 ≤ a2 : Prop) then
    some (a1, H)
  else
    gp (isO H a0 4 = true) (
      bd2 (FX4_ringFrom a0 a2 H) fun x3 H4 =>
      if (x3 ≤ 0 : Prop) then
        K4 a0 a1 (a2 + 1) H4
      else
        K4 a0 (a1 + 1) (a2 + 1) H4
      )
set_option maxHeartbeats 4000000 in
set_option maxRecDepth 100000 in
theorem tbX4_cusps_4 {G : GG} {r : Int32} {H' : Hp} {K4 : Nat → Int32 → Int32 → Hp → Option (Int32 × Hp)} (hK4 : ∀ (a0 : Nat) (a1 : Int32) (a2 : Int32) (H : Hp), K4 a0 a1 a2 H = some (r, H') → Sn G (T0 G (some (.int r)) H') mX4_cusps 4 [some (.ref a0), some (.int a1), some (.int a2)] [] H) {a0 : Nat} {a1 : Int32} {a2 : Int32} {H : Hp} (h : bX4_cusps_4 K4 a0 a1 a2 H = some (r, H')) : Sn G (T0 G (some (.int r)) H') mX4_cusps 4 [some (.ref a0), some (.int a1), some (.int a2)] [] H := by
  unfold bX4_cusps_4 at h
  refine sn_blk _ kX4_cusps_4_0 (pc' := 6) (L' := [some (.ref a0), some (.int a1), some (.int a2)]) (st' := [.ref a0, .int a2]) rfl rfl ?_
  obtain ⟨x1, hx1, h⟩ := bd_inv h
  refine sn_gA dX4_cusps_6 foX4_12 hx1 ?_
  obtain ⟨x2, hx2, h⟩ := bd_inv h
  refine sn_gI dX4_cusps_9 foX4_33 hx2 ?_
  refine sn_icmp_ge (tgt := 32) dX4_cusps_12 (by decide) (fun c => ?_) (fun c => ?_)
  · rw [if_pos c] at h
    refine sn_blk _ kX4_cusps_4_1 (pc' := 33) (L' := [some (.ref a0), some (.int a1), some (.int a2)]) (st' := [.int a1]) rfl rfl ?_
    cases h
    exact sn_iret (ty := .int) dX4_cusps_33 rfl rfl
  · rw [if_neg c] at h
    refine sn_blk _ kX4_cusps_4_2 (pc' := 17) (L' := [some (.ref a0), some (.int a1), some (.int a2)]) (st' := [.int a2, .ref a0]) rfl rfl ?_
    obtain ⟨ho, h⟩ := gp_inv h
    obtain ⟨fs, ho⟩ := isO_inv ho
    obtain ⟨x3, H4, hx3, h⟩ := bd2_inv h
    refine sn_callv (av := [.int a2]) (st := []) (M2 := mX4_ringFrom) dX4_cusps_17 msX4_ringFrom mlX4_59 rfl rfl rfl rfl rfl ho (sX4_ringFrom hx3) ?_
    refine sn_if_le (tgt := 26) dX4_cusps_20 (by decide) (fun c => ?_) (fun c => ?_)
    · rw [if_pos c] at h
      refine sn_blk _ kX4_cusps_4_3 (pc' := 4) (L' := [some (.ref a0), some (.int a1), some (.int (a2 + 1))]) (st' := []) rfl rfl ?_
      exact hK4 _ _ _ _ h
    · rw [if_neg c] at h
      refine sn_blk _ kX4_cusps_4_4 (pc' := 4) (L' := [some (.ref a0), some (.int (a1 + 1)), some (.int (a2 + 1))]) (st' := []) rfl rfl ?_
      exact hK4 _ _ _ _ h
def fX4_cusps_4  : Nat → Nat → Int32 → Int32 → Hp → Option (Int32 × Hp)
  | 0, _, _, _, _ => none
  | d + 1, a0, a1, a2, H => bX4_cusps_4 (fX4_cusps_4  d) a0 a1 a2 H
theorem tfX4_cusps_4 {G : GG} {r : Int32} {H' : Hp}   : ∀ (d : Nat) {a0 : Nat} {a1 : Int32} {a2 : Int32} {H : Hp}, fX4_cusps_4  d a0 a1 a2 H = some (r, H') → Sn G (T0 G (some (.int r)) H') mX4_cusps 4 [some (.ref a0), some (.int a1), some (.int a2)] [] H := by
  intro d
  induction d with
  | zero => intro a0 a1 a2 H h; cases h
  | succ d ih => intro a0 a1 a2 H h; exact tbX4_cusps_4 (fun a0 a1 a2 H h => ih h) h
def FX4_cusps  (a0 : Nat) (H : Hp) : Option (Int32 × Hp) :=
  fX4_cusps_4  4096 a0 0 0 H
set_option maxHeartbeats 4000000 in
set_option maxRecDepth 100000 in
theorem tFX4_cusps {G : GG} {r : Int32} {H' : Hp}   {a0 : Nat} {H : Hp} (h : FX4_cusps  a0 H = some (r, H')) : Sn G (T0 G (some (.int r)) H') mX4_cusps 0 [some (.ref a0), none, none] [] H := by
  unfold FX4_cusps at h
  refine sn_blk _ kX4_cusps_0_0 (pc' := 4) (L' := [some (.ref a0), some (.int 0), some (.int 0)]) (st' := []) rfl rfl ?_
  exact tfX4_cusps_4  4096 h
theorem sX4_cusps {G : GG} {r : Int32} {H' : Hp} {a0 : Nat} {H : Hp} (h : FX4_cusps a0 H = some (r, H')) : SM G mX4_cusps [.ref a0] H (some (.int r)) H' := tFX4_cusps h
/-! SquareFolds$NameOrbit.widest()I -/
theorem kX4_widest_0_0 : decB cX4_widest 0 [(.iconst 0, .int 0), (.istore_n 1, .null), (.iconst 0, .int 0), (.istore_n 2, .null)] = true := by decide +kernel
theorem kX4_widest_4_0 : decB cX4_widest 4 [(.iload_n 2, .null), (.aload_n 0, .null)] = true := by decide +kernel
theorem kX4_widest_4_1 : decB cX4_widest 31 [(.iload_n 1, .null)] = true := by decide +kernel
theorem kX4_widest_4_2 : decB cX4_widest 15 [(.iload_n 1, .null), (.aload_n 0, .null), (.iload_n 2, .null)] = true := by decide +kernel
theorem kX4_widest_4_3 : decB cX4_widest 24 [(.istore_n 1, .null), (.iinc 2 1, .int 1), (.goto (-24), .retAddr 4)] = true := by decide +kernel
theorem dX4_widest_6 : decode cX4_widest 6 = .ok (.getfield 12, 3) := by decide +kernel
theorem dX4_widest_9 : decode cX4_widest 9 = .ok (.getfield 33, 3) := by decide +kernel
theorem dX4_widest_12 : decode cX4_widest 12 = .ok (.if_icmp .ge 19, 3) := by decide +kernel
theorem dX4_widest_18 : decode cX4_widest 18 = .ok (.invokevirtual 59, 3) := by decide +kernel
theorem dX4_widest_21 : decode cX4_widest 21 = .ok (.invokestatic 63, 3) := by decide +kernel
theorem dX4_widest_32 : decode cX4_widest 32 = .ok (.ireturn, 1) := by decide +kernel
def bX4_widest_4 (K4 : Nat → Int32 → Int32 → Hp → Option (Int32 × Hp)) (a0 : Nat) (a1 : Int32) (a2 : Int32) (H : Hp) : Option (Int32 × Hp) :=
  bd (gA H a0 4 0) fun x1 =>
  bd (gI H x1 0 1) fun x2 =>
  if (x2 ≤ a2 : Prop) then
    some (a1, H)
  else
    gp (isO H a0 4 = true) (
      bd2 (FX4_ringFrom a0 a2 H) fun x3 H4 =>
      K4 a0 (if a1 < x3 then x3 else a1) (a2 + 1) H4
      )
set_option maxHeartbeats 4000000 in
set_option maxRecDepth 100000 in
theorem tbX4_widest_4 {G : GG} {r : Int32} {H' : Hp} {K4 : Nat → Int32 → Int32 → Hp → Option (Int32 × Hp)} (hK4 : ∀ (a0 : Nat) (a1 : Int32) (a2 : Int32) (H : Hp), K4 a0 a1 a2 H = some (r, H') → Sn G (T0 G (some (.int r)) H') mX4_widest 4 [some (.ref a0), some (.int a1), some (.int a2)] [] H) {a0 : Nat} {a1 : Int32} {a2 : Int32} {H : Hp} (h : bX4_widest_4 K4 a0 a1 a2 H = some (r, H')) : Sn G (T0 G (some (.int r)) H') mX4_widest 4 [some (.ref a0), some (.int a1), some (.int a2)] [] H := by
  unfold bX4_widest_4 at h
  refine sn_blk _ kX4_widest_4_0 (pc' := 6) (L' := [some (.ref a0), some (.int a1), some (.int a2)]) (st' := [.ref a0, .int a2]) rfl rfl ?_
  obtain ⟨x1, hx1, h⟩ := bd_inv h
  refine sn_gA dX4_widest_6 foX4_12 hx1 ?_
  obtain ⟨x2, hx2, h⟩ := bd_inv h
  refine sn_gI dX4_widest_9 foX4_33 hx2 ?_
  refine sn_icmp_ge (tgt := 31) dX4_widest_12 (by decide) (fun c => ?_) (fun c => ?_)
  · rw [if_pos c] at h
    refine sn_blk _ kX4_widest_4_1 (pc' := 32) (L' := [some (.ref a0), some (.int a1), some (.int a2)]) (st' := [.int a1]) rfl rfl ?_
    cases h
    exact sn_iret (ty := .int) dX4_widest_32 rfl rfl
  · rw [if_neg c] at h
    refine sn_blk _ kX4_widest_4_2 (pc' := 18) (L' := [some (.ref a0), some (.int a1), some (.int a2)]) (st' := [.int a2, .ref a0, .int a1]) rfl rfl ?_
    obtain ⟨ho, h⟩ := gp_inv h
    obtain ⟨fs, ho⟩ := isO_inv ho
    obtain ⟨x3, H4, hx3, h⟩ := bd2_inv h
    refine sn_callv (av := [.int a2]) (st := [.int a1]) (M2 := mX4_ringFrom) dX4_widest_18 msX4_ringFrom mlX4_59 rfl rfl rfl rfl rfl ho (sX4_ringFrom hx3) ?_
    refine sn_mmax dX4_widest_21 mlX4_63 (by decide +kernel) rfl ?_
    refine sn_blk _ kX4_widest_4_3 (pc' := 4) (L' := [some (.ref a0), some (.int (if a1 < x3 then x3 else a1)), some (.int (a2 + 1))]) (st' := []) rfl rfl ?_
    exact hK4 _ _ _ _ h
def fX4_widest_4  : Nat → Nat → Int32 → Int32 → Hp → Option (Int32 × Hp)
  | 0, _, _, _, _ => none
  | d + 1, a0, a1, a2, H => bX4_widest_4 (fX4_widest_4  d) a0 a1 a2 H
theorem tfX4_widest_4 {G : GG} {r : Int32} {H' : Hp}   : ∀ (d : Nat) {a0 : Nat} {a1 : Int32} {a2 : Int32} {H : Hp}, fX4_widest_4  d a0 a1 a2 H = some (r, H') → Sn G (T0 G (some (.int r)) H') mX4_widest 4 [some (.ref a0), some (.int a1), some (.int a2)] [] H := by
  intro d
  induction d with
  | zero => intro a0 a1 a2 H h; cases h
  | succ d ih => intro a0 a1 a2 H h; exact tbX4_widest_4 (fun a0 a1 a2 H h => ih h) h
def FX4_widest  (a0 : Nat) (H : Hp) : Option (Int32 × Hp) :=
  fX4_widest_4  4096 a0 0 0 H
set_option maxHeartbeats 4000000 in
set_option maxRecDepth 100000 in
theorem tFX4_widest {G : GG} {r : Int32} {H' : Hp}   {a0 : Nat} {H : Hp} (h : FX4_widest  a0 H = some (r, H')) : Sn G (T0 G (some (.int r)) H') mX4_widest 0 [some (.ref a0), none, none] [] H := by
  unfold FX4_widest at h
  refine sn_blk _ kX4_widest_0_0 (pc' := 4) (L' := [some (.ref a0), some (.int 0), some (.int 0)]) (st' := []) rfl rfl ?_
  exact tfX4_widest_4  4096 h
theorem sX4_widest {G : GG} {r : Int32} {H' : Hp} {a0 : Nat} {H : Hp} (h : FX4_widest a0 H = some (r, H')) : SM G mX4_widest [.ref a0] H (some (.int r)) H' := tFX4_widest h
