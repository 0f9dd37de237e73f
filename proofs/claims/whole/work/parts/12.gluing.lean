/-! SquareFolds$Gluing.become(III)V -/
theorem kX2_become_0_0 : decB cX2_become 0 [(.aload_n 0, .null), (.iload_n 1, .null)] = true := by decide +kernel
theorem kX2_become_0_1 : decB cX2_become 5 [(.aload_n 0, .null), (.iload_n 2, .null)] = true := by decide +kernel
theorem kX2_become_0_2 : decB cX2_become 10 [(.aload_n 0, .null), (.iload_n 3, .null)] = true := by decide +kernel
theorem dX2_become_2 : decode cX2_become 2 = .ok (.putfield 9, 3) := by decide +kernel
theorem dX2_become_7 : decode cX2_become 7 = .ok (.putfield 15, 3) := by decide +kernel
theorem dX2_become_12 : decode cX2_become 12 = .ok (.putfield 18, 3) := by decide +kernel
theorem dX2_become_15 : decode cX2_become 15 = .ok (.return_, 1) := by decide +kernel
def FX2_become  (a0 : Nat) (a1 : Int32) (a2 : Int32) (a3 : Int32) (H : Hp) : Option (Unit × Hp) :=
  bd (pV H a0 2 0 (.int a1)) fun H1 =>
  bd (pV H1 a0 2 1 (.int a2)) fun H2 =>
  bd (pV H2 a0 2 2 (.int a3)) fun H3 =>
  some ((), H3)
set_option maxHeartbeats 4000000 in
set_option maxRecDepth 100000 in
theorem tFX2_become {G : GG} {r : Unit} {H' : Hp}   {a0 : Nat} {a1 : Int32} {a2 : Int32} {a3 : Int32} {H : Hp} (h : FX2_become  a0 a1 a2 a3 H = some (r, H')) : Sn G (T0 G none H') mX2_become 0 [some (.ref a0), some (.int a1), some (.int a2), some (.int a3)] [] H := by
  unfold FX2_become at h
  refine sn_blk _ kX2_become_0_0 (pc' := 2) (L' := [some (.ref a0), some (.int a1), some (.int a2), some (.int a3)]) (st' := [.int a1, .ref a0]) rfl rfl ?_
  obtain ⟨H1, hH1, h⟩ := bd_inv h
  refine sn_pI dX2_become_2 foX2_9 fpX2_0 hH1 ?_
  refine sn_blk _ kX2_become_0_1 (pc' := 7) (L' := [some (.ref a0), some (.int a1), some (.int a2), some (.int a3)]) (st' := [.int a2, .ref a0]) rfl rfl ?_
  obtain ⟨H2, hH2, h⟩ := bd_inv h
  refine sn_pI dX2_become_7 foX2_15 fpX2_1 hH2 ?_
  refine sn_blk _ kX2_become_0_2 (pc' := 12) (L' := [some (.ref a0), some (.int a1), some (.int a2), some (.int a3)]) (st' := [.int a3, .ref a0]) rfl rfl ?_
  obtain ⟨H3, hH3, h⟩ := bd_inv h
  refine sn_pI dX2_become_12 foX2_18 fpX2_2 hH3 ?_
  cases h
  exact sn_vret dX2_become_15 rfl
theorem sX2_become {G : GG} {r : Unit} {H' : Hp} {a0 : Nat} {a1 : Int32} {a2 : Int32} {a3 : Int32} {H : Hp} (h : FX2_become a0 a1 a2 a3 H = some (r, H')) : SM G mX2_become [.ref a0, .int a1, .int a2, .int a3] H none H' := tFX2_become h
/-! SquareFolds$Gluing.all()I -/
theorem kX2_all_0_0 : decB cX2_all 0 [(.iconst 1, .int 1), (.aload_n 0, .null)] = true := by decide +kernel
theorem kX2_all_0_1 : decB cX2_all 5 [(.ishl, .null), (.iconst 1, .int 1), (.isub, .null)] = true := by decide +kernel
theorem dX2_all_2 : decode cX2_all 2 = .ok (.getfield 9, 3) := by decide +kernel
theorem dX2_all_8 : decode cX2_all 8 = .ok (.ireturn, 1) := by decide +kernel
def FX2_all  (a0 : Nat) (H : Hp) : Option (Int32 × Hp) :=
  bd (gI H a0 2 0) fun x1 =>
  some (((1 <<< (x1 &&& 31)) - 1), H)
set_option maxHeartbeats 4000000 in
set_option maxRecDepth 100000 in
theorem tFX2_all {G : GG} {r : Int32} {H' : Hp}   {a0 : Nat} {H : Hp} (h : FX2_all  a0 H = some (r, H')) : Sn G (T0 G (some (.int r)) H') mX2_all 0 [some (.ref a0)] [] H := by
  unfold FX2_all at h
  refine sn_blk _ kX2_all_0_0 (pc' := 2) (L' := [some (.ref a0)]) (st' := [.ref a0, .int 1]) rfl rfl ?_
  obtain ⟨x1, hx1, h⟩ := bd_inv h
  refine sn_gI dX2_all_2 foX2_9 hx1 ?_
  refine sn_blk _ kX2_all_0_1 (pc' := 8) (L' := [some (.ref a0)]) (st' := [.int ((1 <<< (x1 &&& 31)) - 1)]) rfl rfl ?_
  cases h
  exact sn_iret (ty := .int) dX2_all_8 rfl rfl
theorem sX2_all {G : GG} {r : Int32} {H' : Hp} {a0 : Nat} {H : Hp} (h : FX2_all a0 H = some (r, H')) : SM G mX2_all [.ref a0] H (some (.int r)) H' := tFX2_all h
/-! SquareFolds$Gluing.joined(III)I -/
theorem kX2_joined_0_0 : decB cX2_joined 0 [(.iload_n 1, .null), (.iload_n 2, .null), (.iand, .null), (.iload_n 1, .null)] = true := by decide +kernel
theorem kX2_joined_0_1 : decB cX2_joined 19 [(.iload_n 0, .null)] = true := by decide +kernel
theorem kX2_joined_0_2 : decB cX2_joined 7 [(.iload_n 1, .null), (.iload_n 0, .null), (.iand, .null)] = true := by decide +kernel
theorem kX2_joined_0_3 : decB cX2_joined 19 [(.iload_n 0, .null)] = true := by decide +kernel
theorem kX2_joined_0_4 : decB cX2_joined 13 [(.iload_n 0, .null), (.iload_n 1, .null), (.ior, .null), (.goto 4, .retAddr 20)] = true := by decide +kernel
theorem dX2_joined_4 : decode cX2_joined 4 = .ok (.if_icmp .ne 15, 3) := by decide +kernel
theorem dX2_joined_10 : decode cX2_joined 10 = .ok (.ifCond .eq 9, 3) := by decide +kernel
theorem dX2_joined_20 : decode cX2_joined 20 = .ok (.ireturn, 1) := by decide +kernel
def FX2_joined  (a0 : Int32) (a1 : Int32) (a2 : Int32) (H : Hp) : Option (Int32 × Hp) :=
  if ((a1 &&& a2) = a1 : Prop) then
    if ((a1 &&& a0) = 0 : Prop) then
      some (a0, H)
    else
      some ((a0 ||| a1), H)
  else
    some (a0, H)
set_option maxHeartbeats 4000000 in
set_option maxRecDepth 100000 in
theorem tFX2_joined {G : GG} {r : Int32} {H' : Hp}   {a0 : Int32} {a1 : Int32} {a2 : Int32} {H : Hp} (h : FX2_joined  a0 a1 a2 H = some (r, H')) : Sn G (T0 G (some (.int r)) H') mX2_joined 0 [some (.int a0), some (.int a1), some (.int a2)] [] H := by
  unfold FX2_joined at h
  refine sn_blk _ kX2_joined_0_0 (pc' := 4) (L' := [some (.int a0), some (.int a1), some (.int a2)]) (st' := [.int a1, .int (a1 &&& a2)]) rfl rfl ?_
  refine sn_icmp_ne (tgt := 19) dX2_joined_4 (by decide) (fun c => ?_) (fun c => ?_)
  · rw [if_neg c] at h
    refine sn_blk _ kX2_joined_0_1 (pc' := 20) (L' := [some (.int a0), some (.int a1), some (.int a2)]) (st' := [.int a0]) rfl rfl ?_
    cases h
    exact sn_iret (ty := .int) dX2_joined_20 rfl rfl
  · rw [if_pos c] at h
    refine sn_blk _ kX2_joined_0_2 (pc' := 10) (L' := [some (.int a0), some (.int a1), some (.int a2)]) (st' := [.int (a1 &&& a0)]) rfl rfl ?_
    refine sn_if_eq (tgt := 19) dX2_joined_10 (by decide) (fun c => ?_) (fun c => ?_)
    · rw [if_pos c] at h
      refine sn_blk _ kX2_joined_0_3 (pc' := 20) (L' := [some (.int a0), some (.int a1), some (.int a2)]) (st' := [.int a0]) rfl rfl ?_
      cases h
      exact sn_iret (ty := .int) dX2_joined_20 rfl rfl
    · rw [if_neg c] at h
      refine sn_blk _ kX2_joined_0_4 (pc' := 20) (L' := [some (.int a0), some (.int a1), some (.int a2)]) (st' := [.int (a0 ||| a1)]) rfl rfl ?_
      cases h
      exact sn_iret (ty := .int) dX2_joined_20 rfl rfl
theorem sX2_joined {G : GG} {r : Int32} {H' : Hp} {a0 : Int32} {a1 : Int32} {a2 : Int32} {H : Hp} (h : FX2_joined a0 a1 a2 H = some (r, H')) : SM G mX2_joined [.int a0, .int a1, .int a2] H (some (.int r)) H' := tFX2_joined h
/-! SquareFolds$Gluing.reach(III)I -/
theorem kX2_reach_0_0 : decB cX2_reach 0 [(.iconst 1, .int 1), (.iload_n 1, .null), (.ishl, .null), (.istore 4, .null), (.iconst 1, .int 1), (.istore 5, .null)] = true := by decide +kernel
theorem kX2_reach_8_0 : decB cX2_reach 8 [(.iload 5, .null), (.aload_n 0, .null)] = true := by decide +kernel
theorem kX2_reach_8_1 : decB cX2_reach 112 [(.iload 4, .null)] = true := by decide +kernel
theorem kX2_reach_8_2 : decB cX2_reach 17 [(.iload 4, .null), (.istore 6, .null), (.iconst 0, .int 0), (.istore 7, .null)] = true := by decide +kernel
theorem kX2_reach_24_0 : decB cX2_reach 24 [(.iload 7, .null), (.aload_n 0, .null)] = true := by decide +kernel
theorem kX2_reach_24_1 : decB cX2_reach 96 [(.iload 4, .null), (.iload 6, .null)] = true := by decide +kernel
theorem kX2_reach_24_2 : decB cX2_reach 106 [(.iinc 5 1, .int 1), (.goto (-101), .retAddr 8)] = true := by decide +kernel
theorem kX2_reach_24_3 : decB cX2_reach 103 [(.goto 9, .retAddr 112), (.iload 4, .null)] = true := by decide +kernel
theorem kX2_reach_24_4 : decB cX2_reach 33 [(.iload_n 3, .null), (.iload 7, .null)] = true := by decide +kernel
theorem kX2_reach_24_5 : decB cX2_reach 42 [(.iload 4, .null), (.iconst 1, .int 1), (.iload 7, .null), (.ishl, .null), (.iconst 1, .int 1), (.aload_n 0, .null)] = true := by decide +kernel
theorem kX2_reach_24_6 : decB cX2_reach 53 [(.iload 7, .null)] = true := by decide +kernel
theorem kX2_reach_24_7 : decB cX2_reach 58 [(.ishl, .null), (.ior, .null), (.iload_n 2, .null)] = true := by decide +kernel
theorem kX2_reach_24_8 : decB cX2_reach 64 [(.istore 4, .null)] = true := by decide +kernel
theorem kX2_reach_66_0 : decB cX2_reach 66 [(.iload 4, .null), (.iconst 1, .int 1), (.iload 7, .null), (.ishl, .null), (.iconst 1, .int 1), (.aload_n 0, .null)] = true := by decide +kernel
theorem kX2_reach_66_1 : decB cX2_reach 77 [(.iload 7, .null)] = true := by decide +kernel
theorem kX2_reach_66_2 : decB cX2_reach 82 [(.ishl, .null), (.ior, .null), (.iload_n 2, .null)] = true := by decide +kernel
theorem kX2_reach_66_3 : decB cX2_reach 88 [(.istore 4, .null), (.iinc 7 1, .int 1), (.goto (-69), .retAddr 24)] = true := by decide +kernel
theorem dX2_reach_11 : decode cX2_reach 11 = .ok (.getfield 9, 3) := by decide +kernel
theorem dX2_reach_14 : decode cX2_reach 14 = .ok (.if_icmp .ge 98, 3) := by decide +kernel
theorem dX2_reach_27 : decode cX2_reach 27 = .ok (.getfield 9, 3) := by decide +kernel
theorem dX2_reach_30 : decode cX2_reach 30 = .ok (.if_icmp .ge 66, 3) := by decide +kernel
theorem dX2_reach_36 : decode cX2_reach 36 = .ok (.invokestatic 40, 3) := by decide +kernel
theorem dX2_reach_39 : decode cX2_reach 39 = .ok (.ifCond .ne 27, 3) := by decide +kernel
theorem dX2_reach_50 : decode cX2_reach 50 = .ok (.getfield 15, 3) := by decide +kernel
theorem dX2_reach_55 : decode cX2_reach 55 = .ok (.invokestatic 27, 3) := by decide +kernel
theorem dX2_reach_61 : decode cX2_reach 61 = .ok (.invokestatic 44, 3) := by decide +kernel
theorem dX2_reach_74 : decode cX2_reach 74 = .ok (.getfield 18, 3) := by decide +kernel
theorem dX2_reach_79 : decode cX2_reach 79 = .ok (.invokestatic 27, 3) := by decide +kernel
theorem dX2_reach_85 : decode cX2_reach 85 = .ok (.invokestatic 44, 3) := by decide +kernel
theorem dX2_reach_100 : decode cX2_reach 100 = .ok (.if_icmp .ne 6, 3) := by decide +kernel
theorem dX2_reach_114 : decode cX2_reach 114 = .ok (.ireturn, 1) := by decide +kernel
def fX2_reach_66 (K8 : Nat → Int32 → Int32 → Int32 → Int32 → Hp → Option (Int32 × Hp)) (K24 : Nat → Int32 → Int32 → Int32 → Int32 → Int32 → Int32 → Hp → Option (Int32 × Hp)) (a0 : Nat) (a2 : Int32) (a3 : Int32) (a4 : Int32) (a5 : Int32) (a6 : Int32) (a7 : Int32) (H : Hp) : Option (Int32 × Hp) :=
  bd (gI H a0 2 2) fun x1 =>
  bd2 (FX6_at x1 a7 H) fun x2 H3 =>
  bd2 (FX2_joined a4 ((1 <<< (a7 &&& 31)) ||| (1 <<< (x2 &&& 31))) a2 H3) fun x4 H5 =>
  K24 a0 a2 a3 x4 a5 a6 (a7 + 1) H5
set_option maxHeartbeats 4000000 in
set_option maxRecDepth 100000 in
theorem tfX2_reach_66 {G : GG} {r : Int32} {H' : Hp} {K8 : Nat → Int32 → Int32 → Int32 → Int32 → Hp → Option (Int32 × Hp)} {K24 : Nat → Int32 → Int32 → Int32 → Int32 → Int32 → Int32 → Hp → Option (Int32 × Hp)} (hK8 : ∀ (a0 : Nat) (a2 : Int32) (a3 : Int32) (a4 : Int32) (a5 : Int32) (H : Hp), K8 a0 a2 a3 a4 a5 H = some (r, H') → Sn G (T0 G (some (.int r)) H') mX2_reach 8 [some (.ref a0), none, some (.int a2), some (.int a3), some (.int a4), some (.int a5), none, none] [] H) (hK24 : ∀ (a0 : Nat) (a2 : Int32) (a3 : Int32) (a4 : Int32) (a5 : Int32) (a6 : Int32) (a7 : Int32) (H : Hp), K24 a0 a2 a3 a4 a5 a6 a7 H = some (r, H') → Sn G (T0 G (some (.int r)) H') mX2_reach 24 [some (.ref a0), none, some (.int a2), some (.int a3), some (.int a4), some (.int a5), some (.int a6), some (.int a7)] [] H) {a0 : Nat} {a2 : Int32} {a3 : Int32} {a4 : Int32} {a5 : Int32} {a6 : Int32} {a7 : Int32} {H : Hp} (h : fX2_reach_66 K8 K24 a0 a2 a3 a4 a5 a6 a7 H = some (r, H')) : Sn G (T0 G (some (.int r)) H') mX2_reach 66 [some (.ref a0), none, some (.int a2), some (.int a3), some (.int a4), some (.int a5), some (.int a6), some (.int a7)] [] H := by
  unfold fX2_reach_66 at h
  refine sn_blk _ kX2_reach_66_0 (pc' := 74) (L' := [some (.ref a0), none, some (.int a2), some (.int a3), some (.int a4), some (.int a5), some (.int a6), some (.int a7)]) (st' := [.ref a0, .int 1, .int (1 <<< (a7 &&& 31)), .int a4]) rfl rfl ?_
  obtain ⟨x1, hx1, h⟩ := bd_inv h
  refine sn_gI dX2_reach_74 foX2_18 hx1 ?_
  refine sn_blk _ kX2_reach_66_1 (pc' := 79) (L' := [some (.ref a0), none, some (.int a2), some (.int a3), some (.int a4), some (.int a5), some (.int a6), some (.int a7)]) (st' := [.int a7, .int x1, .int 1, .int (1 <<< (a7 &&& 31)), .int a4]) rfl rfl ?_
  obtain ⟨x2, H3, hx2, h⟩ := bd2_inv h
  refine sn_calls (av := [.int x1, .int a7]) (st := [.int 1, .int (1 <<< (a7 &&& 31)), .int a4]) (M2 := mX6_at) dX2_reach_79 msX6_at mlX2_27 rfl rfl rfl rfl rfl (sX6_at hx2) ?_
  refine sn_blk _ kX2_reach_66_2 (pc' := 85) (L' := [some (.ref a0), none, some (.int a2), some (.int a3), some (.int a4), some (.int a5), some (.int a6), some (.int a7)]) (st' := [.int a2, .int ((1 <<< (a7 &&& 31)) ||| (1 <<< (x2 &&& 31))), .int a4]) rfl rfl ?_
  obtain ⟨x4, H5, hx4, h⟩ := bd2_inv h
  refine sn_calls (av := [.int a4, .int ((1 <<< (a7 &&& 31)) ||| (1 <<< (x2 &&& 31))), .int a2]) (st := []) (M2 := mX2_joined) dX2_reach_85 msX2_joined mlX2_44 rfl rfl rfl rfl rfl (sX2_joined hx4) ?_
  refine sn_blk _ kX2_reach_66_3 (pc' := 24) (L' := [some (.ref a0), none, some (.int a2), some (.int a3), some (.int x4), some (.int a5), some (.int a6), some (.int (a7 + 1))]) (st' := []) rfl rfl ?_
  exact hK24 _ _ _ _ _ _ _ _ h
def bX2_reach_24 (K8 : Nat → Int32 → Int32 → Int32 → Int32 → Hp → Option (Int32 × Hp)) (K24 : Nat → Int32 → Int32 → Int32 → Int32 → Int32 → Int32 → Hp → Option (Int32 × Hp)) (a0 : Nat) (a2 : Int32) (a3 : Int32) (a4 : Int32) (a5 : Int32) (a6 : Int32) (a7 : Int32) (H : Hp) : Option (Int32 × Hp) :=
  bd (gI H a0 2 0) fun x1 =>
  if (x1 ≤ a7 : Prop) then
    if (a4 = a6 : Prop) then
      some (a4, H)
    else
      K8 a0 a2 a3 a4 (a5 + 1) H
  else
    bd2 (FX6_isIn a3 a7 H) fun x2 H3 =>
    if (x2 = 0 : Prop) then
      bd (gI H3 a0 2 1) fun x4 =>
      bd2 (FX6_at x4 a7 H3) fun x5 H6 =>
      bd2 (FX2_joined a4 ((1 <<< (a7 &&& 31)) ||| (1 <<< (x5 &&& 31))) a2 H6) fun x7 H8 =>
      fX2_reach_66 K8 K24 a0 a2 a3 x7 a5 a6 a7 H8
    else
      fX2_reach_66 K8 K24 a0 a2 a3 a4 a5 a6 a7 H3
set_option maxHeartbeats 4000000 in
set_option maxRecDepth 100000 in
theorem tbX2_reach_24 {G : GG} {r : Int32} {H' : Hp} {K8 : Nat → Int32 → Int32 → Int32 → Int32 → Hp → Option (Int32 × Hp)} {K24 : Nat → Int32 → Int32 → Int32 → Int32 → Int32 → Int32 → Hp → Option (Int32 × Hp)} (hK8 : ∀ (a0 : Nat) (a2 : Int32) (a3 : Int32) (a4 : Int32) (a5 : Int32) (H : Hp), K8 a0 a2 a3 a4 a5 H = some (r, H') → Sn G (T0 G (some (.int r)) H') mX2_reach 8 [some (.ref a0), none, some (.int a2), some (.int a3), some (.int a4), some (.int a5), none, none] [] H) (hK24 : ∀ (a0 : Nat) (a2 : Int32) (a3 : Int32) (a4 : Int32) (a5 : Int32) (a6 : Int32) (a7 : Int32) (H : Hp), K24 a0 a2 a3 a4 a5 a6 a7 H = some (r, H') → Sn G (T0 G (some (.int r)) H') mX2_reach 24 [some (.ref a0), none, some (.int a2), some (.int a3), some (.int a4), some (.int a5), some (.int a6), some (.int a7)] [] H) {a0 : Nat} {a2 : Int32} {a3 : Int32} {a4 : Int32} {a5 : Int32} {a6 : Int32} {a7 : Int32} {H : Hp} (h : bX2_reach_24 K8 K24 a0 a2 a3 a4 a5 a6 a7 H = some (r, H')) : Sn G (T0 G (some (.int r)) H') mX2_reach 24 [some (.ref a0), none, some (.int a2), some (.int a3), some (.int a4), some (.int a5), some (.int a6), some (.int a7)] [] H := by
  unfold bX2_reach_24 at h
  refine sn_blk _ kX2_reach_24_0 (pc' := 27) (L' := [some (.ref a0), none, some (.int a2), some (.int a3), some (.int a4), some (.int a5), some (.int a6), some (.int a7)]) (st' := [.ref a0, .int a7]) rfl rfl ?_
  obtain ⟨x1, hx1, h⟩ := bd_inv h
  refine sn_gI dX2_reach_27 foX2_9 hx1 ?_
  refine sn_icmp_ge (tgt := 96) dX2_reach_30 (by decide) (fun c => ?_) (fun c => ?_)
  · rw [if_pos c] at h
    refine sn_blk _ kX2_reach_24_1 (pc' := 100) (L' := [some (.ref a0), none, some (.int a2), some (.int a3), some (.int a4), some (.int a5), some (.int a6), some (.int a7)]) (st' := [.int a6, .int a4]) rfl rfl ?_
    refine sn_icmp_ne (tgt := 106) dX2_reach_100 (by decide) (fun c => ?_) (fun c => ?_)
    · rw [if_neg c] at h
      refine sn_blk _ kX2_reach_24_2 (pc' := 8) (L' := [some (.ref a0), none, some (.int a2), some (.int a3), some (.int a4), some (.int (a5 + 1)), some (.int a6), some (.int a7)]) (st' := []) rfl rfl ?_
      refine sn_msk [true, true, true, true, true, true, false, false] (L2 := [some (.ref a0), none, some (.int a2), some (.int a3), some (.int a4), some (.int (a5 + 1)), none, none]) rfl ?_
      exact hK8 _ _ _ _ _ _ h
    · rw [if_pos c] at h
      refine sn_blk _ kX2_reach_24_3 (pc' := 114) (L' := [some (.ref a0), none, some (.int a2), some (.int a3), some (.int a4), some (.int a5), some (.int a6), some (.int a7)]) (st' := [.int a4]) rfl rfl ?_
      cases h
      exact sn_iret (ty := .int) dX2_reach_114 rfl rfl
  · rw [if_neg c] at h
    refine sn_blk _ kX2_reach_24_4 (pc' := 36) (L' := [some (.ref a0), none, some (.int a2), some (.int a3), some (.int a4), some (.int a5), some (.int a6), some (.int a7)]) (st' := [.int a7, .int a3]) rfl rfl ?_
    obtain ⟨x2, H3, hx2, h⟩ := bd2_inv h
    refine sn_calls (av := [.int a3, .int a7]) (st := []) (M2 := mX6_isIn) dX2_reach_36 msX6_isIn mlX2_40 rfl rfl rfl rfl rfl (sX6_isIn hx2) ?_
    refine sn_if_ne (tgt := 66) dX2_reach_39 (by decide) (fun c => ?_) (fun c => ?_)
    · rw [if_neg c] at h
      exact tfX2_reach_66 hK8 hK24 h
    · rw [if_pos c] at h
      refine sn_blk _ kX2_reach_24_5 (pc' := 50) (L' := [some (.ref a0), none, some (.int a2), some (.int a3), some (.int a4), some (.int a5), some (.int a6), some (.int a7)]) (st' := [.ref a0, .int 1, .int (1 <<< (a7 &&& 31)), .int a4]) rfl rfl ?_
      obtain ⟨x4, hx4, h⟩ := bd_inv h
      refine sn_gI dX2_reach_50 foX2_15 hx4 ?_
      refine sn_blk _ kX2_reach_24_6 (pc' := 55) (L' := [some (.ref a0), none, some (.int a2), some (.int a3), some (.int a4), some (.int a5), some (.int a6), some (.int a7)]) (st' := [.int a7, .int x4, .int 1, .int (1 <<< (a7 &&& 31)), .int a4]) rfl rfl ?_
      obtain ⟨x5, H6, hx5, h⟩ := bd2_inv h
      refine sn_calls (av := [.int x4, .int a7]) (st := [.int 1, .int (1 <<< (a7 &&& 31)), .int a4]) (M2 := mX6_at) dX2_reach_55 msX6_at mlX2_27 rfl rfl rfl rfl rfl (sX6_at hx5) ?_
      refine sn_blk _ kX2_reach_24_7 (pc' := 61) (L' := [some (.ref a0), none, some (.int a2), some (.int a3), some (.int a4), some (.int a5), some (.int a6), some (.int a7)]) (st' := [.int a2, .int ((1 <<< (a7 &&& 31)) ||| (1 <<< (x5 &&& 31))), .int a4]) rfl rfl ?_
      obtain ⟨x7, H8, hx7, h⟩ := bd2_inv h
      refine sn_calls (av := [.int a4, .int ((1 <<< (a7 &&& 31)) ||| (1 <<< (x5 &&& 31))), .int a2]) (st := []) (M2 := mX2_joined) dX2_reach_61 msX2_joined mlX2_44 rfl rfl rfl rfl rfl (sX2_joined hx7) ?_
      refine sn_blk _ kX2_reach_24_8 (pc' := 66) (L' := [some (.ref a0), none, some (.int a2), some (.int a3), some (.int x7), some (.int a5), some (.int a6), some (.int a7)]) (st' := []) rfl rfl ?_
      exact tfX2_reach_66 hK8 hK24 h
def fX2_reach_24 (K8 : Nat → Int32 → Int32 → Int32 → Int32 → Hp → Option (Int32 × Hp)) : Nat → Nat → Int32 → Int32 → Int32 → Int32 → Int32 → Int32 → Hp → Option (Int32 × Hp)
  | 0, _, _, _, _, _, _, _, _ => none
  | d + 1, a0, a2, a3, a4, a5, a6, a7, H => bX2_reach_24 K8 (fX2_reach_24 K8 d) a0 a2 a3 a4 a5 a6 a7 H
theorem tfX2_reach_24 {G : GG} {r : Int32} {H' : Hp} {K8 : Nat → Int32 → Int32 → Int32 → Int32 → Hp → Option (Int32 × Hp)} (hK8 : ∀ (a0 : Nat) (a2 : Int32) (a3 : Int32) (a4 : Int32) (a5 : Int32) (H : Hp), K8 a0 a2 a3 a4 a5 H = some (r, H') → Sn G (T0 G (some (.int r)) H') mX2_reach 8 [some (.ref a0), none, some (.int a2), some (.int a3), some (.int a4), some (.int a5), none, none] [] H) : ∀ (d : Nat) {a0 : Nat} {a2 : Int32} {a3 : Int32} {a4 : Int32} {a5 : Int32} {a6 : Int32} {a7 : Int32} {H : Hp}, fX2_reach_24 K8 d a0 a2 a3 a4 a5 a6 a7 H = some (r, H') → Sn G (T0 G (some (.int r)) H') mX2_reach 24 [some (.ref a0), none, some (.int a2), some (.int a3), some (.int a4), some (.int a5), some (.int a6), some (.int a7)] [] H := by
  intro d
  induction d with
  | zero => intro a0 a2 a3 a4 a5 a6 a7 H h; cases h
  | succ d ih => intro a0 a2 a3 a4 a5 a6 a7 H h; exact tbX2_reach_24 hK8 (fun a0 a2 a3 a4 a5 a6 a7 H h => ih h) h
def bX2_reach_8 (K8 : Nat → Int32 → Int32 → Int32 → Int32 → Hp → Option (Int32 × Hp)) (a0 : Nat) (a2 : Int32) (a3 : Int32) (a4 : Int32) (a5 : Int32) (H : Hp) : Option (Int32 × Hp) :=
  bd (gI H a0 2 0) fun x1 =>
  if (x1 ≤ a5 : Prop) then
    some (a4, H)
  else
    fX2_reach_24 K8 4096 a0 a2 a3 a4 a5 a4 0 H
set_option maxHeartbeats 4000000 in
set_option maxRecDepth 100000 in
theorem tbX2_reach_8 {G : GG} {r : Int32} {H' : Hp} {K8 : Nat → Int32 → Int32 → Int32 → Int32 → Hp → Option (Int32 × Hp)} (hK8 : ∀ (a0 : Nat) (a2 : Int32) (a3 : Int32) (a4 : Int32) (a5 : Int32) (H : Hp), K8 a0 a2 a3 a4 a5 H = some (r, H') → Sn G (T0 G (some (.int r)) H') mX2_reach 8 [some (.ref a0), none, some (.int a2), some (.int a3), some (.int a4), some (.int a5), none, none] [] H) {a0 : Nat} {a2 : Int32} {a3 : Int32} {a4 : Int32} {a5 : Int32} {H : Hp} (h : bX2_reach_8 K8 a0 a2 a3 a4 a5 H = some (r, H')) : Sn G (T0 G (some (.int r)) H') mX2_reach 8 [some (.ref a0), none, some (.int a2), some (.int a3), some (.int a4), some (.int a5), none, none] [] H := by
  unfold bX2_reach_8 at h
  refine sn_blk _ kX2_reach_8_0 (pc' := 11) (L' := [some (.ref a0), none, some (.int a2), some (.int a3), some (.int a4), some (.int a5), none, none]) (st' := [.ref a0, .int a5]) rfl rfl ?_
  obtain ⟨x1, hx1, h⟩ := bd_inv h
  refine sn_gI dX2_reach_11 foX2_9 hx1 ?_
  refine sn_icmp_ge (tgt := 112) dX2_reach_14 (by decide) (fun c => ?_) (fun c => ?_)
  · rw [if_pos c] at h
    refine sn_blk _ kX2_reach_8_1 (pc' := 114) (L' := [some (.ref a0), none, some (.int a2), some (.int a3), some (.int a4), some (.int a5), none, none]) (st' := [.int a4]) rfl rfl ?_
    cases h
    exact sn_iret (ty := .int) dX2_reach_114 rfl rfl
  · rw [if_neg c] at h
    refine sn_blk _ kX2_reach_8_2 (pc' := 24) (L' := [some (.ref a0), none, some (.int a2), some (.int a3), some (.int a4), some (.int a5), some (.int a4), some (.int 0)]) (st' := []) rfl rfl ?_
    exact tfX2_reach_24 hK8 4096 h
def fX2_reach_8  : Nat → Nat → Int32 → Int32 → Int32 → Int32 → Hp → Option (Int32 × Hp)
  | 0, _, _, _, _, _, _ => none
  | d + 1, a0, a2, a3, a4, a5, H => bX2_reach_8 (fX2_reach_8  d) a0 a2 a3 a4 a5 H
theorem tfX2_reach_8 {G : GG} {r : Int32} {H' : Hp}   : ∀ (d : Nat) {a0 : Nat} {a2 : Int32} {a3 : Int32} {a4 : Int32} {a5 : Int32} {H : Hp}, fX2_reach_8  d a0 a2 a3 a4 a5 H = some (r, H') → Sn G (T0 G (some (.int r)) H') mX2_reach 8 [some (.ref a0), none, some (.int a2), some (.int a3), some (.int a4), some (.int a5), none, none] [] H := by
  intro d
  induction d with
  | zero => intro a0 a2 a3 a4 a5 H h; cases h
  | succ d ih => intro a0 a2 a3 a4 a5 H h; exact tbX2_reach_8 (fun a0 a2 a3 a4 a5 H h => ih h) h
def FX2_reach  (a0 : Nat) (a1 : Int32) (a2 : Int32) (a3 : Int32) (H : Hp) : Option (Int32 × Hp) :=
  fX2_reach_8  4096 a0 a2 a3 (1 <<< (a1 &&& 31)) 1 H
set_option maxHeartbeats 4000000 in
set_option maxRecDepth 100000 in
theorem tFX2_reach {G : GG} {r : Int32} {H' : Hp}   {a0 : Nat} {a1 : Int32} {a2 : Int32} {a3 : Int32} {H : Hp} (h : FX2_reach  a0 a1 a2 a3 H = some (r, H')) : Sn G (T0 G (some (.int r)) H') mX2_reach 0 [some (.ref a0), some (.int a1), some (.int a2), some (.int a3), none, none, none, none] [] H := by
  unfold FX2_reach at h
  refine sn_blk _ kX2_reach_0_0 (pc' := 8) (L' := [some (.ref a0), some (.int a1), some (.int a2), some (.int a3), some (.int (1 <<< (a1 &&& 31))), some (.int 1), none, none]) (st' := []) rfl rfl ?_
  refine sn_msk [true, false, true, true, true, true, true, true] (L2 := [some (.ref a0), none, some (.int a2), some (.int a3), some (.int (1 <<< (a1 &&& 31))), some (.int 1), none, none]) rfl ?_
  exact tfX2_reach_8  4096 h
theorem sX2_reach {G : GG} {r : Int32} {H' : Hp} {a0 : Nat} {a1 : Int32} {a2 : Int32} {a3 : Int32} {H : Hp} (h : FX2_reach a0 a1 a2 a3 H = some (r, H')) : SM G mX2_reach [.ref a0, .int a1, .int a2, .int a3] H (some (.int r)) H' := tFX2_reach h
/-! SquareFolds$Gluing.pieces(I)I -/
theorem kX2_pieces_0_0 : decB cX2_pieces 0 [(.iconst 0, .int 0), (.istore_n 2, .null), (.iconst 0, .int 0), (.istore_n 3, .null), (.iconst 0, .int 0), (.istore 4, .null)] = true := by decide +kernel
theorem kX2_pieces_7_0 : decB cX2_pieces 7 [(.iload 4, .null), (.aload_n 0, .null)] = true := by decide +kernel
theorem kX2_pieces_7_1 : decB cX2_pieces 54 [(.iload_n 3, .null)] = true := by decide +kernel
theorem kX2_pieces_7_2 : decB cX2_pieces 16 [(.iload_n 1, .null), (.iload 4, .null)] = true := by decide +kernel
theorem kX2_pieces_7_3 : decB cX2_pieces 48 [(.iinc 4 1, .int 1), (.goto (-44), .retAddr 7)] = true := by decide +kernel
theorem kX2_pieces_7_4 : decB cX2_pieces 25 [(.iload_n 2, .null), (.iload 4, .null)] = true := by decide +kernel
theorem kX2_pieces_7_5 : decB cX2_pieces 48 [(.iinc 4 1, .int 1), (.goto (-44), .retAddr 7)] = true := by decide +kernel
theorem kX2_pieces_7_6 : decB cX2_pieces 34 [(.iload_n 2, .null), (.aload_n 0, .null), (.iload 4, .null), (.iload_n 1, .null), (.iconst 0, .int 0)] = true := by decide +kernel
theorem kX2_pieces_7_7 : decB cX2_pieces 43 [(.ior, .null), (.istore_n 2, .null), (.iinc 3 1, .int 1), (.iinc 4 1, .int 1), (.goto (-44), .retAddr 7)] = true := by decide +kernel
theorem dX2_pieces_10 : decode cX2_pieces 10 = .ok (.getfield 9, 3) := by decide +kernel
theorem dX2_pieces_13 : decode cX2_pieces 13 = .ok (.if_icmp .ge 41, 3) := by decide +kernel
theorem dX2_pieces_19 : decode cX2_pieces 19 = .ok (.invokestatic 40, 3) := by decide +kernel
theorem dX2_pieces_22 : decode cX2_pieces 22 = .ok (.ifCond .eq 26, 3) := by decide +kernel
theorem dX2_pieces_28 : decode cX2_pieces 28 = .ok (.invokestatic 40, 3) := by decide +kernel
theorem dX2_pieces_31 : decode cX2_pieces 31 = .ok (.ifCond .ne 17, 3) := by decide +kernel
theorem dX2_pieces_40 : decode cX2_pieces 40 = .ok (.invokevirtual 51, 3) := by decide +kernel
theorem dX2_pieces_55 : decode cX2_pieces 55 = .ok (.ireturn, 1) := by decide +kernel
def bX2_pieces_7 (K7 : Nat → Int32 → Int32 → Int32 → Int32 → Hp → Option (Int32 × Hp)) (a0 : Nat) (a1 : Int32) (a2 : Int32) (a3 : Int32) (a4 : Int32) (H : Hp) : Option (Int32 × Hp) :=
  bd (gI H a0 2 0) fun x1 =>
  if (x1 ≤ a4 : Prop) then
    some (a3, H)
  else
    bd2 (FX6_isIn a1 a4 H) fun x2 H3 =>
    if (x2 = 0 : Prop) then
      K7 a0 a1 a2 a3 (a4 + 1) H3
    else
      bd2 (FX6_isIn a2 a4 H3) fun x4 H5 =>
      if (x4 = 0 : Prop) then
        gp (isO H5 a0 2 = true) (
          bd2 (FX2_reach a0 a4 a1 0 H5) fun x6 H7 =>
          K7 a0 a1 (a2 ||| x6) (a3 + 1) (a4 + 1) H7
          )
      else
        K7 a0 a1 a2 a3 (a4 + 1) H5
set_option maxHeartbeats 4000000 in
set_option maxRecDepth 100000 in
theorem tbX2_pieces_7 {G : GG} {r : Int32} {H' : Hp} {K7 : Nat → Int32 → Int32 → Int32 → Int32 → Hp → Option (Int32 × Hp)} (hK7 : ∀ (a0 : Nat) (a1 : Int32) (a2 : Int32) (a3 : Int32) (a4 : Int32) (H : Hp), K7 a0 a1 a2 a3 a4 H = some (r, H') → Sn G (T0 G (some (.int r)) H') mX2_pieces 7 [some (.ref a0), some (.int a1), some (.int a2), some (.int a3), some (.int a4)] [] H) {a0 : Nat} {a1 : Int32} {a2 : Int32} {a3 : Int32} {a4 : Int32} {H : Hp} (h : bX2_pieces_7 K7 a0 a1 a2 a3 a4 H = some (r, H')) : Sn G (T0 G (some (.int r)) H') mX2_pieces 7 [some (.ref a0), some (.int a1), some (.int a2), some (.int a3), some (.int a4)] [] H := by
  unfold bX2_pieces_7 at h
  refine sn_blk _ kX2_pieces_7_0 (pc' := 10) (L' := [some (.ref a0), some (.int a1), some (.int a2), some (.int a3), some (.int a4)]) (st' := [.ref a0, .int a4]) rfl rfl ?_
  obtain ⟨x1, hx1, h⟩ := bd_inv h
  refine sn_gI dX2_pieces_10 foX2_9 hx1 ?_
  refine sn_icmp_ge (tgt := 54) dX2_pieces_13 (by decide) (fun c => ?_) (fun c => ?_)
  · rw [if_pos c] at h
    refine sn_blk _ kX2_pieces_7_1 (pc' := 55) (L' := [some (.ref a0), some (.int a1), some (.int a2), some (.int a3), some (.int a4)]) (st' := [.int a3]) rfl rfl ?_
    cases h
    exact sn_iret (ty := .int) dX2_pieces_55 rfl rfl
  · rw [if_neg c] at h
    refine sn_blk _ kX2_pieces_7_2 (pc' := 19) (L' := [some (.ref a0), some (.int a1), some (.int a2), some (.int a3), some (.int a4)]) (st' := [.int a4, .int a1]) rfl rfl ?_
    obtain ⟨x2, H3, hx2, h⟩ := bd2_inv h
    refine sn_calls (av := [.int a1, .int a4]) (st := []) (M2 := mX6_isIn) dX2_pieces_19 msX6_isIn mlX2_40 rfl rfl rfl rfl rfl (sX6_isIn hx2) ?_
    refine sn_if_eq (tgt := 48) dX2_pieces_22 (by decide) (fun c => ?_) (fun c => ?_)
    · rw [if_pos c] at h
      refine sn_blk _ kX2_pieces_7_3 (pc' := 7) (L' := [some (.ref a0), some (.int a1), some (.int a2), some (.int a3), some (.int (a4 + 1))]) (st' := []) rfl rfl ?_
      exact hK7 _ _ _ _ _ _ h
    · rw [if_neg c] at h
      refine sn_blk _ kX2_pieces_7_4 (pc' := 28) (L' := [some (.ref a0), some (.int a1), some (.int a2), some (.int a3), some (.int a4)]) (st' := [.int a4, .int a2]) rfl rfl ?_
      obtain ⟨x4, H5, hx4, h⟩ := bd2_inv h
      refine sn_calls (av := [.int a2, .int a4]) (st := []) (M2 := mX6_isIn) dX2_pieces_28 msX6_isIn mlX2_40 rfl rfl rfl rfl rfl (sX6_isIn hx4) ?_
      refine sn_if_ne (tgt := 48) dX2_pieces_31 (by decide) (fun c => ?_) (fun c => ?_)
      · rw [if_neg c] at h
        refine sn_blk _ kX2_pieces_7_5 (pc' := 7) (L' := [some (.ref a0), some (.int a1), some (.int a2), some (.int a3), some (.int (a4 + 1))]) (st' := []) rfl rfl ?_
        exact hK7 _ _ _ _ _ _ h
      · rw [if_pos c] at h
        refine sn_blk _ kX2_pieces_7_6 (pc' := 40) (L' := [some (.ref a0), some (.int a1), some (.int a2), some (.int a3), some (.int a4)]) (st' := [.int 0, .int a1, .int a4, .ref a0, .int a2]) rfl rfl ?_
        obtain ⟨ho, h⟩ := gp_inv h
        obtain ⟨fs, ho⟩ := isO_inv ho
        obtain ⟨x6, H7, hx6, h⟩ := bd2_inv h
        refine sn_callv (av := [.int a4, .int a1, .int 0]) (st := [.int a2]) (M2 := mX2_reach) dX2_pieces_40 msX2_reach mlX2_51 rfl rfl rfl rfl rfl ho (sX2_reach hx6) ?_
        refine sn_blk _ kX2_pieces_7_7 (pc' := 7) (L' := [some (.ref a0), some (.int a1), some (.int (a2 ||| x6)), some (.int (a3 + 1)), some (.int (a4 + 1))]) (st' := []) rfl rfl ?_
        exact hK7 _ _ _ _ _ _ h
def fX2_pieces_7  : Nat → Nat → Int32 → Int32 → Int32 → Int32 → Hp → Option (Int32 × Hp)
  | 0, _, _, _, _, _, _ => none
  | d + 1, a0, a1, a2, a3, a4, H => bX2_pieces_7 (fX2_pieces_7  d) a0 a1 a2 a3 a4 H
theorem tfX2_pieces_7 {G : GG} {r : Int32} {H' : Hp}   : ∀ (d : Nat) {a0 : Nat} {a1 : Int32} {a2 : Int32} {a3 : Int32} {a4 : Int32} {H : Hp}, fX2_pieces_7  d a0 a1 a2 a3 a4 H = some (r, H') → Sn G (T0 G (some (.int r)) H') mX2_pieces 7 [some (.ref a0), some (.int a1), some (.int a2), some (.int a3), some (.int a4)] [] H := by
  intro d
  induction d with
  | zero => intro a0 a1 a2 a3 a4 H h; cases h
  | succ d ih => intro a0 a1 a2 a3 a4 H h; exact tbX2_pieces_7 (fun a0 a1 a2 a3 a4 H h => ih h) h
def FX2_pieces  (a0 : Nat) (a1 : Int32) (H : Hp) : Option (Int32 × Hp) :=
  fX2_pieces_7  4096 a0 a1 0 0 0 H
set_option maxHeartbeats 4000000 in
set_option maxRecDepth 100000 in
theorem tFX2_pieces {G : GG} {r : Int32} {H' : Hp}   {a0 : Nat} {a1 : Int32} {H : Hp} (h : FX2_pieces  a0 a1 H = some (r, H')) : Sn G (T0 G (some (.int r)) H') mX2_pieces 0 [some (.ref a0), some (.int a1), none, none, none] [] H := by
  unfold FX2_pieces at h
  refine sn_blk _ kX2_pieces_0_0 (pc' := 7) (L' := [some (.ref a0), some (.int a1), some (.int 0), some (.int 0), some (.int 0)]) (st' := []) rfl rfl ?_
  exact tfX2_pieces_7  4096 h
theorem sX2_pieces {G : GG} {r : Int32} {H' : Hp} {a0 : Nat} {a1 : Int32} {H : Hp} (h : FX2_pieces a0 a1 H = some (r, H')) : SM G mX2_pieces [.ref a0, .int a1] H (some (.int r)) H' := tFX2_pieces h
/-! SquareFolds$Gluing.left()I -/
theorem kX2_left_0_0 : decB cX2_left 0 [(.aload_n 0, .null)] = true := by decide +kernel
theorem kX2_left_0_1 : decB cX2_left 4 [(.aload_n 0, .null)] = true := by decide +kernel
theorem dX2_left_1 : decode cX2_left 1 = .ok (.getfield 15, 3) := by decide +kernel
theorem dX2_left_5 : decode cX2_left 5 = .ok (.getfield 9, 3) := by decide +kernel
theorem dX2_left_8 : decode cX2_left 8 = .ok (.invokestatic 21, 3) := by decide +kernel
theorem dX2_left_11 : decode cX2_left 11 = .ok (.ireturn, 1) := by decide +kernel
def FX2_left  (a0 : Nat) (H : Hp) : Option (Int32 × Hp) :=
  bd (gI H a0 2 1) fun x1 =>
  bd (gI H a0 2 0) fun x2 =>
  bd2 (FX6_back x1 x2 H) fun x3 H4 =>
  some (x3, H4)
set_option maxHeartbeats 4000000 in
set_option maxRecDepth 100000 in
theorem tFX2_left {G : GG} {r : Int32} {H' : Hp}   {a0 : Nat} {H : Hp} (h : FX2_left  a0 H = some (r, H')) : Sn G (T0 G (some (.int r)) H') mX2_left 0 [some (.ref a0)] [] H := by
  unfold FX2_left at h
  refine sn_blk _ kX2_left_0_0 (pc' := 1) (L' := [some (.ref a0)]) (st' := [.ref a0]) rfl rfl ?_
  obtain ⟨x1, hx1, h⟩ := bd_inv h
  refine sn_gI dX2_left_1 foX2_15 hx1 ?_
  refine sn_blk _ kX2_left_0_1 (pc' := 5) (L' := [some (.ref a0)]) (st' := [.ref a0, .int x1]) rfl rfl ?_
  obtain ⟨x2, hx2, h⟩ := bd_inv h
  refine sn_gI dX2_left_5 foX2_9 hx2 ?_
  obtain ⟨x3, H4, hx3, h⟩ := bd2_inv h
  refine sn_calls (av := [.int x1, .int x2]) (st := []) (M2 := mX6_back) dX2_left_8 msX6_back mlX2_21 rfl rfl rfl rfl rfl (sX6_back hx3) ?_
  cases h
  exact sn_iret (ty := .int) dX2_left_11 rfl rfl
theorem sX2_left {G : GG} {r : Int32} {H' : Hp} {a0 : Nat} {H : Hp} (h : FX2_left a0 H = some (r, H')) : SM G mX2_left [.ref a0] H (some (.int r)) H' := tFX2_left h
/-! SquareFolds$Gluing.down()I -/
theorem kX2_down_0_0 : decB cX2_down 0 [(.aload_n 0, .null)] = true := by decide +kernel
theorem kX2_down_0_1 : decB cX2_down 4 [(.aload_n 0, .null)] = true := by decide +kernel
theorem dX2_down_1 : decode cX2_down 1 = .ok (.getfield 18, 3) := by decide +kernel
theorem dX2_down_5 : decode cX2_down 5 = .ok (.getfield 9, 3) := by decide +kernel
theorem dX2_down_8 : decode cX2_down 8 = .ok (.invokestatic 21, 3) := by decide +kernel
theorem dX2_down_11 : decode cX2_down 11 = .ok (.ireturn, 1) := by decide +kernel
def FX2_down  (a0 : Nat) (H : Hp) : Option (Int32 × Hp) :=
  bd (gI H a0 2 2) fun x1 =>
  bd (gI H a0 2 0) fun x2 =>
  bd2 (FX6_back x1 x2 H) fun x3 H4 =>
  some (x3, H4)
set_option maxHeartbeats 4000000 in
set_option maxRecDepth 100000 in
theorem tFX2_down {G : GG} {r : Int32} {H' : Hp}   {a0 : Nat} {H : Hp} (h : FX2_down  a0 H = some (r, H')) : Sn G (T0 G (some (.int r)) H') mX2_down 0 [some (.ref a0)] [] H := by
  unfold FX2_down at h
  refine sn_blk _ kX2_down_0_0 (pc' := 1) (L' := [some (.ref a0)]) (st' := [.ref a0]) rfl rfl ?_
  obtain ⟨x1, hx1, h⟩ := bd_inv h
  refine sn_gI dX2_down_1 foX2_18 hx1 ?_
  refine sn_blk _ kX2_down_0_1 (pc' := 5) (L' := [some (.ref a0)]) (st' := [.ref a0, .int x1]) rfl rfl ?_
  obtain ⟨x2, hx2, h⟩ := bd_inv h
  refine sn_gI dX2_down_5 foX2_9 hx2 ?_
  obtain ⟨x3, H4, hx3, h⟩ := bd2_inv h
  refine sn_calls (av := [.int x1, .int x2]) (st := []) (M2 := mX6_back) dX2_down_8 msX6_back mlX2_21 rfl rfl rfl rfl rfl (sX6_back hx3) ?_
  cases h
  exact sn_iret (ty := .int) dX2_down_11 rfl rfl
theorem sX2_down {G : GG} {r : Int32} {H' : Hp} {a0 : Nat} {H : Hp} (h : FX2_down a0 H = some (r, H')) : SM G mX2_down [.ref a0] H (some (.int r)) H' := tFX2_down h
/-! SquareFolds$Gluing.turnedRound()I -/
theorem kX2_turnedRound_0_0 : decB cX2_turnedRound 0 [(.aload_n 0, .null)] = true := by decide +kernel
theorem kX2_turnedRound_0_1 : decB cX2_turnedRound 4 [(.aload_n 0, .null)] = true := by decide +kernel
theorem kX2_turnedRound_0_2 : decB cX2_turnedRound 8 [(.aload_n 0, .null)] = true := by decide +kernel
theorem kX2_turnedRound_0_3 : decB cX2_turnedRound 15 [(.istore_n 1, .null), (.iload_n 1, .null), (.aload_n 0, .null)] = true := by decide +kernel
theorem kX2_turnedRound_0_4 : decB cX2_turnedRound 21 [(.aload_n 0, .null)] = true := by decide +kernel
theorem kX2_turnedRound_0_5 : decB cX2_turnedRound 25 [(.aload_n 0, .null)] = true := by decide +kernel
theorem kX2_turnedRound_0_6 : decB cX2_turnedRound 32 [(.aload_n 0, .null)] = true := by decide +kernel
theorem dX2_turnedRound_1 : decode cX2_turnedRound 1 = .ok (.getfield 15, 3) := by decide +kernel
theorem dX2_turnedRound_5 : decode cX2_turnedRound 5 = .ok (.getfield 18, 3) := by decide +kernel
theorem dX2_turnedRound_9 : decode cX2_turnedRound 9 = .ok (.getfield 9, 3) := by decide +kernel
theorem dX2_turnedRound_12 : decode cX2_turnedRound 12 = .ok (.invokestatic 54, 3) := by decide +kernel
theorem dX2_turnedRound_18 : decode cX2_turnedRound 18 = .ok (.invokevirtual 30, 3) := by decide +kernel
theorem dX2_turnedRound_22 : decode cX2_turnedRound 22 = .ok (.invokevirtual 34, 3) := by decide +kernel
theorem dX2_turnedRound_26 : decode cX2_turnedRound 26 = .ok (.getfield 9, 3) := by decide +kernel
theorem dX2_turnedRound_29 : decode cX2_turnedRound 29 = .ok (.invokestatic 54, 3) := by decide +kernel
theorem dX2_turnedRound_33 : decode cX2_turnedRound 33 = .ok (.getfield 9, 3) := by decide +kernel
theorem dX2_turnedRound_36 : decode cX2_turnedRound 36 = .ok (.invokestatic 54, 3) := by decide +kernel
theorem dX2_turnedRound_39 : decode cX2_turnedRound 39 = .ok (.ireturn, 1) := by decide +kernel
def FX2_turnedRound  (a0 : Nat) (H : Hp) : Option (Int32 × Hp) :=
  bd (gI H a0 2 1) fun x1 =>
  bd (gI H a0 2 2) fun x2 =>
  bd (gI H a0 2 0) fun x3 =>
  bd2 (FX6_then x1 x2 x3 H) fun x4 H5 =>
  gp (isO H5 a0 2 = true) (
    bd2 (FX2_left a0  H5) fun x6 H7 =>
    gp (isO H7 a0 2 = true) (
      bd2 (FX2_down a0  H7) fun x8 H9 =>
      bd (gI H9 a0 2 0) fun x10 =>
      bd2 (FX6_then x6 x8 x10 H9) fun x11 H12 =>
      bd (gI H12 a0 2 0) fun x13 =>
      bd2 (FX6_then x4 x11 x13 H12) fun x14 H15 =>
      some (x14, H15)
      )
    )
set_option maxHeartbeats 4000000 in
set_option maxRecDepth 100000 in
theorem tFX2_turnedRound {G : GG} {r : Int32} {H' : Hp}   {a0 : Nat} {H : Hp} (h : FX2_turnedRound  a0 H = some (r, H')) : Sn G (T0 G (some (.int r)) H') mX2_turnedRound 0 [some (.ref a0), none] [] H := by
  unfold FX2_turnedRound at h
  refine sn_blk _ kX2_turnedRound_0_0 (pc' := 1) (L' := [some (.ref a0), none]) (st' := [.ref a0]) rfl rfl ?_
  obtain ⟨x1, hx1, h⟩ := bd_inv h
  refine sn_gI dX2_turnedRound_1 foX2_15 hx1 ?_
  refine sn_blk _ kX2_turnedRound_0_1 (pc' := 5) (L' := [some (.ref a0), none]) (st' := [.ref a0, .int x1]) rfl rfl ?_
  obtain ⟨x2, hx2, h⟩ := bd_inv h
  refine sn_gI dX2_turnedRound_5 foX2_18 hx2 ?_
  refine sn_blk _ kX2_turnedRound_0_2 (pc' := 9) (L' := [some (.ref a0), none]) (st' := [.ref a0, .int x2, .int x1]) rfl rfl ?_
  obtain ⟨x3, hx3, h⟩ := bd_inv h
  refine sn_gI dX2_turnedRound_9 foX2_9 hx3 ?_
  obtain ⟨x4, H5, hx4, h⟩ := bd2_inv h
  refine sn_calls (av := [.int x1, .int x2, .int x3]) (st := []) (M2 := mX6_then) dX2_turnedRound_12 msX6_then mlX2_54 rfl rfl rfl rfl rfl (sX6_then hx4) ?_
  refine sn_blk _ kX2_turnedRound_0_3 (pc' := 18) (L' := [some (.ref a0), some (.int x4)]) (st' := [.ref a0, .int x4]) rfl rfl ?_
  obtain ⟨ho, h⟩ := gp_inv h
  obtain ⟨fs, ho⟩ := isO_inv ho
  obtain ⟨x6, H7, hx6, h⟩ := bd2_inv h
  refine sn_callv (av := []) (st := [.int x4]) (M2 := mX2_left) dX2_turnedRound_18 msX2_left mlX2_30 rfl rfl rfl rfl rfl ho (sX2_left hx6) ?_
  refine sn_blk _ kX2_turnedRound_0_4 (pc' := 22) (L' := [some (.ref a0), some (.int x4)]) (st' := [.ref a0, .int x6, .int x4]) rfl rfl ?_
  obtain ⟨ho, h⟩ := gp_inv h
  obtain ⟨fs, ho⟩ := isO_inv ho
  obtain ⟨x8, H9, hx8, h⟩ := bd2_inv h
  refine sn_callv (av := []) (st := [.int x6, .int x4]) (M2 := mX2_down) dX2_turnedRound_22 msX2_down mlX2_34 rfl rfl rfl rfl rfl ho (sX2_down hx8) ?_
  refine sn_blk _ kX2_turnedRound_0_5 (pc' := 26) (L' := [some (.ref a0), some (.int x4)]) (st' := [.ref a0, .int x8, .int x6, .int x4]) rfl rfl ?_
  obtain ⟨x10, hx10, h⟩ := bd_inv h
  refine sn_gI dX2_turnedRound_26 foX2_9 hx10 ?_
  obtain ⟨x11, H12, hx11, h⟩ := bd2_inv h
  refine sn_calls (av := [.int x6, .int x8, .int x10]) (st := [.int x4]) (M2 := mX6_then) dX2_turnedRound_29 msX6_then mlX2_54 rfl rfl rfl rfl rfl (sX6_then hx11) ?_
  refine sn_blk _ kX2_turnedRound_0_6 (pc' := 33) (L' := [some (.ref a0), some (.int x4)]) (st' := [.ref a0, .int x11, .int x4]) rfl rfl ?_
  obtain ⟨x13, hx13, h⟩ := bd_inv h
  refine sn_gI dX2_turnedRound_33 foX2_9 hx13 ?_
  obtain ⟨x14, H15, hx14, h⟩ := bd2_inv h
  refine sn_calls (av := [.int x4, .int x11, .int x13]) (st := []) (M2 := mX6_then) dX2_turnedRound_36 msX6_then mlX2_54 rfl rfl rfl rfl rfl (sX6_then hx14) ?_
  cases h
  exact sn_iret (ty := .int) dX2_turnedRound_39 rfl rfl
theorem sX2_turnedRound {G : GG} {r : Int32} {H' : Hp} {a0 : Nat} {H : Hp} (h : FX2_turnedRound a0 H = some (r, H')) : SM G mX2_turnedRound [.ref a0] H (some (.int r)) H' := tFX2_turnedRound h
/-! SquareFolds$Gluing.corners()I -/
theorem kX2_corners_0_0 : decB cX2_corners 0 [(.aload_n 0, .null)] = true := by decide +kernel
theorem kX2_corners_0_1 : decB cX2_corners 4 [(.aload_n 0, .null)] = true := by decide +kernel
theorem dX2_corners_1 : decode cX2_corners 1 = .ok (.invokevirtual 57, 3) := by decide +kernel
theorem dX2_corners_5 : decode cX2_corners 5 = .ok (.getfield 9, 3) := by decide +kernel
theorem dX2_corners_8 : decode cX2_corners 8 = .ok (.invokestatic 60, 3) := by decide +kernel
theorem dX2_corners_11 : decode cX2_corners 11 = .ok (.ireturn, 1) := by decide +kernel
def FX2_corners  (a0 : Nat) (H : Hp) : Option (Int32 × Hp) :=
  gp (isO H a0 2 = true) (
    bd2 (FX2_turnedRound a0  H) fun x1 H2 =>
    bd (gI H2 a0 2 0) fun x3 =>
    bd2 (FX6_rings x1 x3 H2) fun x4 H5 =>
    some (x4, H5)
    )
set_option maxHeartbeats 4000000 in
set_option maxRecDepth 100000 in
theorem tFX2_corners {G : GG} {r : Int32} {H' : Hp}   {a0 : Nat} {H : Hp} (h : FX2_corners  a0 H = some (r, H')) : Sn G (T0 G (some (.int r)) H') mX2_corners 0 [some (.ref a0)] [] H := by
  unfold FX2_corners at h
  refine sn_blk _ kX2_corners_0_0 (pc' := 1) (L' := [some (.ref a0)]) (st' := [.ref a0]) rfl rfl ?_
  obtain ⟨ho, h⟩ := gp_inv h
  obtain ⟨fs, ho⟩ := isO_inv ho
  obtain ⟨x1, H2, hx1, h⟩ := bd2_inv h
  refine sn_callv (av := []) (st := []) (M2 := mX2_turnedRound) dX2_corners_1 msX2_turnedRound mlX2_57 rfl rfl rfl rfl rfl ho (sX2_turnedRound hx1) ?_
  refine sn_blk _ kX2_corners_0_1 (pc' := 5) (L' := [some (.ref a0)]) (st' := [.ref a0, .int x1]) rfl rfl ?_
  obtain ⟨x3, hx3, h⟩ := bd_inv h
  refine sn_gI dX2_corners_5 foX2_9 hx3 ?_
  obtain ⟨x4, H5, hx4, h⟩ := bd2_inv h
  refine sn_calls (av := [.int x1, .int x3]) (st := []) (M2 := mX6_rings) dX2_corners_8 msX6_rings mlX2_60 rfl rfl rfl rfl rfl (sX6_rings hx4) ?_
  cases h
  exact sn_iret (ty := .int) dX2_corners_11 rfl rfl
theorem sX2_corners {G : GG} {r : Int32} {H' : Hp} {a0 : Nat} {H : Hp} (h : FX2_corners a0 H = some (r, H')) : SM G mX2_corners [.ref a0] H (some (.int r)) H' := tFX2_corners h
/-! SquareFolds$Gluing.ordinaryCorners()I -/
theorem kX2_ordinaryCorners_0_0 : decB cX2_ordinaryCorners 0 [(.aload_n 0, .null)] = true := by decide +kernel
theorem kX2_ordinaryCorners_0_1 : decB cX2_ordinaryCorners 4 [(.istore_n 1, .null), (.iconst 0, .int 0), (.istore_n 2, .null), (.iconst 0, .int 0), (.istore_n 3, .null)] = true := by decide +kernel
theorem kX2_ordinaryCorners_9_0 : decB cX2_ordinaryCorners 9 [(.iload_n 3, .null), (.aload_n 0, .null)] = true := by decide +kernel
theorem kX2_ordinaryCorners_9_1 : decB cX2_ordinaryCorners 35 [(.iload_n 2, .null)] = true := by decide +kernel
theorem kX2_ordinaryCorners_9_2 : decB cX2_ordinaryCorners 17 [(.iload_n 1, .null), (.iload_n 3, .null)] = true := by decide +kernel
theorem kX2_ordinaryCorners_9_3 : decB cX2_ordinaryCorners 22 [(.iload_n 3, .null)] = true := by decide +kernel
theorem kX2_ordinaryCorners_9_4 : decB cX2_ordinaryCorners 29 [(.iinc 3 1, .int 1), (.goto (-23), .retAddr 9)] = true := by decide +kernel
theorem kX2_ordinaryCorners_9_5 : decB cX2_ordinaryCorners 26 [(.iinc 2 1, .int 1), (.iinc 3 1, .int 1), (.goto (-23), .retAddr 9)] = true := by decide +kernel
theorem dX2_ordinaryCorners_1 : decode cX2_ordinaryCorners 1 = .ok (.invokevirtual 57, 3) := by decide +kernel
theorem dX2_ordinaryCorners_11 : decode cX2_ordinaryCorners 11 = .ok (.getfield 9, 3) := by decide +kernel
theorem dX2_ordinaryCorners_14 : decode cX2_ordinaryCorners 14 = .ok (.if_icmp .ge 21, 3) := by decide +kernel
theorem dX2_ordinaryCorners_19 : decode cX2_ordinaryCorners 19 = .ok (.invokestatic 27, 3) := by decide +kernel
theorem dX2_ordinaryCorners_23 : decode cX2_ordinaryCorners 23 = .ok (.if_icmp .ne 6, 3) := by decide +kernel
theorem dX2_ordinaryCorners_36 : decode cX2_ordinaryCorners 36 = .ok (.ireturn, 1) := by decide +kernel
def bX2_ordinaryCorners_9 (K9 : Nat → Int32 → Int32 → Int32 → Hp → Option (Int32 × Hp)) (a0 : Nat) (a1 : Int32) (a2 : Int32) (a3 : Int32) (H : Hp) : Option (Int32 × Hp) :=
  bd (gI H a0 2 0) fun x1 =>
  if (x1 ≤ a3 : Prop) then
    some (a2, H)
  else
    bd2 (FX6_at a1 a3 H) fun x2 H3 =>
    if (x2 = a3 : Prop) then
      K9 a0 a1 (a2 + 1) (a3 + 1) H3
    else
      K9 a0 a1 a2 (a3 + 1) H3
set_option maxHeartbeats 4000000 in
set_option maxRecDepth 100000 in
theorem tbX2_ordinaryCorners_9 {G : GG} {r : Int32} {H' : Hp} {K9 : Nat → Int32 → Int32 → Int32 → Hp → Option (Int32 × Hp)} (hK9 : ∀ (a0 : Nat) (a1 : Int32) (a2 : Int32) (a3 : Int32) (H : Hp), K9 a0 a1 a2 a3 H = some (r, H') → Sn G (T0 G (some (.int r)) H') mX2_ordinaryCorners 9 [some (.ref a0), some (.int a1), some (.int a2), some (.int a3)] [] H) {a0 : Nat} {a1 : Int32} {a2 : Int32} {a3 : Int32} {H : Hp} (h : bX2_ordinaryCorners_9 K9 a0 a1 a2 a3 H = some (r, H')) : Sn G (T0 G (some (.int r)) H') mX2_ordinaryCorners 9 [some (.ref a0), some (.int a1), some (.int a2), some (.int a3)] [] H := by
  unfold bX2_ordinaryCorners_9 at h
  refine sn_blk _ kX2_ordinaryCorners_9_0 (pc' := 11) (L' := [some (.ref a0), some (.int a1), some (.int a2), some (.int a3)]) (st' := [.ref a0, .int a3]) rfl rfl ?_
  obtain ⟨x1, hx1, h⟩ := bd_inv h
  refine sn_gI dX2_ordinaryCorners_11 foX2_9 hx1 ?_
  refine sn_icmp_ge (tgt := 35) dX2_ordinaryCorners_14 (by decide) (fun c => ?_) (fun c => ?_)
  · rw [if_pos c] at h
    refine sn_blk _ kX2_ordinaryCorners_9_1 (pc' := 36) (L' := [some (.ref a0), some (.int a1), some (.int a2), some (.int a3)]) (st' := [.int a2]) rfl rfl ?_
    cases h
    exact sn_iret (ty := .int) dX2_ordinaryCorners_36 rfl rfl
  · rw [if_neg c] at h
    refine sn_blk _ kX2_ordinaryCorners_9_2 (pc' := 19) (L' := [some (.ref a0), some (.int a1), some (.int a2), some (.int a3)]) (st' := [.int a3, .int a1]) rfl rfl ?_
    obtain ⟨x2, H3, hx2, h⟩ := bd2_inv h
    refine sn_calls (av := [.int a1, .int a3]) (st := []) (M2 := mX6_at) dX2_ordinaryCorners_19 msX6_at mlX2_27 rfl rfl rfl rfl rfl (sX6_at hx2) ?_
    refine sn_blk _ kX2_ordinaryCorners_9_3 (pc' := 23) (L' := [some (.ref a0), some (.int a1), some (.int a2), some (.int a3)]) (st' := [.int a3, .int x2]) rfl rfl ?_
    refine sn_icmp_ne (tgt := 29) dX2_ordinaryCorners_23 (by decide) (fun c => ?_) (fun c => ?_)
    · rw [if_neg c] at h
      refine sn_blk _ kX2_ordinaryCorners_9_4 (pc' := 9) (L' := [some (.ref a0), some (.int a1), some (.int a2), some (.int (a3 + 1))]) (st' := []) rfl rfl ?_
      exact hK9 _ _ _ _ _ h
    · rw [if_pos c] at h
      refine sn_blk _ kX2_ordinaryCorners_9_5 (pc' := 9) (L' := [some (.ref a0), some (.int a1), some (.int (a2 + 1)), some (.int (a3 + 1))]) (st' := []) rfl rfl ?_
      exact hK9 _ _ _ _ _ h
def fX2_ordinaryCorners_9  : Nat → Nat → Int32 → Int32 → Int32 → Hp → Option (Int32 × Hp)
  | 0, _, _, _, _, _ => none
  | d + 1, a0, a1, a2, a3, H => bX2_ordinaryCorners_9 (fX2_ordinaryCorners_9  d) a0 a1 a2 a3 H
theorem tfX2_ordinaryCorners_9 {G : GG} {r : Int32} {H' : Hp}   : ∀ (d : Nat) {a0 : Nat} {a1 : Int32} {a2 : Int32} {a3 : Int32} {H : Hp}, fX2_ordinaryCorners_9  d a0 a1 a2 a3 H = some (r, H') → Sn G (T0 G (some (.int r)) H') mX2_ordinaryCorners 9 [some (.ref a0), some (.int a1), some (.int a2), some (.int a3)] [] H := by
  intro d
  induction d with
  | zero => intro a0 a1 a2 a3 H h; cases h
  | succ d ih => intro a0 a1 a2 a3 H h; exact tbX2_ordinaryCorners_9 (fun a0 a1 a2 a3 H h => ih h) h
def FX2_ordinaryCorners  (a0 : Nat) (H : Hp) : Option (Int32 × Hp) :=
  gp (isO H a0 2 = true) (
    bd2 (FX2_turnedRound a0  H) fun x1 H2 =>
    fX2_ordinaryCorners_9  4096 a0 x1 0 0 H2
    )
set_option maxHeartbeats 4000000 in
set_option maxRecDepth 100000 in
theorem tFX2_ordinaryCorners {G : GG} {r : Int32} {H' : Hp}   {a0 : Nat} {H : Hp} (h : FX2_ordinaryCorners  a0 H = some (r, H')) : Sn G (T0 G (some (.int r)) H') mX2_ordinaryCorners 0 [some (.ref a0), none, none, none] [] H := by
  unfold FX2_ordinaryCorners at h
  refine sn_blk _ kX2_ordinaryCorners_0_0 (pc' := 1) (L' := [some (.ref a0), none, none, none]) (st' := [.ref a0]) rfl rfl ?_
  obtain ⟨ho, h⟩ := gp_inv h
  obtain ⟨fs, ho⟩ := isO_inv ho
  obtain ⟨x1, H2, hx1, h⟩ := bd2_inv h
  refine sn_callv (av := []) (st := []) (M2 := mX2_turnedRound) dX2_ordinaryCorners_1 msX2_turnedRound mlX2_57 rfl rfl rfl rfl rfl ho (sX2_turnedRound hx1) ?_
  refine sn_blk _ kX2_ordinaryCorners_0_1 (pc' := 9) (L' := [some (.ref a0), some (.int x1), some (.int 0), some (.int 0)]) (st' := []) rfl rfl ?_
  exact tfX2_ordinaryCorners_9  4096 h
theorem sX2_ordinaryCorners {G : GG} {r : Int32} {H' : Hp} {a0 : Nat} {H : Hp} (h : FX2_ordinaryCorners a0 H = some (r, H')) : SM G mX2_ordinaryCorners [.ref a0] H (some (.int r)) H' := tFX2_ordinaryCorners h
/-! SquareFolds$Gluing.mostTurns()I -/
theorem kX2_mostTurns_0_0 : decB cX2_mostTurns 0 [(.aload_n 0, .null)] = true := by decide +kernel
theorem kX2_mostTurns_0_1 : decB cX2_mostTurns 4 [(.istore_n 1, .null), (.iconst 0, .int 0), (.istore_n 2, .null), (.iconst 0, .int 0), (.istore_n 3, .null)] = true := by decide +kernel
theorem kX2_mostTurns_9_0 : decB cX2_mostTurns 9 [(.iload_n 3, .null), (.aload_n 0, .null)] = true := by decide +kernel
theorem kX2_mostTurns_9_1 : decB cX2_mostTurns 40 [(.iload_n 2, .null)] = true := by decide +kernel
theorem kX2_mostTurns_9_2 : decB cX2_mostTurns 17 [(.iload_n 2, .null), (.iload_n 1, .null), (.iload_n 3, .null), (.aload_n 0, .null)] = true := by decide +kernel
theorem kX2_mostTurns_9_3 : decB cX2_mostTurns 33 [(.istore_n 2, .null), (.iinc 3 1, .int 1), (.goto (-28), .retAddr 9)] = true := by decide +kernel
theorem dX2_mostTurns_1 : decode cX2_mostTurns 1 = .ok (.invokevirtual 57, 3) := by decide +kernel
theorem dX2_mostTurns_11 : decode cX2_mostTurns 11 = .ok (.getfield 9, 3) := by decide +kernel
theorem dX2_mostTurns_14 : decode cX2_mostTurns 14 = .ok (.if_icmp .ge 26, 3) := by decide +kernel
theorem dX2_mostTurns_21 : decode cX2_mostTurns 21 = .ok (.getfield 9, 3) := by decide +kernel
theorem dX2_mostTurns_24 : decode cX2_mostTurns 24 = .ok (.invokestatic 63, 3) := by decide +kernel
theorem dX2_mostTurns_27 : decode cX2_mostTurns 27 = .ok (.invokestatic 66, 3) := by decide +kernel
theorem dX2_mostTurns_30 : decode cX2_mostTurns 30 = .ok (.invokestatic 72, 3) := by decide +kernel
theorem dX2_mostTurns_41 : decode cX2_mostTurns 41 = .ok (.ireturn, 1) := by decide +kernel
def bX2_mostTurns_9 (K9 : Nat → Int32 → Int32 → Int32 → Hp → Option (Int32 × Hp)) (a0 : Nat) (a1 : Int32) (a2 : Int32) (a3 : Int32) (H : Hp) : Option (Int32 × Hp) :=
  bd (gI H a0 2 0) fun x1 =>
  if (x1 ≤ a3 : Prop) then
    some (a2, H)
  else
    bd (gI H a0 2 0) fun x2 =>
    bd2 (FX6_ring a1 a3 x2 H) fun x3 H4 =>
    bd2 (FJ6_bitCount_0f7a4 x3 H4) fun x5 H6 =>
    K9 a0 a1 (if a2 < x5 then x5 else a2) (a3 + 1) H6
set_option maxHeartbeats 4000000 in
set_option maxRecDepth 100000 in
theorem tbX2_mostTurns_9 {G : GG} {r : Int32} {H' : Hp} {K9 : Nat → Int32 → Int32 → Int32 → Hp → Option (Int32 × Hp)} (hK9 : ∀ (a0 : Nat) (a1 : Int32) (a2 : Int32) (a3 : Int32) (H : Hp), K9 a0 a1 a2 a3 H = some (r, H') → Sn G (T0 G (some (.int r)) H') mX2_mostTurns 9 [some (.ref a0), some (.int a1), some (.int a2), some (.int a3)] [] H) {a0 : Nat} {a1 : Int32} {a2 : Int32} {a3 : Int32} {H : Hp} (h : bX2_mostTurns_9 K9 a0 a1 a2 a3 H = some (r, H')) : Sn G (T0 G (some (.int r)) H') mX2_mostTurns 9 [some (.ref a0), some (.int a1), some (.int a2), some (.int a3)] [] H := by
  unfold bX2_mostTurns_9 at h
  refine sn_blk _ kX2_mostTurns_9_0 (pc' := 11) (L' := [some (.ref a0), some (.int a1), some (.int a2), some (.int a3)]) (st' := [.ref a0, .int a3]) rfl rfl ?_
  obtain ⟨x1, hx1, h⟩ := bd_inv h
  refine sn_gI dX2_mostTurns_11 foX2_9 hx1 ?_
  refine sn_icmp_ge (tgt := 40) dX2_mostTurns_14 (by decide) (fun c => ?_) (fun c => ?_)
  · rw [if_pos c] at h
    refine sn_blk _ kX2_mostTurns_9_1 (pc' := 41) (L' := [some (.ref a0), some (.int a1), some (.int a2), some (.int a3)]) (st' := [.int a2]) rfl rfl ?_
    cases h
    exact sn_iret (ty := .int) dX2_mostTurns_41 rfl rfl
  · rw [if_neg c] at h
    refine sn_blk _ kX2_mostTurns_9_2 (pc' := 21) (L' := [some (.ref a0), some (.int a1), some (.int a2), some (.int a3)]) (st' := [.ref a0, .int a3, .int a1, .int a2]) rfl rfl ?_
    obtain ⟨x2, hx2, h⟩ := bd_inv h
    refine sn_gI dX2_mostTurns_21 foX2_9 hx2 ?_
    obtain ⟨x3, H4, hx3, h⟩ := bd2_inv h
    refine sn_calls (av := [.int a1, .int a3, .int x2]) (st := [.int a2]) (M2 := mX6_ring) dX2_mostTurns_24 msX6_ring mlX2_63 rfl rfl rfl rfl rfl (sX6_ring hx3) ?_
    obtain ⟨x5, H6, hx5, h⟩ := bd2_inv h
    refine sn_calls (av := [.int x3]) (st := [.int a2]) (M2 := mJ6_bitCount_0f7a4) dX2_mostTurns_27 msJ6_bitCount_0f7a4 mlX2_66 rfl rfl rfl rfl rfl (sJ6_bitCount_0f7a4 hx5) ?_
    refine sn_mmax dX2_mostTurns_30 mlX2_72 (by decide +kernel) rfl ?_
    refine sn_blk _ kX2_mostTurns_9_3 (pc' := 9) (L' := [some (.ref a0), some (.int a1), some (.int (if a2 < x5 then x5 else a2)), some (.int (a3 + 1))]) (st' := []) rfl rfl ?_
    exact hK9 _ _ _ _ _ h
def fX2_mostTurns_9  : Nat → Nat → Int32 → Int32 → Int32 → Hp → Option (Int32 × Hp)
  | 0, _, _, _, _, _ => none
  | d + 1, a0, a1, a2, a3, H => bX2_mostTurns_9 (fX2_mostTurns_9  d) a0 a1 a2 a3 H
theorem tfX2_mostTurns_9 {G : GG} {r : Int32} {H' : Hp}   : ∀ (d : Nat) {a0 : Nat} {a1 : Int32} {a2 : Int32} {a3 : Int32} {H : Hp}, fX2_mostTurns_9  d a0 a1 a2 a3 H = some (r, H') → Sn G (T0 G (some (.int r)) H') mX2_mostTurns 9 [some (.ref a0), some (.int a1), some (.int a2), some (.int a3)] [] H := by
  intro d
  induction d with
  | zero => intro a0 a1 a2 a3 H h; cases h
  | succ d ih => intro a0 a1 a2 a3 H h; exact tbX2_mostTurns_9 (fun a0 a1 a2 a3 H h => ih h) h
def FX2_mostTurns  (a0 : Nat) (H : Hp) : Option (Int32 × Hp) :=
  gp (isO H a0 2 = true) (
    bd2 (FX2_turnedRound a0  H) fun x1 H2 =>
    fX2_mostTurns_9  4096 a0 x1 0 0 H2
    )
set_option maxHeartbeats 4000000 in
set_option maxRecDepth 100000 in
theorem tFX2_mostTurns {G : GG} {r : Int32} {H' : Hp}   {a0 : Nat} {H : Hp} (h : FX2_mostTurns  a0 H = some (r, H')) : Sn G (T0 G (some (.int r)) H') mX2_mostTurns 0 [some (.ref a0), none, none, none] [] H := by
  unfold FX2_mostTurns at h
  refine sn_blk _ kX2_mostTurns_0_0 (pc' := 1) (L' := [some (.ref a0), none, none, none]) (st' := [.ref a0]) rfl rfl ?_
  obtain ⟨ho, h⟩ := gp_inv h
  obtain ⟨fs, ho⟩ := isO_inv ho
  obtain ⟨x1, H2, hx1, h⟩ := bd2_inv h
  refine sn_callv (av := []) (st := []) (M2 := mX2_turnedRound) dX2_mostTurns_1 msX2_turnedRound mlX2_57 rfl rfl rfl rfl rfl ho (sX2_turnedRound hx1) ?_
  refine sn_blk _ kX2_mostTurns_0_1 (pc' := 9) (L' := [some (.ref a0), some (.int x1), some (.int 0), some (.int 0)]) (st' := []) rfl rfl ?_
  exact tfX2_mostTurns_9  4096 h
theorem sX2_mostTurns {G : GG} {r : Int32} {H' : Hp} {a0 : Nat} {H : Hp} (h : FX2_mostTurns a0 H = some (r, H')) : SM G mX2_mostTurns [.ref a0] H (some (.int r)) H' := tFX2_mostTurns h
/-! SquareFolds$Gluing.rows()I -/
theorem kX2_rows_0_0 : decB cX2_rows 0 [(.aload_n 0, .null)] = true := by decide +kernel
theorem kX2_rows_0_1 : decB cX2_rows 4 [(.aload_n 0, .null)] = true := by decide +kernel
theorem dX2_rows_1 : decode cX2_rows 1 = .ok (.getfield 15, 3) := by decide +kernel
theorem dX2_rows_5 : decode cX2_rows 5 = .ok (.getfield 9, 3) := by decide +kernel
theorem dX2_rows_8 : decode cX2_rows 8 = .ok (.invokestatic 60, 3) := by decide +kernel
theorem dX2_rows_11 : decode cX2_rows 11 = .ok (.ireturn, 1) := by decide +kernel
def FX2_rows  (a0 : Nat) (H : Hp) : Option (Int32 × Hp) :=
  bd (gI H a0 2 1) fun x1 =>
  bd (gI H a0 2 0) fun x2 =>
  bd2 (FX6_rings x1 x2 H) fun x3 H4 =>
  some (x3, H4)
set_option maxHeartbeats 4000000 in
set_option maxRecDepth 100000 in
theorem tFX2_rows {G : GG} {r : Int32} {H' : Hp}   {a0 : Nat} {H : Hp} (h : FX2_rows  a0 H = some (r, H')) : Sn G (T0 G (some (.int r)) H') mX2_rows 0 [some (.ref a0)] [] H := by
  unfold FX2_rows at h
  refine sn_blk _ kX2_rows_0_0 (pc' := 1) (L' := [some (.ref a0)]) (st' := [.ref a0]) rfl rfl ?_
  obtain ⟨x1, hx1, h⟩ := bd_inv h
  refine sn_gI dX2_rows_1 foX2_15 hx1 ?_
  refine sn_blk _ kX2_rows_0_1 (pc' := 5) (L' := [some (.ref a0)]) (st' := [.ref a0, .int x1]) rfl rfl ?_
  obtain ⟨x2, hx2, h⟩ := bd_inv h
  refine sn_gI dX2_rows_5 foX2_9 hx2 ?_
  obtain ⟨x3, H4, hx3, h⟩ := bd2_inv h
  refine sn_calls (av := [.int x1, .int x2]) (st := []) (M2 := mX6_rings) dX2_rows_8 msX6_rings mlX2_60 rfl rfl rfl rfl rfl (sX6_rings hx3) ?_
  cases h
  exact sn_iret (ty := .int) dX2_rows_11 rfl rfl
theorem sX2_rows {G : GG} {r : Int32} {H' : Hp} {a0 : Nat} {H : Hp} (h : FX2_rows a0 H = some (r, H')) : SM G mX2_rows [.ref a0] H (some (.int r)) H' := tFX2_rows h
/-! SquareFolds$Gluing.isContinued(II)Z -/
theorem kX2_isContinued_0_0 : decB cX2_isContinued 0 [(.iconst 0, .int 0), (.istore_n 3, .null)] = true := by decide +kernel
theorem kX2_isContinued_2_0 : decB cX2_isContinued 2 [(.iload_n 3, .null), (.aload_n 0, .null)] = true := by decide +kernel
theorem kX2_isContinued_2_1 : decB cX2_isContinued 35 [(.iconst 1, .int 1)] = true := by decide +kernel
theorem kX2_isContinued_2_2 : decB cX2_isContinued 10 [(.iload_n 1, .null), (.iload_n 3, .null)] = true := by decide +kernel
theorem kX2_isContinued_2_3 : decB cX2_isContinued 29 [(.iinc 3 1, .int 1), (.goto (-30), .retAddr 2)] = true := by decide +kernel
theorem kX2_isContinued_2_4 : decB cX2_isContinued 18 [(.iload_n 2, .null), (.iload_n 3, .null)] = true := by decide +kernel
theorem kX2_isContinued_2_5 : decB cX2_isContinued 23 [(.iload_n 3, .null)] = true := by decide +kernel
theorem kX2_isContinued_2_6 : decB cX2_isContinued 29 [(.iinc 3 1, .int 1), (.goto (-30), .retAddr 2)] = true := by decide +kernel
theorem kX2_isContinued_2_7 : decB cX2_isContinued 27 [(.iconst 0, .int 0)] = true := by decide +kernel
theorem dX2_isContinued_4 : decode cX2_isContinued 4 = .ok (.getfield 9, 3) := by decide +kernel
theorem dX2_isContinued_7 : decode cX2_isContinued 7 = .ok (.if_icmp .ge 28, 3) := by decide +kernel
theorem dX2_isContinued_12 : decode cX2_isContinued 12 = .ok (.invokestatic 40, 3) := by decide +kernel
theorem dX2_isContinued_15 : decode cX2_isContinued 15 = .ok (.ifCond .eq 14, 3) := by decide +kernel
theorem dX2_isContinued_20 : decode cX2_isContinued 20 = .ok (.invokestatic 27, 3) := by decide +kernel
theorem dX2_isContinued_24 : decode cX2_isContinued 24 = .ok (.if_icmp .eq 5, 3) := by decide +kernel
theorem dX2_isContinued_28 : decode cX2_isContinued 28 = .ok (.ireturn, 1) := by decide +kernel
theorem dX2_isContinued_36 : decode cX2_isContinued 36 = .ok (.ireturn, 1) := by decide +kernel
def bX2_isContinued_2 (K2 : Nat → Int32 → Int32 → Int32 → Hp → Option (Int32 × Hp)) (a0 : Nat) (a1 : Int32) (a2 : Int32) (a3 : Int32) (H : Hp) : Option (Int32 × Hp) :=
  bd (gI H a0 2 0) fun x1 =>
  if (x1 ≤ a3 : Prop) then
    some (1, H)
  else
    bd2 (FX6_isIn a1 a3 H) fun x2 H3 =>
    if (x2 = 0 : Prop) then
      K2 a0 a1 a2 (a3 + 1) H3
    else
      bd2 (FX6_at a2 a3 H3) fun x4 H5 =>
      if (x4 = a3 : Prop) then
        K2 a0 a1 a2 (a3 + 1) H5
      else
        some (0, H5)
set_option maxHeartbeats 4000000 in
set_option maxRecDepth 100000 in
theorem tbX2_isContinued_2 {G : GG} {r : Int32} {H' : Hp} {K2 : Nat → Int32 → Int32 → Int32 → Hp → Option (Int32 × Hp)} (hK2 : ∀ (a0 : Nat) (a1 : Int32) (a2 : Int32) (a3 : Int32) (H : Hp), K2 a0 a1 a2 a3 H = some (r, H') → Sn G (T0 G (some (.int r)) H') mX2_isContinued 2 [some (.ref a0), some (.int a1), some (.int a2), some (.int a3)] [] H) {a0 : Nat} {a1 : Int32} {a2 : Int32} {a3 : Int32} {H : Hp} (h : bX2_isContinued_2 K2 a0 a1 a2 a3 H = some (r, H')) : Sn G (T0 G (some (.int r)) H') mX2_isContinued 2 [some (.ref a0), some (.int a1), some (.int a2), some (.int a3)] [] H := by
  unfold bX2_isContinued_2 at h
  refine sn_blk _ kX2_isContinued_2_0 (pc' := 4) (L' := [some (.ref a0), some (.int a1), some (.int a2), some (.int a3)]) (st' := [.ref a0, .int a3]) rfl rfl ?_
  obtain ⟨x1, hx1, h⟩ := bd_inv h
  refine sn_gI dX2_isContinued_4 foX2_9 hx1 ?_
  refine sn_icmp_ge (tgt := 35) dX2_isContinued_7 (by decide) (fun c => ?_) (fun c => ?_)
  · rw [if_pos c] at h
    refine sn_blk _ kX2_isContinued_2_1 (pc' := 36) (L' := [some (.ref a0), some (.int a1), some (.int a2), some (.int a3)]) (st' := [.int 1]) rfl rfl ?_
    cases h
    exact sn_iret (ty := .boolean) dX2_isContinued_36 rfl rfl
  · rw [if_neg c] at h
    refine sn_blk _ kX2_isContinued_2_2 (pc' := 12) (L' := [some (.ref a0), some (.int a1), some (.int a2), some (.int a3)]) (st' := [.int a3, .int a1]) rfl rfl ?_
    obtain ⟨x2, H3, hx2, h⟩ := bd2_inv h
    refine sn_calls (av := [.int a1, .int a3]) (st := []) (M2 := mX6_isIn) dX2_isContinued_12 msX6_isIn mlX2_40 rfl rfl rfl rfl rfl (sX6_isIn hx2) ?_
    refine sn_if_eq (tgt := 29) dX2_isContinued_15 (by decide) (fun c => ?_) (fun c => ?_)
    · rw [if_pos c] at h
      refine sn_blk _ kX2_isContinued_2_3 (pc' := 2) (L' := [some (.ref a0), some (.int a1), some (.int a2), some (.int (a3 + 1))]) (st' := []) rfl rfl ?_
      exact hK2 _ _ _ _ _ h
    · rw [if_neg c] at h
      refine sn_blk _ kX2_isContinued_2_4 (pc' := 20) (L' := [some (.ref a0), some (.int a1), some (.int a2), some (.int a3)]) (st' := [.int a3, .int a2]) rfl rfl ?_
      obtain ⟨x4, H5, hx4, h⟩ := bd2_inv h
      refine sn_calls (av := [.int a2, .int a3]) (st := []) (M2 := mX6_at) dX2_isContinued_20 msX6_at mlX2_27 rfl rfl rfl rfl rfl (sX6_at hx4) ?_
      refine sn_blk _ kX2_isContinued_2_5 (pc' := 24) (L' := [some (.ref a0), some (.int a1), some (.int a2), some (.int a3)]) (st' := [.int a3, .int x4]) rfl rfl ?_
      refine sn_icmp_eq (tgt := 29) dX2_isContinued_24 (by decide) (fun c => ?_) (fun c => ?_)
      · rw [if_pos c] at h
        refine sn_blk _ kX2_isContinued_2_6 (pc' := 2) (L' := [some (.ref a0), some (.int a1), some (.int a2), some (.int (a3 + 1))]) (st' := []) rfl rfl ?_
        exact hK2 _ _ _ _ _ h
      · rw [if_neg c] at h
        refine sn_blk _ kX2_isContinued_2_7 (pc' := 28) (L' := [some (.ref a0), some (.int a1), some (.int a2), some (.int a3)]) (st' := [.int 0]) rfl rfl ?_
        cases h
        exact sn_iret (ty := .boolean) dX2_isContinued_28 rfl rfl
def fX2_isContinued_2  : Nat → Nat → Int32 → Int32 → Int32 → Hp → Option (Int32 × Hp)
  | 0, _, _, _, _, _ => none
  | d + 1, a0, a1, a2, a3, H => bX2_isContinued_2 (fX2_isContinued_2  d) a0 a1 a2 a3 H
theorem tfX2_isContinued_2 {G : GG} {r : Int32} {H' : Hp}   : ∀ (d : Nat) {a0 : Nat} {a1 : Int32} {a2 : Int32} {a3 : Int32} {H : Hp}, fX2_isContinued_2  d a0 a1 a2 a3 H = some (r, H') → Sn G (T0 G (some (.int r)) H') mX2_isContinued 2 [some (.ref a0), some (.int a1), some (.int a2), some (.int a3)] [] H := by
  intro d
  induction d with
  | zero => intro a0 a1 a2 a3 H h; cases h
  | succ d ih => intro a0 a1 a2 a3 H h; exact tbX2_isContinued_2 (fun a0 a1 a2 a3 H h => ih h) h
def FX2_isContinued  (a0 : Nat) (a1 : Int32) (a2 : Int32) (H : Hp) : Option (Int32 × Hp) :=
  fX2_isContinued_2  4096 a0 a1 a2 0 H
set_option maxHeartbeats 4000000 in
set_option maxRecDepth 100000 in
theorem tFX2_isContinued {G : GG} {r : Int32} {H' : Hp}   {a0 : Nat} {a1 : Int32} {a2 : Int32} {H : Hp} (h : FX2_isContinued  a0 a1 a2 H = some (r, H')) : Sn G (T0 G (some (.int r)) H') mX2_isContinued 0 [some (.ref a0), some (.int a1), some (.int a2), none] [] H := by
  unfold FX2_isContinued at h
  refine sn_blk _ kX2_isContinued_0_0 (pc' := 2) (L' := [some (.ref a0), some (.int a1), some (.int a2), some (.int 0)]) (st' := []) rfl rfl ?_
  exact tfX2_isContinued_2  4096 h
theorem sX2_isContinued {G : GG} {r : Int32} {H' : Hp} {a0 : Nat} {a1 : Int32} {a2 : Int32} {H : Hp} (h : FX2_isContinued a0 a1 a2 H = some (r, H')) : SM G mX2_isContinued [.ref a0, .int a1, .int a2] H (some (.int r)) H' := tFX2_isContinued h
/-! SquareFolds$Gluing.band(I)I -/
theorem kX2_band_0_0 : decB cX2_band 0 [(.aload_n 0, .null)] = true := by decide +kernel
theorem kX2_band_0_1 : decB cX2_band 4 [(.istore_n 2, .null), (.aload_n 0, .null)] = true := by decide +kernel
theorem kX2_band_0_2 : decB cX2_band 9 [(.iload_n 1, .null), (.aload_n 0, .null)] = true := by decide +kernel
theorem kX2_band_0_3 : decB cX2_band 17 [(.istore_n 3, .null), (.iconst 1, .int 1), (.istore 4, .null)] = true := by decide +kernel
theorem kX2_band_21_0 : decB cX2_band 21 [(.iload 4, .null), (.aload_n 0, .null)] = true := by decide +kernel
theorem kX2_band_21_1 : decB cX2_band 128 [(.iload_n 3, .null)] = true := by decide +kernel
theorem kX2_band_21_2 : decB cX2_band 30 [(.iload_n 3, .null), (.istore 5, .null), (.iconst 0, .int 0), (.istore 6, .null)] = true := by decide +kernel
theorem kX2_band_36_0 : decB cX2_band 36 [(.iload 6, .null), (.aload_n 0, .null)] = true := by decide +kernel
theorem kX2_band_36_1 : decB cX2_band 113 [(.iload_n 3, .null), (.iload 5, .null)] = true := by decide +kernel
theorem kX2_band_36_2 : decB cX2_band 122 [(.iinc 4 1, .int 1), (.goto (-104), .retAddr 21)] = true := by decide +kernel
theorem kX2_band_36_3 : decB cX2_band 119 [(.goto 9, .retAddr 128), (.iload_n 3, .null)] = true := by decide +kernel
theorem kX2_band_36_4 : decB cX2_band 45 [(.aload_n 0, .null)] = true := by decide +kernel
theorem kX2_band_36_5 : decB cX2_band 49 [(.iload 6, .null), (.aload_n 0, .null)] = true := by decide +kernel
theorem kX2_band_36_6 : decB cX2_band 58 [(.istore 7, .null), (.iload 7, .null), (.aload_n 0, .null)] = true := by decide +kernel
theorem kX2_band_36_7 : decB cX2_band 66 [(.aload_n 0, .null)] = true := by decide +kernel
theorem kX2_band_36_8 : decB cX2_band 70 [(.iload 6, .null)] = true := by decide +kernel
theorem kX2_band_36_9 : decB cX2_band 75 [(.aload_n 0, .null)] = true := by decide +kernel
theorem kX2_band_36_10 : decB cX2_band 82 [(.ior, .null), (.istore 8, .null), (.iload 8, .null), (.iload_n 3, .null), (.iand, .null)] = true := by decide +kernel
theorem kX2_band_36_11 : decB cX2_band 107 [(.iinc 6 1, .int 1), (.goto (-74), .retAddr 36)] = true := by decide +kernel
theorem kX2_band_36_12 : decB cX2_band 92 [(.aload_n 0, .null), (.iload 7, .null), (.iload_n 2, .null)] = true := by decide +kernel
theorem kX2_band_36_13 : decB cX2_band 107 [(.iinc 6 1, .int 1), (.goto (-74), .retAddr 36)] = true := by decide +kernel
theorem kX2_band_36_14 : decB cX2_band 102 [(.iload_n 3, .null), (.iload 8, .null), (.ior, .null), (.istore_n 3, .null), (.iinc 6 1, .int 1), (.goto (-74), .retAddr 36)] = true := by decide +kernel
theorem dX2_band_1 : decode cX2_band 1 = .ok (.invokevirtual 57, 3) := by decide +kernel
theorem dX2_band_6 : decode cX2_band 6 = .ok (.getfield 15, 3) := by decide +kernel
theorem dX2_band_11 : decode cX2_band 11 = .ok (.getfield 9, 3) := by decide +kernel
theorem dX2_band_14 : decode cX2_band 14 = .ok (.invokestatic 63, 3) := by decide +kernel
theorem dX2_band_24 : decode cX2_band 24 = .ok (.getfield 9, 3) := by decide +kernel
theorem dX2_band_27 : decode cX2_band 27 = .ok (.if_icmp .ge 101, 3) := by decide +kernel
theorem dX2_band_39 : decode cX2_band 39 = .ok (.getfield 9, 3) := by decide +kernel
theorem dX2_band_42 : decode cX2_band 42 = .ok (.if_icmp .ge 71, 3) := by decide +kernel
theorem dX2_band_46 : decode cX2_band 46 = .ok (.getfield 15, 3) := by decide +kernel
theorem dX2_band_52 : decode cX2_band 52 = .ok (.getfield 9, 3) := by decide +kernel
theorem dX2_band_55 : decode cX2_band 55 = .ok (.invokestatic 63, 3) := by decide +kernel
theorem dX2_band_63 : decode cX2_band 63 = .ok (.getfield 15, 3) := by decide +kernel
theorem dX2_band_67 : decode cX2_band 67 = .ok (.getfield 18, 3) := by decide +kernel
theorem dX2_band_72 : decode cX2_band 72 = .ok (.invokestatic 27, 3) := by decide +kernel
theorem dX2_band_76 : decode cX2_band 76 = .ok (.getfield 9, 3) := by decide +kernel
theorem dX2_band_79 : decode cX2_band 79 = .ok (.invokestatic 63, 3) := by decide +kernel
theorem dX2_band_89 : decode cX2_band 89 = .ok (.ifCond .eq 18, 3) := by decide +kernel
theorem dX2_band_96 : decode cX2_band 96 = .ok (.invokevirtual 80, 3) := by decide +kernel
theorem dX2_band_99 : decode cX2_band 99 = .ok (.ifCond .eq 8, 3) := by decide +kernel
theorem dX2_band_116 : decode cX2_band 116 = .ok (.if_icmp .ne 6, 3) := by decide +kernel
theorem dX2_band_129 : decode cX2_band 129 = .ok (.ireturn, 1) := by decide +kernel
def bX2_band_36 (K21 : Nat → Int32 → Int32 → Int32 → Hp → Option (Int32 × Hp)) (K36 : Nat → Int32 → Int32 → Int32 → Int32 → Int32 → Hp → Option (Int32 × Hp)) (a0 : Nat) (a2 : Int32) (a3 : Int32) (a4 : Int32) (a5 : Int32) (a6 : Int32) (H : Hp) : Option (Int32 × Hp) :=
  bd (gI H a0 2 0) fun x1 =>
  if (x1 ≤ a6 : Prop) then
    if (a3 = a5 : Prop) then
      some (a3, H)
    else
      K21 a0 a2 a3 (a4 + 1) H
  else
    bd (gI H a0 2 1) fun x2 =>
    bd (gI H a0 2 0) fun x3 =>
    bd2 (FX6_ring x2 a6 x3 H) fun x4 H5 =>
    bd (gI H5 a0 2 1) fun x6 =>
    bd (gI H5 a0 2 2) fun x7 =>
    bd2 (FX6_at x7 a6 H5) fun x8 H9 =>
    bd (gI H9 a0 2 0) fun x10 =>
    bd2 (FX6_ring x6 x8 x10 H9) fun x11 H12 =>
    if (((x4 ||| x11) &&& a3) = 0 : Prop) then
      K36 a0 a2 a3 a4 a5 (a6 + 1) H12
    else
      gp (isO H12 a0 2 = true) (
        bd2 (FX2_isContinued a0 x4 a2 H12) fun x13 H14 =>
        if (x13 = 0 : Prop) then
          K36 a0 a2 a3 a4 a5 (a6 + 1) H14
        else
          K36 a0 a2 (a3 ||| (x4 ||| x11)) a4 a5 (a6 + 1) H14
        )
set_option maxHeartbeats 4000000 in
set_option maxRecDepth 100000 in
theorem tbX2_band_36 {G : GG} {r : Int32} {H' : Hp} {K21 : Nat → Int32 → Int32 → Int32 → Hp → Option (Int32 × Hp)} {K36 : Nat → Int32 → Int32 → Int32 → Int32 → Int32 → Hp → Option (Int32 × Hp)} (hK21 : ∀ (a0 : Nat) (a2 : Int32) (a3 : Int32) (a4 : Int32) (H : Hp), K21 a0 a2 a3 a4 H = some (r, H') → Sn G (T0 G (some (.int r)) H') mX2_band 21 [some (.ref a0), none, some (.int a2), some (.int a3), some (.int a4), none, none, none, none] [] H) (hK36 : ∀ (a0 : Nat) (a2 : Int32) (a3 : Int32) (a4 : Int32) (a5 : Int32) (a6 : Int32) (H : Hp), K36 a0 a2 a3 a4 a5 a6 H = some (r, H') → Sn G (T0 G (some (.int r)) H') mX2_band 36 [some (.ref a0), none, some (.int a2), some (.int a3), some (.int a4), some (.int a5), some (.int a6), none, none] [] H) {a0 : Nat} {a2 : Int32} {a3 : Int32} {a4 : Int32} {a5 : Int32} {a6 : Int32} {H : Hp} (h : bX2_band_36 K21 K36 a0 a2 a3 a4 a5 a6 H = some (r, H')) : Sn G (T0 G (some (.int r)) H') mX2_band 36 [some (.ref a0), none, some (.int a2), some (.int a3), some (.int a4), some (.int a5), some (.int a6), none, none] [] H := by
  unfold bX2_band_36 at h
  refine sn_blk _ kX2_band_36_0 (pc' := 39) (L' := [some (.ref a0), none, some (.int a2), some (.int a3), some (.int a4), some (.int a5), some (.int a6), none, none]) (st' := [.ref a0, .int a6]) rfl rfl ?_
  obtain ⟨x1, hx1, h⟩ := bd_inv h
  refine sn_gI dX2_band_39 foX2_9 hx1 ?_
  refine sn_icmp_ge (tgt := 113) dX2_band_42 (by decide) (fun c => ?_) (fun c => ?_)
  · rw [if_pos c] at h
    refine sn_blk _ kX2_band_36_1 (pc' := 116) (L' := [some (.ref a0), none, some (.int a2), some (.int a3), some (.int a4), some (.int a5), some (.int a6), none, none]) (st' := [.int a5, .int a3]) rfl rfl ?_
    refine sn_icmp_ne (tgt := 122) dX2_band_116 (by decide) (fun c => ?_) (fun c => ?_)
    · rw [if_neg c] at h
      refine sn_blk _ kX2_band_36_2 (pc' := 21) (L' := [some (.ref a0), none, some (.int a2), some (.int a3), some (.int (a4 + 1)), some (.int a5), some (.int a6), none, none]) (st' := []) rfl rfl ?_
      refine sn_msk [true, true, true, true, true, false, false, true, true] (L2 := [some (.ref a0), none, some (.int a2), some (.int a3), some (.int (a4 + 1)), none, none, none, none]) rfl ?_
      exact hK21 _ _ _ _ _ h
    · rw [if_pos c] at h
      refine sn_blk _ kX2_band_36_3 (pc' := 129) (L' := [some (.ref a0), none, some (.int a2), some (.int a3), some (.int a4), some (.int a5), some (.int a6), none, none]) (st' := [.int a3]) rfl rfl ?_
      cases h
      exact sn_iret (ty := .int) dX2_band_129 rfl rfl
  · rw [if_neg c] at h
    refine sn_blk _ kX2_band_36_4 (pc' := 46) (L' := [some (.ref a0), none, some (.int a2), some (.int a3), some (.int a4), some (.int a5), some (.int a6), none, none]) (st' := [.ref a0]) rfl rfl ?_
    obtain ⟨x2, hx2, h⟩ := bd_inv h
    refine sn_gI dX2_band_46 foX2_15 hx2 ?_
    refine sn_blk _ kX2_band_36_5 (pc' := 52) (L' := [some (.ref a0), none, some (.int a2), some (.int a3), some (.int a4), some (.int a5), some (.int a6), none, none]) (st' := [.ref a0, .int a6, .int x2]) rfl rfl ?_
    obtain ⟨x3, hx3, h⟩ := bd_inv h
    refine sn_gI dX2_band_52 foX2_9 hx3 ?_
    obtain ⟨x4, H5, hx4, h⟩ := bd2_inv h
    refine sn_calls (av := [.int x2, .int a6, .int x3]) (st := []) (M2 := mX6_ring) dX2_band_55 msX6_ring mlX2_63 rfl rfl rfl rfl rfl (sX6_ring hx4) ?_
    refine sn_blk _ kX2_band_36_6 (pc' := 63) (L' := [some (.ref a0), none, some (.int a2), some (.int a3), some (.int a4), some (.int a5), some (.int a6), some (.int x4), none]) (st' := [.ref a0, .int x4]) rfl rfl ?_
    obtain ⟨x6, hx6, h⟩ := bd_inv h
    refine sn_gI dX2_band_63 foX2_15 hx6 ?_
    refine sn_blk _ kX2_band_36_7 (pc' := 67) (L' := [some (.ref a0), none, some (.int a2), some (.int a3), some (.int a4), some (.int a5), some (.int a6), some (.int x4), none]) (st' := [.ref a0, .int x6, .int x4]) rfl rfl ?_
    obtain ⟨x7, hx7, h⟩ := bd_inv h
    refine sn_gI dX2_band_67 foX2_18 hx7 ?_
    refine sn_blk _ kX2_band_36_8 (pc' := 72) (L' := [some (.ref a0), none, some (.int a2), some (.int a3), some (.int a4), some (.int a5), some (.int a6), some (.int x4), none]) (st' := [.int a6, .int x7, .int x6, .int x4]) rfl rfl ?_
    obtain ⟨x8, H9, hx8, h⟩ := bd2_inv h
    refine sn_calls (av := [.int x7, .int a6]) (st := [.int x6, .int x4]) (M2 := mX6_at) dX2_band_72 msX6_at mlX2_27 rfl rfl rfl rfl rfl (sX6_at hx8) ?_
    refine sn_blk _ kX2_band_36_9 (pc' := 76) (L' := [some (.ref a0), none, some (.int a2), some (.int a3), some (.int a4), some (.int a5), some (.int a6), some (.int x4), none]) (st' := [.ref a0, .int x8, .int x6, .int x4]) rfl rfl ?_
    obtain ⟨x10, hx10, h⟩ := bd_inv h
    refine sn_gI dX2_band_76 foX2_9 hx10 ?_
    obtain ⟨x11, H12, hx11, h⟩ := bd2_inv h
    refine sn_calls (av := [.int x6, .int x8, .int x10]) (st := [.int x4]) (M2 := mX6_ring) dX2_band_79 msX6_ring mlX2_63 rfl rfl rfl rfl rfl (sX6_ring hx11) ?_
    refine sn_blk _ kX2_band_36_10 (pc' := 89) (L' := [some (.ref a0), none, some (.int a2), some (.int a3), some (.int a4), some (.int a5), some (.int a6), some (.int x4), some (.int (x4 ||| x11))]) (st' := [.int ((x4 ||| x11) &&& a3)]) rfl rfl ?_
    refine sn_if_eq (tgt := 107) dX2_band_89 (by decide) (fun c => ?_) (fun c => ?_)
    · rw [if_pos c] at h
      refine sn_blk _ kX2_band_36_11 (pc' := 36) (L' := [some (.ref a0), none, some (.int a2), some (.int a3), some (.int a4), some (.int a5), some (.int (a6 + 1)), some (.int x4), some (.int (x4 ||| x11))]) (st' := []) rfl rfl ?_
      refine sn_msk [true, true, true, true, true, true, true, false, false] (L2 := [some (.ref a0), none, some (.int a2), some (.int a3), some (.int a4), some (.int a5), some (.int (a6 + 1)), none, none]) rfl ?_
      exact hK36 _ _ _ _ _ _ _ h
    · rw [if_neg c] at h
      refine sn_blk _ kX2_band_36_12 (pc' := 96) (L' := [some (.ref a0), none, some (.int a2), some (.int a3), some (.int a4), some (.int a5), some (.int a6), some (.int x4), some (.int (x4 ||| x11))]) (st' := [.int a2, .int x4, .ref a0]) rfl rfl ?_
      obtain ⟨ho, h⟩ := gp_inv h
      obtain ⟨fs, ho⟩ := isO_inv ho
      obtain ⟨x13, H14, hx13, h⟩ := bd2_inv h
      refine sn_callv (av := [.int x4, .int a2]) (st := []) (M2 := mX2_isContinued) dX2_band_96 msX2_isContinued mlX2_80 rfl rfl rfl rfl rfl ho (sX2_isContinued hx13) ?_
      refine sn_if_eq (tgt := 107) dX2_band_99 (by decide) (fun c => ?_) (fun c => ?_)
      · rw [if_pos c] at h
        refine sn_blk _ kX2_band_36_13 (pc' := 36) (L' := [some (.ref a0), none, some (.int a2), some (.int a3), some (.int a4), some (.int a5), some (.int (a6 + 1)), some (.int x4), some (.int (x4 ||| x11))]) (st' := []) rfl rfl ?_
        refine sn_msk [true, true, true, true, true, true, true, false, false] (L2 := [some (.ref a0), none, some (.int a2), some (.int a3), some (.int a4), some (.int a5), some (.int (a6 + 1)), none, none]) rfl ?_
        exact hK36 _ _ _ _ _ _ _ h
      · rw [if_neg c] at h
        refine sn_blk _ kX2_band_36_14 (pc' := 36) (L' := [some (.ref a0), none, some (.int a2), some (.int (a3 ||| (x4 ||| x11))), some (.int a4), some (.int a5), some (.int (a6 + 1)), some (.int x4), some (.int (x4 ||| x11))]) (st' := []) rfl rfl ?_
        refine sn_msk [true, true, true, true, true, true, true, false, false] (L2 := [some (.ref a0), none, some (.int a2), some (.int (a3 ||| (x4 ||| x11))), some (.int a4), some (.int a5), some (.int (a6 + 1)), none, none]) rfl ?_
        exact hK36 _ _ _ _ _ _ _ h
def fX2_band_36 (K21 : Nat → Int32 → Int32 → Int32 → Hp → Option (Int32 × Hp)) : Nat → Nat → Int32 → Int32 → Int32 → Int32 → Int32 → Hp → Option (Int32 × Hp)
  | 0, _, _, _, _, _, _, _ => none
  | d + 1, a0, a2, a3, a4, a5, a6, H => bX2_band_36 K21 (fX2_band_36 K21 d) a0 a2 a3 a4 a5 a6 H
theorem tfX2_band_36 {G : GG} {r : Int32} {H' : Hp} {K21 : Nat → Int32 → Int32 → Int32 → Hp → Option (Int32 × Hp)} (hK21 : ∀ (a0 : Nat) (a2 : Int32) (a3 : Int32) (a4 : Int32) (H : Hp), K21 a0 a2 a3 a4 H = some (r, H') → Sn G (T0 G (some (.int r)) H') mX2_band 21 [some (.ref a0), none, some (.int a2), some (.int a3), some (.int a4), none, none, none, none] [] H) : ∀ (d : Nat) {a0 : Nat} {a2 : Int32} {a3 : Int32} {a4 : Int32} {a5 : Int32} {a6 : Int32} {H : Hp}, fX2_band_36 K21 d a0 a2 a3 a4 a5 a6 H = some (r, H') → Sn G (T0 G (some (.int r)) H') mX2_band 36 [some (.ref a0), none, some (.int a2), some (.int a3), some (.int a4), some (.int a5), some (.int a6), none, none] [] H := by
  intro d
  induction d with
  | zero => intro a0 a2 a3 a4 a5 a6 H h; cases h
  | succ d ih => intro a0 a2 a3 a4 a5 a6 H h; exact tbX2_band_36 hK21 (fun a0 a2 a3 a4 a5 a6 H h => ih h) h
def bX2_band_21 (K21 : Nat → Int32 → Int32 → Int32 → Hp → Option (Int32 × Hp)) (a0 : Nat) (a2 : Int32) (a3 : Int32) (a4 : Int32) (H : Hp) : Option (Int32 × Hp) :=
  bd (gI H a0 2 0) fun x1 =>
  if (x1 ≤ a4 : Prop) then
    some (a3, H)
  else
    fX2_band_36 K21 4096 a0 a2 a3 a4 a3 0 H
set_option maxHeartbeats 4000000 in
set_option maxRecDepth 100000 in
theorem tbX2_band_21 {G : GG} {r : Int32} {H' : Hp} {K21 : Nat → Int32 → Int32 → Int32 → Hp → Option (Int32 × Hp)} (hK21 : ∀ (a0 : Nat) (a2 : Int32) (a3 : Int32) (a4 : Int32) (H : Hp), K21 a0 a2 a3 a4 H = some (r, H') → Sn G (T0 G (some (.int r)) H') mX2_band 21 [some (.ref a0), none, some (.int a2), some (.int a3), some (.int a4), none, none, none, none] [] H) {a0 : Nat} {a2 : Int32} {a3 : Int32} {a4 : Int32} {H : Hp} (h : bX2_band_21 K21 a0 a2 a3 a4 H = some (r, H')) : Sn G (T0 G (some (.int r)) H') mX2_band 21 [some (.ref a0), none, some (.int a2), some (.int a3), some (.int a4), none, none, none, none] [] H := by
  unfold bX2_band_21 at h
  refine sn_blk _ kX2_band_21_0 (pc' := 24) (L' := [some (.ref a0), none, some (.int a2), some (.int a3), some (.int a4), none, none, none, none]) (st' := [.ref a0, .int a4]) rfl rfl ?_
  obtain ⟨x1, hx1, h⟩ := bd_inv h
  refine sn_gI dX2_band_24 foX2_9 hx1 ?_
  refine sn_icmp_ge (tgt := 128) dX2_band_27 (by decide) (fun c => ?_) (fun c => ?_)
  · rw [if_pos c] at h
    refine sn_blk _ kX2_band_21_1 (pc' := 129) (L' := [some (.ref a0), none, some (.int a2), some (.int a3), some (.int a4), none, none, none, none]) (st' := [.int a3]) rfl rfl ?_
    cases h
    exact sn_iret (ty := .int) dX2_band_129 rfl rfl
  · rw [if_neg c] at h
    refine sn_blk _ kX2_band_21_2 (pc' := 36) (L' := [some (.ref a0), none, some (.int a2), some (.int a3), some (.int a4), some (.int a3), some (.int 0), none, none]) (st' := []) rfl rfl ?_
    exact tfX2_band_36 hK21 4096 h
def fX2_band_21  : Nat → Nat → Int32 → Int32 → Int32 → Hp → Option (Int32 × Hp)
  | 0, _, _, _, _, _ => none
  | d + 1, a0, a2, a3, a4, H => bX2_band_21 (fX2_band_21  d) a0 a2 a3 a4 H
theorem tfX2_band_21 {G : GG} {r : Int32} {H' : Hp}   : ∀ (d : Nat) {a0 : Nat} {a2 : Int32} {a3 : Int32} {a4 : Int32} {H : Hp}, fX2_band_21  d a0 a2 a3 a4 H = some (r, H') → Sn G (T0 G (some (.int r)) H') mX2_band 21 [some (.ref a0), none, some (.int a2), some (.int a3), some (.int a4), none, none, none, none] [] H := by
  intro d
  induction d with
  | zero => intro a0 a2 a3 a4 H h; cases h
  | succ d ih => intro a0 a2 a3 a4 H h; exact tbX2_band_21 (fun a0 a2 a3 a4 H h => ih h) h
def FX2_band  (a0 : Nat) (a1 : Int32) (H : Hp) : Option (Int32 × Hp) :=
  gp (isO H a0 2 = true) (
    bd2 (FX2_turnedRound a0  H) fun x1 H2 =>
    bd (gI H2 a0 2 1) fun x3 =>
    bd (gI H2 a0 2 0) fun x4 =>
    bd2 (FX6_ring x3 a1 x4 H2) fun x5 H6 =>
    fX2_band_21  4096 a0 x1 x5 1 H6
    )
set_option maxHeartbeats 4000000 in
set_option maxRecDepth 100000 in
theorem tFX2_band {G : GG} {r : Int32} {H' : Hp}   {a0 : Nat} {a1 : Int32} {H : Hp} (h : FX2_band  a0 a1 H = some (r, H')) : Sn G (T0 G (some (.int r)) H') mX2_band 0 [some (.ref a0), some (.int a1), none, none, none, none, none, none, none] [] H := by
  unfold FX2_band at h
  refine sn_blk _ kX2_band_0_0 (pc' := 1) (L' := [some (.ref a0), some (.int a1), none, none, none, none, none, none, none]) (st' := [.ref a0]) rfl rfl ?_
  obtain ⟨ho, h⟩ := gp_inv h
  obtain ⟨fs, ho⟩ := isO_inv ho
  obtain ⟨x1, H2, hx1, h⟩ := bd2_inv h
  refine sn_callv (av := []) (st := []) (M2 := mX2_turnedRound) dX2_band_1 msX2_turnedRound mlX2_57 rfl rfl rfl rfl rfl ho (sX2_turnedRound hx1) ?_
  refine sn_blk _ kX2_band_0_1 (pc' := 6) (L' := [some (.ref a0), some (.int a1), some (.int x1), none, none, none, none, none, none]) (st' := [.ref a0]) rfl rfl ?_
  obtain ⟨x3, hx3, h⟩ := bd_inv h
  refine sn_gI dX2_band_6 foX2_15 hx3 ?_
  refine sn_blk _ kX2_band_0_2 (pc' := 11) (L' := [some (.ref a0), some (.int a1), some (.int x1), none, none, none, none, none, none]) (st' := [.ref a0, .int a1, .int x3]) rfl rfl ?_
  obtain ⟨x4, hx4, h⟩ := bd_inv h
  refine sn_gI dX2_band_11 foX2_9 hx4 ?_
  obtain ⟨x5, H6, hx5, h⟩ := bd2_inv h
  refine sn_calls (av := [.int x3, .int a1, .int x4]) (st := []) (M2 := mX6_ring) dX2_band_14 msX6_ring mlX2_63 rfl rfl rfl rfl rfl (sX6_ring hx5) ?_
  refine sn_blk _ kX2_band_0_3 (pc' := 21) (L' := [some (.ref a0), some (.int a1), some (.int x1), some (.int x5), some (.int 1), none, none, none, none]) (st' := []) rfl rfl ?_
  refine sn_msk [true, false, true, true, true, true, true, true, true] (L2 := [some (.ref a0), none, some (.int x1), some (.int x5), some (.int 1), none, none, none, none]) rfl ?_
  exact tfX2_band_21  4096 h
theorem sX2_band {G : GG} {r : Int32} {H' : Hp} {a0 : Nat} {a1 : Int32} {H : Hp} (h : FX2_band a0 a1 H = some (r, H')) : SM G mX2_band [.ref a0, .int a1] H (some (.int r)) H' := tFX2_band h
/-! SquareFolds$Gluing.bands()I -/
theorem kX2_bands_0_0 : decB cX2_bands 0 [(.iconst 0, .int 0), (.istore_n 1, .null), (.iconst 0, .int 0), (.istore_n 2, .null), (.iconst 0, .int 0), (.istore_n 3, .null)] = true := by decide +kernel
theorem kX2_bands_6_0 : decB cX2_bands 6 [(.iload_n 3, .null), (.aload_n 0, .null)] = true := by decide +kernel
theorem kX2_bands_6_1 : decB cX2_bands 39 [(.iload_n 2, .null)] = true := by decide +kernel
theorem kX2_bands_6_2 : decB cX2_bands 14 [(.iload_n 1, .null), (.iload_n 3, .null)] = true := by decide +kernel
theorem kX2_bands_6_3 : decB cX2_bands 33 [(.iinc 3 1, .int 1), (.goto (-30), .retAddr 6)] = true := by decide +kernel
theorem kX2_bands_6_4 : decB cX2_bands 22 [(.iload_n 1, .null), (.aload_n 0, .null), (.iload_n 3, .null)] = true := by decide +kernel
theorem kX2_bands_6_5 : decB cX2_bands 28 [(.ior, .null), (.istore_n 1, .null), (.iinc 2 1, .int 1), (.iinc 3 1, .int 1), (.goto (-30), .retAddr 6)] = true := by decide +kernel
theorem dX2_bands_8 : decode cX2_bands 8 = .ok (.getfield 9, 3) := by decide +kernel
theorem dX2_bands_11 : decode cX2_bands 11 = .ok (.if_icmp .ge 28, 3) := by decide +kernel
theorem dX2_bands_16 : decode cX2_bands 16 = .ok (.invokestatic 40, 3) := by decide +kernel
theorem dX2_bands_19 : decode cX2_bands 19 = .ok (.ifCond .ne 14, 3) := by decide +kernel
theorem dX2_bands_25 : decode cX2_bands 25 = .ok (.invokevirtual 83, 3) := by decide +kernel
theorem dX2_bands_40 : decode cX2_bands 40 = .ok (.ireturn, 1) := by decide +kernel
def bX2_bands_6 (K6 : Nat → Int32 → Int32 → Int32 → Hp → Option (Int32 × Hp)) (a0 : Nat) (a1 : Int32) (a2 : Int32) (a3 : Int32) (H : Hp) : Option (Int32 × Hp) :=
  bd (gI H a0 2 0) fun x1 =>
  if (x1 ≤ a3 : Prop) then
    some (a2, H)
  else
    bd2 (FX6_isIn a1 a3 H) fun x2 H3 =>
    if (x2 = 0 : Prop) then
      gp (isO H3 a0 2 = true) (
        bd2 (FX2_band a0 a3 H3) fun x4 H5 =>
        K6 a0 (a1 ||| x4) (a2 + 1) (a3 + 1) H5
        )
    else
      K6 a0 a1 a2 (a3 + 1) H3
set_option maxHeartbeats 4000000 in
set_option maxRecDepth 100000 in
theorem tbX2_bands_6 {G : GG} {r : Int32} {H' : Hp} {K6 : Nat → Int32 → Int32 → Int32 → Hp → Option (Int32 × Hp)} (hK6 : ∀ (a0 : Nat) (a1 : Int32) (a2 : Int32) (a3 : Int32) (H : Hp), K6 a0 a1 a2 a3 H = some (r, H') → Sn G (T0 G (some (.int r)) H') mX2_bands 6 [some (.ref a0), some (.int a1), some (.int a2), some (.int a3)] [] H) {a0 : Nat} {a1 : Int32} {a2 : Int32} {a3 : Int32} {H : Hp} (h : bX2_bands_6 K6 a0 a1 a2 a3 H = some (r, H')) : Sn G (T0 G (some (.int r)) H') mX2_bands 6 [some (.ref a0), some (.int a1), some (.int a2), some (.int a3)] [] H := by
  unfold bX2_bands_6 at h
  refine sn_blk _ kX2_bands_6_0 (pc' := 8) (L' := [some (.ref a0), some (.int a1), some (.int a2), some (.int a3)]) (st' := [.ref a0, .int a3]) rfl rfl ?_
  obtain ⟨x1, hx1, h⟩ := bd_inv h
  refine sn_gI dX2_bands_8 foX2_9 hx1 ?_
  refine sn_icmp_ge (tgt := 39) dX2_bands_11 (by decide) (fun c => ?_) (fun c => ?_)
  · rw [if_pos c] at h
    refine sn_blk _ kX2_bands_6_1 (pc' := 40) (L' := [some (.ref a0), some (.int a1), some (.int a2), some (.int a3)]) (st' := [.int a2]) rfl rfl ?_
    cases h
    exact sn_iret (ty := .int) dX2_bands_40 rfl rfl
  · rw [if_neg c] at h
    refine sn_blk _ kX2_bands_6_2 (pc' := 16) (L' := [some (.ref a0), some (.int a1), some (.int a2), some (.int a3)]) (st' := [.int a3, .int a1]) rfl rfl ?_
    obtain ⟨x2, H3, hx2, h⟩ := bd2_inv h
    refine sn_calls (av := [.int a1, .int a3]) (st := []) (M2 := mX6_isIn) dX2_bands_16 msX6_isIn mlX2_40 rfl rfl rfl rfl rfl (sX6_isIn hx2) ?_
    refine sn_if_ne (tgt := 33) dX2_bands_19 (by decide) (fun c => ?_) (fun c => ?_)
    · rw [if_neg c] at h
      refine sn_blk _ kX2_bands_6_3 (pc' := 6) (L' := [some (.ref a0), some (.int a1), some (.int a2), some (.int (a3 + 1))]) (st' := []) rfl rfl ?_
      exact hK6 _ _ _ _ _ h
    · rw [if_pos c] at h
      refine sn_blk _ kX2_bands_6_4 (pc' := 25) (L' := [some (.ref a0), some (.int a1), some (.int a2), some (.int a3)]) (st' := [.int a3, .ref a0, .int a1]) rfl rfl ?_
      obtain ⟨ho, h⟩ := gp_inv h
      obtain ⟨fs, ho⟩ := isO_inv ho
      obtain ⟨x4, H5, hx4, h⟩ := bd2_inv h
      refine sn_callv (av := [.int a3]) (st := [.int a1]) (M2 := mX2_band) dX2_bands_25 msX2_band mlX2_83 rfl rfl rfl rfl rfl ho (sX2_band hx4) ?_
      refine sn_blk _ kX2_bands_6_5 (pc' := 6) (L' := [some (.ref a0), some (.int (a1 ||| x4)), some (.int (a2 + 1)), some (.int (a3 + 1))]) (st' := []) rfl rfl ?_
      exact hK6 _ _ _ _ _ h
def fX2_bands_6  : Nat → Nat → Int32 → Int32 → Int32 → Hp → Option (Int32 × Hp)
  | 0, _, _, _, _, _ => none
  | d + 1, a0, a1, a2, a3, H => bX2_bands_6 (fX2_bands_6  d) a0 a1 a2 a3 H
theorem tfX2_bands_6 {G : GG} {r : Int32} {H' : Hp}   : ∀ (d : Nat) {a0 : Nat} {a1 : Int32} {a2 : Int32} {a3 : Int32} {H : Hp}, fX2_bands_6  d a0 a1 a2 a3 H = some (r, H') → Sn G (T0 G (some (.int r)) H') mX2_bands 6 [some (.ref a0), some (.int a1), some (.int a2), some (.int a3)] [] H := by
  intro d
  induction d with
  | zero => intro a0 a1 a2 a3 H h; cases h
  | succ d ih => intro a0 a1 a2 a3 H h; exact tbX2_bands_6 (fun a0 a1 a2 a3 H h => ih h) h
def FX2_bands  (a0 : Nat) (H : Hp) : Option (Int32 × Hp) :=
  fX2_bands_6  4096 a0 0 0 0 H
set_option maxHeartbeats 4000000 in
set_option maxRecDepth 100000 in
theorem tFX2_bands {G : GG} {r : Int32} {H' : Hp}   {a0 : Nat} {H : Hp} (h : FX2_bands  a0 H = some (r, H')) : Sn G (T0 G (some (.int r)) H') mX2_bands 0 [some (.ref a0), none, none, none] [] H := by
  unfold FX2_bands at h
  refine sn_blk _ kX2_bands_0_0 (pc' := 6) (L' := [some (.ref a0), some (.int 0), some (.int 0), some (.int 0)]) (st' := []) rfl rfl ?_
  exact tfX2_bands_6  4096 h
theorem sX2_bands {G : GG} {r : Int32} {H' : Hp} {a0 : Nat} {H : Hp} (h : FX2_bands a0 H = some (r, H')) : SM G mX2_bands [.ref a0] H (some (.int r)) H' := tFX2_bands h
/-! SquareFolds$Gluing.has(I)Z -/
theorem kX2_has_0_0 : decB cX2_has 0 [(.iload_n 1, .null)] = true := by decide +kernel
theorem kX2_has_0_1 : decB cX2_has 16 [(.iconst 0, .int 0)] = true := by decide +kernel
theorem kX2_has_0_2 : decB cX2_has 4 [(.iload_n 1, .null), (.aload_n 0, .null)] = true := by decide +kernel
theorem kX2_has_0_3 : decB cX2_has 16 [(.iconst 0, .int 0)] = true := by decide +kernel
theorem kX2_has_0_4 : decB cX2_has 12 [(.iconst 1, .int 1), (.goto 4, .retAddr 17)] = true := by decide +kernel
theorem dX2_has_1 : decode cX2_has 1 = .ok (.ifCond .lt 15, 3) := by decide +kernel
theorem dX2_has_6 : decode cX2_has 6 = .ok (.getfield 9, 3) := by decide +kernel
theorem dX2_has_9 : decode cX2_has 9 = .ok (.if_icmp .ge 7, 3) := by decide +kernel
theorem dX2_has_17 : decode cX2_has 17 = .ok (.ireturn, 1) := by decide +kernel
def FX2_has  (a0 : Nat) (a1 : Int32) (H : Hp) : Option (Int32 × Hp) :=
  if (a1 < 0 : Prop) then
    some (0, H)
  else
    bd (gI H a0 2 0) fun x1 =>
    if (x1 ≤ a1 : Prop) then
      some (0, H)
    else
      some (1, H)
set_option maxHeartbeats 4000000 in
set_option maxRecDepth 100000 in
theorem tFX2_has {G : GG} {r : Int32} {H' : Hp}   {a0 : Nat} {a1 : Int32} {H : Hp} (h : FX2_has  a0 a1 H = some (r, H')) : Sn G (T0 G (some (.int r)) H') mX2_has 0 [some (.ref a0), some (.int a1)] [] H := by
  unfold FX2_has at h
  refine sn_blk _ kX2_has_0_0 (pc' := 1) (L' := [some (.ref a0), some (.int a1)]) (st' := [.int a1]) rfl rfl ?_
  refine sn_if_lt (tgt := 16) dX2_has_1 (by decide) (fun c => ?_) (fun c => ?_)
  · rw [if_pos c] at h
    refine sn_blk _ kX2_has_0_1 (pc' := 17) (L' := [some (.ref a0), some (.int a1)]) (st' := [.int 0]) rfl rfl ?_
    cases h
    exact sn_iret (ty := .boolean) dX2_has_17 rfl rfl
  · rw [if_neg c] at h
    refine sn_blk _ kX2_has_0_2 (pc' := 6) (L' := [some (.ref a0), some (.int a1)]) (st' := [.ref a0, .int a1]) rfl rfl ?_
    obtain ⟨x1, hx1, h⟩ := bd_inv h
    refine sn_gI dX2_has_6 foX2_9 hx1 ?_
    refine sn_icmp_ge (tgt := 16) dX2_has_9 (by decide) (fun c => ?_) (fun c => ?_)
    · rw [if_pos c] at h
      refine sn_blk _ kX2_has_0_3 (pc' := 17) (L' := [some (.ref a0), some (.int a1)]) (st' := [.int 0]) rfl rfl ?_
      cases h
      exact sn_iret (ty := .boolean) dX2_has_17 rfl rfl
    · rw [if_neg c] at h
      refine sn_blk _ kX2_has_0_4 (pc' := 17) (L' := [some (.ref a0), some (.int a1)]) (st' := [.int 1]) rfl rfl ?_
      cases h
      exact sn_iret (ty := .boolean) dX2_has_17 rfl rfl
theorem sX2_has {G : GG} {r : Int32} {H' : Hp} {a0 : Nat} {a1 : Int32} {H : Hp} (h : FX2_has a0 a1 H = some (r, H')) : SM G mX2_has [.ref a0, .int a1] H (some (.int r)) H' := tFX2_has h
/-! SquareFolds$Gluing.moved(II)I -/
theorem kX2_moved_0_0 : decB cX2_moved 0 [(.iload_n 2, .null)] = true := by decide +kernel
theorem kX2_moved_0_1 : decB cX2_moved 28 [(.aload_n 0, .null)] = true := by decide +kernel
theorem kX2_moved_0_2 : decB cX2_moved 32 [(.iload_n 1, .null)] = true := by decide +kernel
theorem kX2_moved_0_3 : decB cX2_moved 37 [(.aload_n 0, .null)] = true := by decide +kernel
theorem kX2_moved_0_4 : decB cX2_moved 41 [(.iload_n 1, .null)] = true := by decide +kernel
theorem kX2_moved_0_5 : decB cX2_moved 46 [(.aload_n 0, .null)] = true := by decide +kernel
theorem kX2_moved_0_6 : decB cX2_moved 50 [(.iload_n 1, .null)] = true := by decide +kernel
theorem kX2_moved_0_7 : decB cX2_moved 55 [(.aload_n 0, .null)] = true := by decide +kernel
theorem kX2_moved_0_8 : decB cX2_moved 59 [(.iload_n 1, .null)] = true := by decide +kernel
theorem dX2_moved_1 : decode cX2_moved 1 = .ok (.tableswitch 54 1 3 #[27, 36, 45], 27) := by decide +kernel
theorem dX2_moved_29 : decode cX2_moved 29 = .ok (.getfield 15, 3) := by decide +kernel
theorem dX2_moved_33 : decode cX2_moved 33 = .ok (.invokestatic 27, 3) := by decide +kernel
theorem dX2_moved_36 : decode cX2_moved 36 = .ok (.ireturn, 1) := by decide +kernel
theorem dX2_moved_38 : decode cX2_moved 38 = .ok (.invokevirtual 30, 3) := by decide +kernel
theorem dX2_moved_42 : decode cX2_moved 42 = .ok (.invokestatic 27, 3) := by decide +kernel
theorem dX2_moved_45 : decode cX2_moved 45 = .ok (.ireturn, 1) := by decide +kernel
theorem dX2_moved_47 : decode cX2_moved 47 = .ok (.getfield 18, 3) := by decide +kernel
theorem dX2_moved_51 : decode cX2_moved 51 = .ok (.invokestatic 27, 3) := by decide +kernel
theorem dX2_moved_54 : decode cX2_moved 54 = .ok (.ireturn, 1) := by decide +kernel
theorem dX2_moved_56 : decode cX2_moved 56 = .ok (.invokevirtual 34, 3) := by decide +kernel
theorem dX2_moved_60 : decode cX2_moved 60 = .ok (.invokestatic 27, 3) := by decide +kernel
theorem dX2_moved_63 : decode cX2_moved 63 = .ok (.ireturn, 1) := by decide +kernel
def FX2_moved  (a0 : Nat) (a1 : Int32) (a2 : Int32) (H : Hp) : Option (Int32 × Hp) :=
  if a2 = (1 : Int32) then
    bd (gI H a0 2 1) fun x1 =>
    bd2 (FX6_at x1 a1 H) fun x2 H3 =>
    some (x2, H3)
  else
    if a2 = (2 : Int32) then
      gp (isO H a0 2 = true) (
        bd2 (FX2_left a0  H) fun x4 H5 =>
        bd2 (FX6_at x4 a1 H5) fun x6 H7 =>
        some (x6, H7)
        )
    else
      if a2 = (3 : Int32) then
        bd (gI H a0 2 2) fun x8 =>
        bd2 (FX6_at x8 a1 H) fun x9 H10 =>
        some (x9, H10)
      else
        gp (isO H a0 2 = true) (
          bd2 (FX2_down a0  H) fun x11 H12 =>
          bd2 (FX6_at x11 a1 H12) fun x13 H14 =>
          some (x13, H14)
          )
set_option maxHeartbeats 4000000 in
set_option maxRecDepth 100000 in
theorem tFX2_moved {G : GG} {r : Int32} {H' : Hp}   {a0 : Nat} {a1 : Int32} {a2 : Int32} {H : Hp} (h : FX2_moved  a0 a1 a2 H = some (r, H')) : Sn G (T0 G (some (.int r)) H') mX2_moved 0 [some (.ref a0), some (.int a1), some (.int a2)] [] H := by
  unfold FX2_moved at h
  refine sn_blk _ kX2_moved_0_0 (pc' := 1) (L' := [some (.ref a0), some (.int a1), some (.int a2)]) (st' := [.int a2]) rfl rfl ?_
  by_cases c1_1 : a2 = (1 : Int32)
  · rw [if_pos c1_1] at h
    refine sn_tblIn (off := 27) (tgt := 28) dX2_moved_1 (by rw [c1_1]; decide) (by rw [c1_1]; decide) (by rw [c1_1]; decide +kernel) (by decide) ?_
    refine sn_blk _ kX2_moved_0_1 (pc' := 29) (L' := [some (.ref a0), some (.int a1), some (.int a2)]) (st' := [.ref a0]) rfl rfl ?_
    obtain ⟨x1, hx1, h⟩ := bd_inv h
    refine sn_gI dX2_moved_29 foX2_15 hx1 ?_
    refine sn_blk _ kX2_moved_0_2 (pc' := 33) (L' := [some (.ref a0), some (.int a1), some (.int a2)]) (st' := [.int a1, .int x1]) rfl rfl ?_
    obtain ⟨x2, H3, hx2, h⟩ := bd2_inv h
    refine sn_calls (av := [.int x1, .int a1]) (st := []) (M2 := mX6_at) dX2_moved_33 msX6_at mlX2_27 rfl rfl rfl rfl rfl (sX6_at hx2) ?_
    cases h
    exact sn_iret (ty := .int) dX2_moved_36 rfl rfl
  · rw [if_neg c1_1] at h
    by_cases c1_2 : a2 = (2 : Int32)
    · rw [if_pos c1_2] at h
      refine sn_tblIn (off := 36) (tgt := 37) dX2_moved_1 (by rw [c1_2]; decide) (by rw [c1_2]; decide) (by rw [c1_2]; decide +kernel) (by decide) ?_
      refine sn_blk _ kX2_moved_0_3 (pc' := 38) (L' := [some (.ref a0), some (.int a1), some (.int a2)]) (st' := [.ref a0]) rfl rfl ?_
      obtain ⟨ho, h⟩ := gp_inv h
      obtain ⟨fs, ho⟩ := isO_inv ho
      obtain ⟨x4, H5, hx4, h⟩ := bd2_inv h
      refine sn_callv (av := []) (st := []) (M2 := mX2_left) dX2_moved_38 msX2_left mlX2_30 rfl rfl rfl rfl rfl ho (sX2_left hx4) ?_
      refine sn_blk _ kX2_moved_0_4 (pc' := 42) (L' := [some (.ref a0), some (.int a1), some (.int a2)]) (st' := [.int a1, .int x4]) rfl rfl ?_
      obtain ⟨x6, H7, hx6, h⟩ := bd2_inv h
      refine sn_calls (av := [.int x4, .int a1]) (st := []) (M2 := mX6_at) dX2_moved_42 msX6_at mlX2_27 rfl rfl rfl rfl rfl (sX6_at hx6) ?_
      cases h
      exact sn_iret (ty := .int) dX2_moved_45 rfl rfl
    · rw [if_neg c1_2] at h
      by_cases c1_3 : a2 = (3 : Int32)
      · rw [if_pos c1_3] at h
        refine sn_tblIn (off := 45) (tgt := 46) dX2_moved_1 (by rw [c1_3]; decide) (by rw [c1_3]; decide) (by rw [c1_3]; decide +kernel) (by decide) ?_
        refine sn_blk _ kX2_moved_0_5 (pc' := 47) (L' := [some (.ref a0), some (.int a1), some (.int a2)]) (st' := [.ref a0]) rfl rfl ?_
        obtain ⟨x8, hx8, h⟩ := bd_inv h
        refine sn_gI dX2_moved_47 foX2_18 hx8 ?_
        refine sn_blk _ kX2_moved_0_6 (pc' := 51) (L' := [some (.ref a0), some (.int a1), some (.int a2)]) (st' := [.int a1, .int x8]) rfl rfl ?_
        obtain ⟨x9, H10, hx9, h⟩ := bd2_inv h
        refine sn_calls (av := [.int x8, .int a1]) (st := []) (M2 := mX6_at) dX2_moved_51 msX6_at mlX2_27 rfl rfl rfl rfl rfl (sX6_at hx9) ?_
        cases h
        exact sn_iret (ty := .int) dX2_moved_54 rfl rfl
      · rw [if_neg c1_3] at h
        refine sn_tblOut (tgt := 55) dX2_moved_1 (sw_out (fun k h1 h2 e => ?_)) (by decide) ?_
        · rcases (show k = 1 ∨ k = 2 ∨ k = 3 by omega) with rfl | rfl | rfl
          · exact c1_1 (Int32.toInt_inj.mp e)
          · exact c1_2 (Int32.toInt_inj.mp e)
          · exact c1_3 (Int32.toInt_inj.mp e)
        · refine sn_blk _ kX2_moved_0_7 (pc' := 56) (L' := [some (.ref a0), some (.int a1), some (.int a2)]) (st' := [.ref a0]) rfl rfl ?_
          obtain ⟨ho, h⟩ := gp_inv h
          obtain ⟨fs, ho⟩ := isO_inv ho
          obtain ⟨x11, H12, hx11, h⟩ := bd2_inv h
          refine sn_callv (av := []) (st := []) (M2 := mX2_down) dX2_moved_56 msX2_down mlX2_34 rfl rfl rfl rfl rfl ho (sX2_down hx11) ?_
          refine sn_blk _ kX2_moved_0_8 (pc' := 60) (L' := [some (.ref a0), some (.int a1), some (.int a2)]) (st' := [.int a1, .int x11]) rfl rfl ?_
          obtain ⟨x13, H14, hx13, h⟩ := bd2_inv h
          refine sn_calls (av := [.int x11, .int a1]) (st := []) (M2 := mX6_at) dX2_moved_60 msX6_at mlX2_27 rfl rfl rfl rfl rfl (sX6_at hx13) ?_
          cases h
          exact sn_iret (ty := .int) dX2_moved_63 rfl rfl
theorem sX2_moved {G : GG} {r : Int32} {H' : Hp} {a0 : Nat} {a1 : Int32} {a2 : Int32} {H : Hp} (h : FX2_moved a0 a1 a2 H = some (r, H')) : SM G mX2_moved [.ref a0, .int a1, .int a2] H (some (.int r)) H' := tFX2_moved h
/-! SquareFolds$Gluing.walked(II)I -/
theorem kX2_walked_0_0 : decB cX2_walked 0 [(.iload_n 1, .null), (.istore_n 3, .null), (.sipush 1000, .int 1000), (.istore 4, .null)] = true := by decide +kernel
theorem kX2_walked_7_0 : decB cX2_walked 7 [(.iload 4, .null)] = true := by decide +kernel
theorem kX2_walked_7_1 : decB cX2_walked 44 [(.iload_n 3, .null)] = true := by decide +kernel
theorem kX2_walked_7_2 : decB cX2_walked 12 [(.iload_n 2, .null), (.iload 4, .null)] = true := by decide +kernel
theorem kX2_walked_7_3 : decB cX2_walked 16 [(.bipush 10, .int 10)] = true := by decide +kernel
theorem kX2_walked_7_4 : decB cX2_walked 19 [(.istore 5, .null), (.iload 5, .null)] = true := by decide +kernel
theorem kX2_walked_7_5 : decB cX2_walked 26 [(.aload_n 0, .null), (.iload_n 3, .null), (.iload 5, .null)] = true := by decide +kernel
theorem kX2_walked_7_6 : decB cX2_walked 33 [(.istore_n 3, .null)] = true := by decide +kernel
theorem kX2_walked_34_0 : decB cX2_walked 34 [(.iload 4, .null), (.bipush 10, .int 10)] = true := by decide +kernel
theorem kX2_walked_34_1 : decB cX2_walked 39 [(.istore 4, .null), (.goto (-34), .retAddr 7)] = true := by decide +kernel
theorem dX2_walked_9 : decode cX2_walked 9 = .ok (.ifCond .le 35, 3) := by decide +kernel
theorem dX2_walked_15 : decode cX2_walked 15 = .ok (.idiv, 1) := by decide +kernel
theorem dX2_walked_18 : decode cX2_walked 18 = .ok (.irem, 1) := by decide +kernel
theorem dX2_walked_23 : decode cX2_walked 23 = .ok (.ifCond .le 11, 3) := by decide +kernel
theorem dX2_walked_30 : decode cX2_walked 30 = .ok (.invokevirtual 37, 3) := by decide +kernel
theorem dX2_walked_38 : decode cX2_walked 38 = .ok (.idiv, 1) := by decide +kernel
theorem dX2_walked_45 : decode cX2_walked 45 = .ok (.ireturn, 1) := by decide +kernel
def fX2_walked_34 (K7 : Nat → Int32 → Int32 → Int32 → Hp → Option (Int32 × Hp)) (a0 : Nat) (a2 : Int32) (a3 : Int32) (a4 : Int32) (H : Hp) : Option (Int32 × Hp) :=
  K7 a0 a2 a3 (a4 / 10) H
set_option maxHeartbeats 4000000 in
set_option maxRecDepth 100000 in
theorem tfX2_walked_34 {G : GG} {r : Int32} {H' : Hp} {K7 : Nat → Int32 → Int32 → Int32 → Hp → Option (Int32 × Hp)} (hK7 : ∀ (a0 : Nat) (a2 : Int32) (a3 : Int32) (a4 : Int32) (H : Hp), K7 a0 a2 a3 a4 H = some (r, H') → Sn G (T0 G (some (.int r)) H') mX2_walked 7 [some (.ref a0), none, some (.int a2), some (.int a3), some (.int a4), none] [] H) {a0 : Nat} {a2 : Int32} {a3 : Int32} {a4 : Int32} {H : Hp} (h : fX2_walked_34 K7 a0 a2 a3 a4 H = some (r, H')) : Sn G (T0 G (some (.int r)) H') mX2_walked 34 [some (.ref a0), none, some (.int a2), some (.int a3), some (.int a4), none] [] H := by
  unfold fX2_walked_34 at h
  refine sn_blk _ kX2_walked_34_0 (pc' := 38) (L' := [some (.ref a0), none, some (.int a2), some (.int a3), some (.int a4), none]) (st' := [.int 10, .int a4]) rfl rfl ?_
  refine sn_idiv dX2_walked_38 (by decide) ?_
  refine sn_blk _ kX2_walked_34_1 (pc' := 7) (L' := [some (.ref a0), none, some (.int a2), some (.int a3), some (.int (a4 / 10)), none]) (st' := []) rfl rfl ?_
  exact hK7 _ _ _ _ _ h
def bX2_walked_7 (K7 : Nat → Int32 → Int32 → Int32 → Hp → Option (Int32 × Hp)) (a0 : Nat) (a2 : Int32) (a3 : Int32) (a4 : Int32) (H : Hp) : Option (Int32 × Hp) :=
  if (a4 ≤ 0 : Prop) then
    some (a3, H)
  else
    gp (¬ a4 = 0) (
      if ((rI (a2 / a4) 10) ≤ 0 : Prop) then
        fX2_walked_34 K7 a0 a2 a3 a4 H
      else
        gp (isO H a0 2 = true) (
          bd2 (FX2_moved a0 a3 (rI (a2 / a4) 10) H) fun x1 H2 =>
          fX2_walked_34 K7 a0 a2 x1 a4 H2
          )
      )
set_option maxHeartbeats 4000000 in
set_option maxRecDepth 100000 in
theorem tbX2_walked_7 {G : GG} {r : Int32} {H' : Hp} {K7 : Nat → Int32 → Int32 → Int32 → Hp → Option (Int32 × Hp)} (hK7 : ∀ (a0 : Nat) (a2 : Int32) (a3 : Int32) (a4 : Int32) (H : Hp), K7 a0 a2 a3 a4 H = some (r, H') → Sn G (T0 G (some (.int r)) H') mX2_walked 7 [some (.ref a0), none, some (.int a2), some (.int a3), some (.int a4), none] [] H) {a0 : Nat} {a2 : Int32} {a3 : Int32} {a4 : Int32} {H : Hp} (h : bX2_walked_7 K7 a0 a2 a3 a4 H = some (r, H')) : Sn G (T0 G (some (.int r)) H') mX2_walked 7 [some (.ref a0), none, some (.int a2), some (.int a3), some (.int a4), none] [] H := by
  unfold bX2_walked_7 at h
  refine sn_blk _ kX2_walked_7_0 (pc' := 9) (L' := [some (.ref a0), none, some (.int a2), some (.int a3), some (.int a4), none]) (st' := [.int a4]) rfl rfl ?_
  refine sn_if_le (tgt := 44) dX2_walked_9 (by decide) (fun c => ?_) (fun c => ?_)
  · rw [if_pos c] at h
    refine sn_blk _ kX2_walked_7_1 (pc' := 45) (L' := [some (.ref a0), none, some (.int a2), some (.int a3), some (.int a4), none]) (st' := [.int a3]) rfl rfl ?_
    cases h
    exact sn_iret (ty := .int) dX2_walked_45 rfl rfl
  · rw [if_neg c] at h
    refine sn_blk _ kX2_walked_7_2 (pc' := 15) (L' := [some (.ref a0), none, some (.int a2), some (.int a3), some (.int a4), none]) (st' := [.int a4, .int a2]) rfl rfl ?_
    obtain ⟨hy, h⟩ := gp_inv h
    refine sn_idiv dX2_walked_15 hy ?_
    refine sn_blk _ kX2_walked_7_3 (pc' := 18) (L' := [some (.ref a0), none, some (.int a2), some (.int a3), some (.int a4), none]) (st' := [.int 10, .int (a2 / a4)]) rfl rfl ?_
    refine sn_irem dX2_walked_18 (by decide) ?_
    refine sn_blk _ kX2_walked_7_4 (pc' := 23) (L' := [some (.ref a0), none, some (.int a2), some (.int a3), some (.int a4), some (.int (rI (a2 / a4) 10))]) (st' := [.int (rI (a2 / a4) 10)]) rfl rfl ?_
    refine sn_if_le (tgt := 34) dX2_walked_23 (by decide) (fun c => ?_) (fun c => ?_)
    · rw [if_pos c] at h
      refine sn_msk [true, true, true, true, true, false] (L2 := [some (.ref a0), none, some (.int a2), some (.int a3), some (.int a4), none]) rfl ?_
      exact tfX2_walked_34 hK7 h
    · rw [if_neg c] at h
      refine sn_blk _ kX2_walked_7_5 (pc' := 30) (L' := [some (.ref a0), none, some (.int a2), some (.int a3), some (.int a4), some (.int (rI (a2 / a4) 10))]) (st' := [.int (rI (a2 / a4) 10), .int a3, .ref a0]) rfl rfl ?_
      obtain ⟨ho, h⟩ := gp_inv h
      obtain ⟨fs, ho⟩ := isO_inv ho
      obtain ⟨x1, H2, hx1, h⟩ := bd2_inv h
      refine sn_callv (av := [.int a3, .int (rI (a2 / a4) 10)]) (st := []) (M2 := mX2_moved) dX2_walked_30 msX2_moved mlX2_37 rfl rfl rfl rfl rfl ho (sX2_moved hx1) ?_
      refine sn_blk _ kX2_walked_7_6 (pc' := 34) (L' := [some (.ref a0), none, some (.int a2), some (.int x1), some (.int a4), some (.int (rI (a2 / a4) 10))]) (st' := []) rfl rfl ?_
      refine sn_msk [true, true, true, true, true, false] (L2 := [some (.ref a0), none, some (.int a2), some (.int x1), some (.int a4), none]) rfl ?_
      exact tfX2_walked_34 hK7 h
def fX2_walked_7  : Nat → Nat → Int32 → Int32 → Int32 → Hp → Option (Int32 × Hp)
  | 0, _, _, _, _, _ => none
  | d + 1, a0, a2, a3, a4, H => bX2_walked_7 (fX2_walked_7  d) a0 a2 a3 a4 H
theorem tfX2_walked_7 {G : GG} {r : Int32} {H' : Hp}   : ∀ (d : Nat) {a0 : Nat} {a2 : Int32} {a3 : Int32} {a4 : Int32} {H : Hp}, fX2_walked_7  d a0 a2 a3 a4 H = some (r, H') → Sn G (T0 G (some (.int r)) H') mX2_walked 7 [some (.ref a0), none, some (.int a2), some (.int a3), some (.int a4), none] [] H := by
  intro d
  induction d with
  | zero => intro a0 a2 a3 a4 H h; cases h
  | succ d ih => intro a0 a2 a3 a4 H h; exact tbX2_walked_7 (fun a0 a2 a3 a4 H h => ih h) h
def FX2_walked  (a0 : Nat) (a1 : Int32) (a2 : Int32) (H : Hp) : Option (Int32 × Hp) :=
  fX2_walked_7  4096 a0 a2 a1 1000 H
set_option maxHeartbeats 4000000 in
set_option maxRecDepth 100000 in
theorem tFX2_walked {G : GG} {r : Int32} {H' : Hp}   {a0 : Nat} {a1 : Int32} {a2 : Int32} {H : Hp} (h : FX2_walked  a0 a1 a2 H = some (r, H')) : Sn G (T0 G (some (.int r)) H') mX2_walked 0 [some (.ref a0), some (.int a1), some (.int a2), none, none, none] [] H := by
  unfold FX2_walked at h
  refine sn_blk _ kX2_walked_0_0 (pc' := 7) (L' := [some (.ref a0), some (.int a1), some (.int a2), some (.int a1), some (.int 1000), none]) (st' := []) rfl rfl ?_
  refine sn_msk [true, false, true, true, true, true] (L2 := [some (.ref a0), none, some (.int a2), some (.int a1), some (.int 1000), none]) rfl ?_
  exact tfX2_walked_7  4096 h
theorem sX2_walked {G : GG} {r : Int32} {H' : Hp} {a0 : Nat} {a1 : Int32} {a2 : Int32} {H : Hp} (h : FX2_walked a0 a1 a2 H = some (r, H')) : SM G mX2_walked [.ref a0, .int a1, .int a2] H (some (.int r)) H' := tFX2_walked h
/-! SquareFolds$Gluing.piece(I)I -/
theorem kX2_piece_0_0 : decB cX2_piece 0 [(.aload_n 0, .null), (.iload_n 1, .null), (.aload_n 0, .null)] = true := by decide +kernel
theorem kX2_piece_0_1 : decB cX2_piece 6 [(.iconst 0, .int 0)] = true := by decide +kernel
theorem dX2_piece_3 : decode cX2_piece 3 = .ok (.invokevirtual 48, 3) := by decide +kernel
theorem dX2_piece_7 : decode cX2_piece 7 = .ok (.invokevirtual 51, 3) := by decide +kernel
theorem dX2_piece_10 : decode cX2_piece 10 = .ok (.ireturn, 1) := by decide +kernel
def FX2_piece  (a0 : Nat) (a1 : Int32) (H : Hp) : Option (Int32 × Hp) :=
  gp (isO H a0 2 = true) (
    bd2 (FX2_all a0  H) fun x1 H2 =>
    gp (isO H2 a0 2 = true) (
      bd2 (FX2_reach a0 a1 x1 0 H2) fun x3 H4 =>
      some (x3, H4)
      )
    )
set_option maxHeartbeats 4000000 in
set_option maxRecDepth 100000 in
theorem tFX2_piece {G : GG} {r : Int32} {H' : Hp}   {a0 : Nat} {a1 : Int32} {H : Hp} (h : FX2_piece  a0 a1 H = some (r, H')) : Sn G (T0 G (some (.int r)) H') mX2_piece 0 [some (.ref a0), some (.int a1)] [] H := by
  unfold FX2_piece at h
  refine sn_blk _ kX2_piece_0_0 (pc' := 3) (L' := [some (.ref a0), some (.int a1)]) (st' := [.ref a0, .int a1, .ref a0]) rfl rfl ?_
  obtain ⟨ho, h⟩ := gp_inv h
  obtain ⟨fs, ho⟩ := isO_inv ho
  obtain ⟨x1, H2, hx1, h⟩ := bd2_inv h
  refine sn_callv (av := []) (st := [.int a1, .ref a0]) (M2 := mX2_all) dX2_piece_3 msX2_all mlX2_48 rfl rfl rfl rfl rfl ho (sX2_all hx1) ?_
  refine sn_blk _ kX2_piece_0_1 (pc' := 7) (L' := [some (.ref a0), some (.int a1)]) (st' := [.int 0, .int x1, .int a1, .ref a0]) rfl rfl ?_
  obtain ⟨ho, h⟩ := gp_inv h
  obtain ⟨fs, ho⟩ := isO_inv ho
  obtain ⟨x3, H4, hx3, h⟩ := bd2_inv h
  refine sn_callv (av := [.int a1, .int x1, .int 0]) (st := []) (M2 := mX2_reach) dX2_piece_7 msX2_reach mlX2_51 rfl rfl rfl rfl rfl ho (sX2_reach hx3) ?_
  cases h
  exact sn_iret (ty := .int) dX2_piece_10 rfl rfl
theorem sX2_piece {G : GG} {r : Int32} {H' : Hp} {a0 : Nat} {a1 : Int32} {H : Hp} (h : FX2_piece a0 a1 H = some (r, H')) : SM G mX2_piece [.ref a0, .int a1] H (some (.int r)) H' := tFX2_piece h
/-! SquareFolds$Gluing.holes(I)I -/
theorem kX2_holes_0_0 : decB cX2_holes 0 [(.aload_n 0, .null), (.iload_n 1, .null)] = true := by decide +kernel
theorem kX2_holes_0_1 : decB cX2_holes 5 [(.istore_n 2, .null), (.aload_n 0, .null)] = true := by decide +kernel
theorem kX2_holes_0_2 : decB cX2_holes 10 [(.istore_n 3, .null), (.iconst 0, .int 0), (.istore 4, .null), (.iconst 2, .int 2), (.istore 5, .null), (.iconst 0, .int 0), (.istore 6, .null)] = true := by decide +kernel
theorem kX2_holes_20_0 : decB cX2_holes 20 [(.iload 6, .null), (.aload_n 0, .null)] = true := by decide +kernel
theorem kX2_holes_20_1 : decB cX2_holes 85 [(.iload 5, .null), (.iconst 2, .int 2)] = true := by decide +kernel
theorem kX2_holes_20_2 : decB cX2_holes 29 [(.iload_n 2, .null), (.iload 6, .null)] = true := by decide +kernel
theorem kX2_holes_20_3 : decB cX2_holes 79 [(.iinc 6 1, .int 1), (.goto (-62), .retAddr 20)] = true := by decide +kernel
theorem kX2_holes_20_4 : decB cX2_holes 38 [(.iload 4, .null), (.iload 6, .null)] = true := by decide +kernel
theorem kX2_holes_20_5 : decB cX2_holes 79 [(.iinc 6 1, .int 1), (.goto (-62), .retAddr 20)] = true := by decide +kernel
theorem kX2_holes_20_6 : decB cX2_holes 48 [(.iload_n 3, .null), (.iload 6, .null), (.aload_n 0, .null)] = true := by decide +kernel
theorem kX2_holes_20_7 : decB cX2_holes 58 [(.istore 7, .null), (.iload 4, .null), (.iload 7, .null), (.ior, .null), (.istore 4, .null), (.iload 5, .null), (.iload 7, .null)] = true := by decide +kernel
theorem kX2_holes_20_8 : decB cX2_holes 74 [(.iconst 1, .int 1), (.isub, .null), (.iadd, .null), (.istore 5, .null), (.iinc 6 1, .int 1), (.goto (-62), .retAddr 20)] = true := by decide +kernel
theorem dX2_holes_2 : decode cX2_holes 2 = .ok (.invokevirtual 77, 3) := by decide +kernel
theorem dX2_holes_7 : decode cX2_holes 7 = .ok (.invokevirtual 57, 3) := by decide +kernel
theorem dX2_holes_23 : decode cX2_holes 23 = .ok (.getfield 9, 3) := by decide +kernel
theorem dX2_holes_26 : decode cX2_holes 26 = .ok (.if_icmp .ge 59, 3) := by decide +kernel
theorem dX2_holes_32 : decode cX2_holes 32 = .ok (.invokestatic 40, 3) := by decide +kernel
theorem dX2_holes_35 : decode cX2_holes 35 = .ok (.ifCond .eq 44, 3) := by decide +kernel
theorem dX2_holes_42 : decode cX2_holes 42 = .ok (.invokestatic 40, 3) := by decide +kernel
theorem dX2_holes_45 : decode cX2_holes 45 = .ok (.ifCond .ne 34, 3) := by decide +kernel
theorem dX2_holes_52 : decode cX2_holes 52 = .ok (.getfield 9, 3) := by decide +kernel
theorem dX2_holes_55 : decode cX2_holes 55 = .ok (.invokestatic 63, 3) := by decide +kernel
theorem dX2_holes_71 : decode cX2_holes 71 = .ok (.invokestatic 66, 3) := by decide +kernel
theorem dX2_holes_88 : decode cX2_holes 88 = .ok (.idiv, 1) := by decide +kernel
theorem dX2_holes_89 : decode cX2_holes 89 = .ok (.ireturn, 1) := by decide +kernel
def bX2_holes_20 (K20 : Nat → Int32 → Int32 → Int32 → Int32 → Int32 → Hp → Option (Int32 × Hp)) (a0 : Nat) (a2 : Int32) (a3 : Int32) (a4 : Int32) (a5 : Int32) (a6 : Int32) (H : Hp) : Option (Int32 × Hp) :=
  bd (gI H a0 2 0) fun x1 =>
  if (x1 ≤ a6 : Prop) then
    some ((a5 / 2), H)
  else
    bd2 (FX6_isIn a2 a6 H) fun x2 H3 =>
    if (x2 = 0 : Prop) then
      K20 a0 a2 a3 a4 a5 (a6 + 1) H3
    else
      bd2 (FX6_isIn a4 a6 H3) fun x4 H5 =>
      if (x4 = 0 : Prop) then
        bd (gI H5 a0 2 0) fun x6 =>
        bd2 (FX6_ring a3 a6 x6 H5) fun x7 H8 =>
        bd2 (FJ6_bitCount_0f7a4 x7 H8) fun x9 H10 =>
        K20 a0 a2 a3 (a4 ||| x7) (a5 + (x9 - 1)) (a6 + 1) H10
      else
        K20 a0 a2 a3 a4 a5 (a6 + 1) H5
set_option maxHeartbeats 4000000 in
set_option maxRecDepth 100000 in
theorem tbX2_holes_20 {G : GG} {r : Int32} {H' : Hp} {K20 : Nat → Int32 → Int32 → Int32 → Int32 → Int32 → Hp → Option (Int32 × Hp)} (hK20 : ∀ (a0 : Nat) (a2 : Int32) (a3 : Int32) (a4 : Int32) (a5 : Int32) (a6 : Int32) (H : Hp), K20 a0 a2 a3 a4 a5 a6 H = some (r, H') → Sn G (T0 G (some (.int r)) H') mX2_holes 20 [some (.ref a0), none, some (.int a2), some (.int a3), some (.int a4), some (.int a5), some (.int a6), none] [] H) {a0 : Nat} {a2 : Int32} {a3 : Int32} {a4 : Int32} {a5 : Int32} {a6 : Int32} {H : Hp} (h : bX2_holes_20 K20 a0 a2 a3 a4 a5 a6 H = some (r, H')) : Sn G (T0 G (some (.int r)) H') mX2_holes 20 [some (.ref a0), none, some (.int a2), some (.int a3), some (.int a4), some (.int a5), some (.int a6), none] [] H := by
  unfold bX2_holes_20 at h
  refine sn_blk _ kX2_holes_20_0 (pc' := 23) (L' := [some (.ref a0), none, some (.int a2), some (.int a3), some (.int a4), some (.int a5), some (.int a6), none]) (st' := [.ref a0, .int a6]) rfl rfl ?_
  obtain ⟨x1, hx1, h⟩ := bd_inv h
  refine sn_gI dX2_holes_23 foX2_9 hx1 ?_
  refine sn_icmp_ge (tgt := 85) dX2_holes_26 (by decide) (fun c => ?_) (fun c => ?_)
  · rw [if_pos c] at h
    refine sn_blk _ kX2_holes_20_1 (pc' := 88) (L' := [some (.ref a0), none, some (.int a2), some (.int a3), some (.int a4), some (.int a5), some (.int a6), none]) (st' := [.int 2, .int a5]) rfl rfl ?_
    refine sn_idiv dX2_holes_88 (by decide) ?_
    cases h
    exact sn_iret (ty := .int) dX2_holes_89 rfl rfl
  · rw [if_neg c] at h
    refine sn_blk _ kX2_holes_20_2 (pc' := 32) (L' := [some (.ref a0), none, some (.int a2), some (.int a3), some (.int a4), some (.int a5), some (.int a6), none]) (st' := [.int a6, .int a2]) rfl rfl ?_
    obtain ⟨x2, H3, hx2, h⟩ := bd2_inv h
    refine sn_calls (av := [.int a2, .int a6]) (st := []) (M2 := mX6_isIn) dX2_holes_32 msX6_isIn mlX2_40 rfl rfl rfl rfl rfl (sX6_isIn hx2) ?_
    refine sn_if_eq (tgt := 79) dX2_holes_35 (by decide) (fun c => ?_) (fun c => ?_)
    · rw [if_pos c] at h
      refine sn_blk _ kX2_holes_20_3 (pc' := 20) (L' := [some (.ref a0), none, some (.int a2), some (.int a3), some (.int a4), some (.int a5), some (.int (a6 + 1)), none]) (st' := []) rfl rfl ?_
      exact hK20 _ _ _ _ _ _ _ h
    · rw [if_neg c] at h
      refine sn_blk _ kX2_holes_20_4 (pc' := 42) (L' := [some (.ref a0), none, some (.int a2), some (.int a3), some (.int a4), some (.int a5), some (.int a6), none]) (st' := [.int a6, .int a4]) rfl rfl ?_
      obtain ⟨x4, H5, hx4, h⟩ := bd2_inv h
      refine sn_calls (av := [.int a4, .int a6]) (st := []) (M2 := mX6_isIn) dX2_holes_42 msX6_isIn mlX2_40 rfl rfl rfl rfl rfl (sX6_isIn hx4) ?_
      refine sn_if_ne (tgt := 79) dX2_holes_45 (by decide) (fun c => ?_) (fun c => ?_)
      · rw [if_neg c] at h
        refine sn_blk _ kX2_holes_20_5 (pc' := 20) (L' := [some (.ref a0), none, some (.int a2), some (.int a3), some (.int a4), some (.int a5), some (.int (a6 + 1)), none]) (st' := []) rfl rfl ?_
        exact hK20 _ _ _ _ _ _ _ h
      · rw [if_pos c] at h
        refine sn_blk _ kX2_holes_20_6 (pc' := 52) (L' := [some (.ref a0), none, some (.int a2), some (.int a3), some (.int a4), some (.int a5), some (.int a6), none]) (st' := [.ref a0, .int a6, .int a3]) rfl rfl ?_
        obtain ⟨x6, hx6, h⟩ := bd_inv h
        refine sn_gI dX2_holes_52 foX2_9 hx6 ?_
        obtain ⟨x7, H8, hx7, h⟩ := bd2_inv h
        refine sn_calls (av := [.int a3, .int a6, .int x6]) (st := []) (M2 := mX6_ring) dX2_holes_55 msX6_ring mlX2_63 rfl rfl rfl rfl rfl (sX6_ring hx7) ?_
        refine sn_blk _ kX2_holes_20_7 (pc' := 71) (L' := [some (.ref a0), none, some (.int a2), some (.int a3), some (.int (a4 ||| x7)), some (.int a5), some (.int a6), some (.int x7)]) (st' := [.int x7, .int a5]) rfl rfl ?_
        obtain ⟨x9, H10, hx9, h⟩ := bd2_inv h
        refine sn_calls (av := [.int x7]) (st := [.int a5]) (M2 := mJ6_bitCount_0f7a4) dX2_holes_71 msJ6_bitCount_0f7a4 mlX2_66 rfl rfl rfl rfl rfl (sJ6_bitCount_0f7a4 hx9) ?_
        refine sn_blk _ kX2_holes_20_8 (pc' := 20) (L' := [some (.ref a0), none, some (.int a2), some (.int a3), some (.int (a4 ||| x7)), some (.int (a5 + (x9 - 1))), some (.int (a6 + 1)), some (.int x7)]) (st' := []) rfl rfl ?_
        refine sn_msk [true, true, true, true, true, true, true, false] (L2 := [some (.ref a0), none, some (.int a2), some (.int a3), some (.int (a4 ||| x7)), some (.int (a5 + (x9 - 1))), some (.int (a6 + 1)), none]) rfl ?_
        exact hK20 _ _ _ _ _ _ _ h
def fX2_holes_20  : Nat → Nat → Int32 → Int32 → Int32 → Int32 → Int32 → Hp → Option (Int32 × Hp)
  | 0, _, _, _, _, _, _, _ => none
  | d + 1, a0, a2, a3, a4, a5, a6, H => bX2_holes_20 (fX2_holes_20  d) a0 a2 a3 a4 a5 a6 H
theorem tfX2_holes_20 {G : GG} {r : Int32} {H' : Hp}   : ∀ (d : Nat) {a0 : Nat} {a2 : Int32} {a3 : Int32} {a4 : Int32} {a5 : Int32} {a6 : Int32} {H : Hp}, fX2_holes_20  d a0 a2 a3 a4 a5 a6 H = some (r, H') → Sn G (T0 G (some (.int r)) H') mX2_holes 20 [some (.ref a0), none, some (.int a2), some (.int a3), some (.int a4), some (.int a5), some (.int a6), none] [] H := by
  intro d
  induction d with
  | zero => intro a0 a2 a3 a4 a5 a6 H h; cases h
  | succ d ih => intro a0 a2 a3 a4 a5 a6 H h; exact tbX2_holes_20 (fun a0 a2 a3 a4 a5 a6 H h => ih h) h
def FX2_holes  (a0 : Nat) (a1 : Int32) (H : Hp) : Option (Int32 × Hp) :=
  gp (isO H a0 2 = true) (
    bd2 (FX2_piece a0 a1 H) fun x1 H2 =>
    gp (isO H2 a0 2 = true) (
      bd2 (FX2_turnedRound a0  H2) fun x3 H4 =>
      fX2_holes_20  4096 a0 x1 x3 0 2 0 H4
      )
    )
set_option maxHeartbeats 4000000 in
set_option maxRecDepth 100000 in
theorem tFX2_holes {G : GG} {r : Int32} {H' : Hp}   {a0 : Nat} {a1 : Int32} {H : Hp} (h : FX2_holes  a0 a1 H = some (r, H')) : Sn G (T0 G (some (.int r)) H') mX2_holes 0 [some (.ref a0), some (.int a1), none, none, none, none, none, none] [] H := by
  unfold FX2_holes at h
  refine sn_blk _ kX2_holes_0_0 (pc' := 2) (L' := [some (.ref a0), some (.int a1), none, none, none, none, none, none]) (st' := [.int a1, .ref a0]) rfl rfl ?_
  obtain ⟨ho, h⟩ := gp_inv h
  obtain ⟨fs, ho⟩ := isO_inv ho
  obtain ⟨x1, H2, hx1, h⟩ := bd2_inv h
  refine sn_callv (av := [.int a1]) (st := []) (M2 := mX2_piece) dX2_holes_2 msX2_piece mlX2_77 rfl rfl rfl rfl rfl ho (sX2_piece hx1) ?_
  refine sn_blk _ kX2_holes_0_1 (pc' := 7) (L' := [some (.ref a0), some (.int a1), some (.int x1), none, none, none, none, none]) (st' := [.ref a0]) rfl rfl ?_
  obtain ⟨ho, h⟩ := gp_inv h
  obtain ⟨fs, ho⟩ := isO_inv ho
  obtain ⟨x3, H4, hx3, h⟩ := bd2_inv h
  refine sn_callv (av := []) (st := []) (M2 := mX2_turnedRound) dX2_holes_7 msX2_turnedRound mlX2_57 rfl rfl rfl rfl rfl ho (sX2_turnedRound hx3) ?_
  refine sn_blk _ kX2_holes_0_2 (pc' := 20) (L' := [some (.ref a0), some (.int a1), some (.int x1), some (.int x3), some (.int 0), some (.int 2), some (.int 0), none]) (st' := []) rfl rfl ?_
  refine sn_msk [true, false, true, true, true, true, true, true] (L2 := [some (.ref a0), none, some (.int x1), some (.int x3), some (.int 0), some (.int 2), some (.int 0), none]) rfl ?_
  exact tfX2_holes_20  4096 h
theorem sX2_holes {G : GG} {r : Int32} {H' : Hp} {a0 : Nat} {a1 : Int32} {H : Hp} (h : FX2_holes a0 a1 H = some (r, H')) : SM G mX2_holes [.ref a0, .int a1] H (some (.int r)) H' := tFX2_holes h
/-! SquareFolds$Gluing.figures(JIIII)J -/
theorem kX2_figures_0_0 : decB cX2_figures 0 [(.lload_n 0, .null), (.lstore 6, .null), (.iconst 0, .int 0), (.istore 8, .null)] = true := by decide +kernel
theorem kX2_figures_6_0 : decB cX2_figures 6 [(.iload 8, .null), (.iload 5, .null)] = true := by decide +kernel
theorem kX2_figures_6_1 : decB cX2_figures 44 [(.lload 6, .null)] = true := by decide +kernel
theorem kX2_figures_6_2 : decB cX2_figures 13 [(.lload 6, .null)] = true := by decide +kernel
theorem kX2_figures_6_3 : decB cX2_figures 18 [(.lmul, .null), (.iload 4, .null), (.iload_n 2, .null), (.iload_n 3, .null), (.iload 8, .null)] = true := by decide +kernel
theorem kX2_figures_6_4 : decB cX2_figures 34 [(.i2l, .null), (.ladd, .null), (.lstore 6, .null), (.iinc 8 1, .int 1), (.goto (-35), .retAddr 6)] = true := by decide +kernel
theorem dX2_figures_10 : decode cX2_figures 10 = .ok (.if_icmp .ge 34, 3) := by decide +kernel
theorem dX2_figures_15 : decode cX2_figures 15 = .ok (.ldc2_w 93, 3) := by decide +kernel
theorem dX2_figures_25 : decode cX2_figures 25 = .ok (.invokestatic 27, 3) := by decide +kernel
theorem dX2_figures_28 : decode cX2_figures 28 = .ok (.invokestatic 27, 3) := by decide +kernel
theorem dX2_figures_31 : decode cX2_figures 31 = .ok (.invokestatic 27, 3) := by decide +kernel
theorem dX2_figures_46 : decode cX2_figures 46 = .ok (.lreturn, 1) := by decide +kernel
def bX2_figures_6 (K6 : Int32 → Int32 → Int32 → Int32 → Int64 → Int32 → Hp → Option (Int64 × Hp)) (a2 : Int32) (a3 : Int32) (a4 : Int32) (a5 : Int32) (a6 : Int64) (a8 : Int32) (H : Hp) : Option (Int64 × Hp) :=
  if (a5 ≤ a8 : Prop) then
    some (a6, H)
  else
    bd2 (FX6_at a3 a8 H) fun x1 H2 =>
    bd2 (FX6_at a2 x1 H2) fun x3 H4 =>
    bd2 (FX6_at a4 x3 H4) fun x5 H6 =>
    K6 a2 a3 a4 a5 ((a6 * 10) + (Int32.toInt64 x5)) (a8 + 1) H6
set_option maxHeartbeats 4000000 in
set_option maxRecDepth 100000 in
theorem tbX2_figures_6 {G : GG} {r : Int64} {H' : Hp} {K6 : Int32 → Int32 → Int32 → Int32 → Int64 → Int32 → Hp → Option (Int64 × Hp)} (hK6 : ∀ (a2 : Int32) (a3 : Int32) (a4 : Int32) (a5 : Int32) (a6 : Int64) (a8 : Int32) (H : Hp), K6 a2 a3 a4 a5 a6 a8 H = some (r, H') → Sn G (T0 G (some (.long r)) H') mX2_figures 6 [none, none, some (.int a2), some (.int a3), some (.int a4), some (.int a5), some (.long a6), none, some (.int a8)] [] H) {a2 : Int32} {a3 : Int32} {a4 : Int32} {a5 : Int32} {a6 : Int64} {a8 : Int32} {H : Hp} (h : bX2_figures_6 K6 a2 a3 a4 a5 a6 a8 H = some (r, H')) : Sn G (T0 G (some (.long r)) H') mX2_figures 6 [none, none, some (.int a2), some (.int a3), some (.int a4), some (.int a5), some (.long a6), none, some (.int a8)] [] H := by
  unfold bX2_figures_6 at h
  refine sn_blk _ kX2_figures_6_0 (pc' := 10) (L' := [none, none, some (.int a2), some (.int a3), some (.int a4), some (.int a5), some (.long a6), none, some (.int a8)]) (st' := [.int a5, .int a8]) rfl rfl ?_
  refine sn_icmp_ge (tgt := 44) dX2_figures_10 (by decide) (fun c => ?_) (fun c => ?_)
  · rw [if_pos c] at h
    refine sn_blk _ kX2_figures_6_1 (pc' := 46) (L' := [none, none, some (.int a2), some (.int a3), some (.int a4), some (.int a5), some (.long a6), none, some (.int a8)]) (st' := [.long a6]) rfl rfl ?_
    cases h
    exact sn_lret dX2_figures_46 rfl
  · rw [if_neg c] at h
    refine sn_blk _ kX2_figures_6_2 (pc' := 15) (L' := [none, none, some (.int a2), some (.int a3), some (.int a4), some (.int a5), some (.long a6), none, some (.int a8)]) (st' := [.long a6]) rfl rfl ?_
    refine sn_ldc2 dX2_figures_15 kcX2_93 ?_
    refine sn_blk _ kX2_figures_6_3 (pc' := 25) (L' := [none, none, some (.int a2), some (.int a3), some (.int a4), some (.int a5), some (.long a6), none, some (.int a8)]) (st' := [.int a8, .int a3, .int a2, .int a4, .long (a6 * 10)]) rfl rfl ?_
    obtain ⟨x1, H2, hx1, h⟩ := bd2_inv h
    refine sn_calls (av := [.int a3, .int a8]) (st := [.int a2, .int a4, .long (a6 * 10)]) (M2 := mX6_at) dX2_figures_25 msX6_at mlX2_27 rfl rfl rfl rfl rfl (sX6_at hx1) ?_
    obtain ⟨x3, H4, hx3, h⟩ := bd2_inv h
    refine sn_calls (av := [.int a2, .int x1]) (st := [.int a4, .long (a6 * 10)]) (M2 := mX6_at) dX2_figures_28 msX6_at mlX2_27 rfl rfl rfl rfl rfl (sX6_at hx3) ?_
    obtain ⟨x5, H6, hx5, h⟩ := bd2_inv h
    refine sn_calls (av := [.int a4, .int x3]) (st := [.long (a6 * 10)]) (M2 := mX6_at) dX2_figures_31 msX6_at mlX2_27 rfl rfl rfl rfl rfl (sX6_at hx5) ?_
    refine sn_blk _ kX2_figures_6_4 (pc' := 6) (L' := [none, none, some (.int a2), some (.int a3), some (.int a4), some (.int a5), some (.long ((a6 * 10) + (Int32.toInt64 x5))), none, some (.int (a8 + 1))]) (st' := []) rfl rfl ?_
    exact hK6 _ _ _ _ _ _ _ h
def fX2_figures_6  : Nat → Int32 → Int32 → Int32 → Int32 → Int64 → Int32 → Hp → Option (Int64 × Hp)
  | 0, _, _, _, _, _, _, _ => none
  | d + 1, a2, a3, a4, a5, a6, a8, H => bX2_figures_6 (fX2_figures_6  d) a2 a3 a4 a5 a6 a8 H
theorem tfX2_figures_6 {G : GG} {r : Int64} {H' : Hp}   : ∀ (d : Nat) {a2 : Int32} {a3 : Int32} {a4 : Int32} {a5 : Int32} {a6 : Int64} {a8 : Int32} {H : Hp}, fX2_figures_6  d a2 a3 a4 a5 a6 a8 H = some (r, H') → Sn G (T0 G (some (.long r)) H') mX2_figures 6 [none, none, some (.int a2), some (.int a3), some (.int a4), some (.int a5), some (.long a6), none, some (.int a8)] [] H := by
  intro d
  induction d with
  | zero => intro a2 a3 a4 a5 a6 a8 H h; cases h
  | succ d ih => intro a2 a3 a4 a5 a6 a8 H h; exact tbX2_figures_6 (fun a2 a3 a4 a5 a6 a8 H h => ih h) h
def FX2_figures  (a0 : Int64) (a2 : Int32) (a3 : Int32) (a4 : Int32) (a5 : Int32) (H : Hp) : Option (Int64 × Hp) :=
  fX2_figures_6  4096 a2 a3 a4 a5 a0 0 H
set_option maxHeartbeats 4000000 in
set_option maxRecDepth 100000 in
theorem tFX2_figures {G : GG} {r : Int64} {H' : Hp}   {a0 : Int64} {a2 : Int32} {a3 : Int32} {a4 : Int32} {a5 : Int32} {H : Hp} (h : FX2_figures  a0 a2 a3 a4 a5 H = some (r, H')) : Sn G (T0 G (some (.long r)) H') mX2_figures 0 [some (.long a0), none, some (.int a2), some (.int a3), some (.int a4), some (.int a5), none, none, none] [] H := by
  unfold FX2_figures at h
  refine sn_blk _ kX2_figures_0_0 (pc' := 6) (L' := [some (.long a0), none, some (.int a2), some (.int a3), some (.int a4), some (.int a5), some (.long a0), none, some (.int 0)]) (st' := []) rfl rfl ?_
  refine sn_msk [false, true, true, true, true, true, true, true, true] (L2 := [none, none, some (.int a2), some (.int a3), some (.int a4), some (.int a5), some (.long a0), none, some (.int 0)]) rfl ?_
  exact tfX2_figures_6  4096 h
theorem sX2_figures {G : GG} {r : Int64} {H' : Hp} {a0 : Int64} {a2 : Int32} {a3 : Int32} {a4 : Int32} {a5 : Int32} {H : Hp} (h : FX2_figures a0 a2 a3 a4 a5 H = some (r, H')) : SM G mX2_figures [.long a0, .int a2, .int a3, .int a4, .int a5] H (some (.long r)) H' := tFX2_figures h
/-! SquareFolds$Gluing.nameFrom(I)J -/
theorem kX2_nameFrom_0_0 : decB cX2_nameFrom 0 [(.iload_n 1, .null), (.istore_n 2, .null), (.iconst 0, .int 0), (.istore_n 3, .null), (.iconst 1, .int 1), (.iload_n 1, .null), (.ishl, .null), (.istore 4, .null), (.iconst 1, .int 1), (.istore 5, .null), (.iconst 0, .int 0), (.istore 6, .null)] = true := by decide +kernel
theorem kX2_nameFrom_15_0 : decB cX2_nameFrom 15 [(.iload 6, .null), (.iload 5, .null)] = true := by decide +kernel
theorem kX2_nameFrom_15_1 : decB cX2_nameFrom 22 [(.iload 6, .null), (.aload_n 0, .null)] = true := by decide +kernel
theorem kX2_nameFrom_15_2 : decB cX2_nameFrom 31 [(.iload_n 2, .null), (.iload 6, .null)] = true := by decide +kernel
theorem kX2_nameFrom_15_3 : decB cX2_nameFrom 37 [(.istore 7, .null), (.iconst 0, .int 0), (.istore 8, .null)] = true := by decide +kernel
theorem kX2_nameFrom_42_0 : decB cX2_nameFrom 42 [(.iload 8, .null), (.iconst 2, .int 2)] = true := by decide +kernel
theorem kX2_nameFrom_42_1 : decB cX2_nameFrom 117 [(.iinc 6 1, .int 1), (.goto (-105), .retAddr 15)] = true := by decide +kernel
theorem kX2_nameFrom_42_2 : decB cX2_nameFrom 48 [(.iload 8, .null)] = true := by decide +kernel
theorem kX2_nameFrom_42_3 : decB cX2_nameFrom 60 [(.aload_n 0, .null)] = true := by decide +kernel
theorem kX2_nameFrom_42_4 : decB cX2_nameFrom 53 [(.aload_n 0, .null)] = true := by decide +kernel
theorem kX2_nameFrom_42_5 : decB cX2_nameFrom 57 [(.goto 7, .retAddr 64)] = true := by decide +kernel
theorem kX2_nameFrom_64_0 : decB cX2_nameFrom 64 [(.iload 7, .null)] = true := by decide +kernel
theorem kX2_nameFrom_64_1 : decB cX2_nameFrom 69 [(.istore 9, .null), (.iload 4, .null), (.iload 9, .null)] = true := by decide +kernel
theorem kX2_nameFrom_64_2 : decB cX2_nameFrom 111 [(.iinc 8 1, .int 1), (.goto (-72), .retAddr 42)] = true := by decide +kernel
theorem kX2_nameFrom_64_3 : decB cX2_nameFrom 81 [(.iload 4, .null), (.iconst 1, .int 1), (.iload 9, .null), (.ishl, .null), (.ior, .null), (.istore 4, .null), (.iload_n 2, .null), (.iload 5, .null), (.iload 9, .null)] = true := by decide +kernel
theorem kX2_nameFrom_64_4 : decB cX2_nameFrom 98 [(.istore_n 2, .null), (.iload_n 3, .null), (.iload 9, .null), (.iload 5, .null)] = true := by decide +kernel
theorem kX2_nameFrom_64_5 : decB cX2_nameFrom 107 [(.istore_n 3, .null), (.iinc 5 1, .int 1), (.iinc 8 1, .int 1), (.goto (-72), .retAddr 42)] = true := by decide +kernel
theorem kX2_nameFrom_123_0 : decB cX2_nameFrom 123 [(.lconst 0, .long 0), (.aload_n 0, .null)] = true := by decide +kernel
theorem kX2_nameFrom_123_1 : decB cX2_nameFrom 128 [(.iload_n 2, .null), (.iload_n 3, .null), (.iload 5, .null)] = true := by decide +kernel
theorem kX2_nameFrom_123_2 : decB cX2_nameFrom 135 [(.aload_n 0, .null)] = true := by decide +kernel
theorem kX2_nameFrom_123_3 : decB cX2_nameFrom 139 [(.iload_n 2, .null), (.iload_n 3, .null), (.iload 5, .null)] = true := by decide +kernel
theorem dX2_nameFrom_19 : decode cX2_nameFrom 19 = .ok (.if_icmp .ge 104, 3) := by decide +kernel
theorem dX2_nameFrom_25 : decode cX2_nameFrom 25 = .ok (.getfield 9, 3) := by decide +kernel
theorem dX2_nameFrom_28 : decode cX2_nameFrom 28 = .ok (.if_icmp .ge 95, 3) := by decide +kernel
theorem dX2_nameFrom_34 : decode cX2_nameFrom 34 = .ok (.invokestatic 27, 3) := by decide +kernel
theorem dX2_nameFrom_45 : decode cX2_nameFrom 45 = .ok (.if_icmp .ge 72, 3) := by decide +kernel
theorem dX2_nameFrom_50 : decode cX2_nameFrom 50 = .ok (.ifCond .ne 10, 3) := by decide +kernel
theorem dX2_nameFrom_54 : decode cX2_nameFrom 54 = .ok (.getfield 15, 3) := by decide +kernel
theorem dX2_nameFrom_61 : decode cX2_nameFrom 61 = .ok (.getfield 18, 3) := by decide +kernel
theorem dX2_nameFrom_66 : decode cX2_nameFrom 66 = .ok (.invokestatic 27, 3) := by decide +kernel
theorem dX2_nameFrom_75 : decode cX2_nameFrom 75 = .ok (.invokestatic 40, 3) := by decide +kernel
theorem dX2_nameFrom_78 : decode cX2_nameFrom 78 = .ok (.ifCond .ne 33, 3) := by decide +kernel
theorem dX2_nameFrom_95 : decode cX2_nameFrom 95 = .ok (.invokestatic 86, 3) := by decide +kernel
theorem dX2_nameFrom_104 : decode cX2_nameFrom 104 = .ok (.invokestatic 86, 3) := by decide +kernel
theorem dX2_nameFrom_125 : decode cX2_nameFrom 125 = .ok (.getfield 15, 3) := by decide +kernel
theorem dX2_nameFrom_132 : decode cX2_nameFrom 132 = .ok (.invokestatic 89, 3) := by decide +kernel
theorem dX2_nameFrom_136 : decode cX2_nameFrom 136 = .ok (.getfield 18, 3) := by decide +kernel
theorem dX2_nameFrom_143 : decode cX2_nameFrom 143 = .ok (.invokestatic 89, 3) := by decide +kernel
theorem dX2_nameFrom_146 : decode cX2_nameFrom 146 = .ok (.lreturn, 1) := by decide +kernel
def fX2_nameFrom_123  (a0 : Nat) (a2 : Int32) (a3 : Int32) (a5 : Int32) (H : Hp) : Option (Int64 × Hp) :=
  bd (gI H a0 2 1) fun x1 =>
  bd2 (FX2_figures 0 x1 a2 a3 a5 H) fun x2 H3 =>
  bd (gI H3 a0 2 2) fun x4 =>
  bd2 (FX2_figures x2 x4 a2 a3 a5 H3) fun x5 H6 =>
  some (x5, H6)
set_option maxHeartbeats 4000000 in
set_option maxRecDepth 100000 in
theorem tfX2_nameFrom_123 {G : GG} {r : Int64} {H' : Hp}   {a0 : Nat} {a2 : Int32} {a3 : Int32} {a5 : Int32} {H : Hp} (h : fX2_nameFrom_123  a0 a2 a3 a5 H = some (r, H')) : Sn G (T0 G (some (.long r)) H') mX2_nameFrom 123 [some (.ref a0), none, some (.int a2), some (.int a3), none, some (.int a5), none, none, none, none] [] H := by
  unfold fX2_nameFrom_123 at h
  refine sn_blk _ kX2_nameFrom_123_0 (pc' := 125) (L' := [some (.ref a0), none, some (.int a2), some (.int a3), none, some (.int a5), none, none, none, none]) (st' := [.ref a0, .long 0]) rfl rfl ?_
  obtain ⟨x1, hx1, h⟩ := bd_inv h
  refine sn_gI dX2_nameFrom_125 foX2_15 hx1 ?_
  refine sn_blk _ kX2_nameFrom_123_1 (pc' := 132) (L' := [some (.ref a0), none, some (.int a2), some (.int a3), none, some (.int a5), none, none, none, none]) (st' := [.int a5, .int a3, .int a2, .int x1, .long 0]) rfl rfl ?_
  obtain ⟨x2, H3, hx2, h⟩ := bd2_inv h
  refine sn_calls (av := [.long 0, .int x1, .int a2, .int a3, .int a5]) (st := []) (M2 := mX2_figures) dX2_nameFrom_132 msX2_figures mlX2_89 rfl rfl rfl rfl rfl (sX2_figures hx2) ?_
  refine sn_blk _ kX2_nameFrom_123_2 (pc' := 136) (L' := [some (.ref a0), none, some (.int a2), some (.int a3), none, some (.int a5), none, none, none, none]) (st' := [.ref a0, .long x2]) rfl rfl ?_
  obtain ⟨x4, hx4, h⟩ := bd_inv h
  refine sn_gI dX2_nameFrom_136 foX2_18 hx4 ?_
  refine sn_blk _ kX2_nameFrom_123_3 (pc' := 143) (L' := [some (.ref a0), none, some (.int a2), some (.int a3), none, some (.int a5), none, none, none, none]) (st' := [.int a5, .int a3, .int a2, .int x4, .long x2]) rfl rfl ?_
  obtain ⟨x5, H6, hx5, h⟩ := bd2_inv h
  refine sn_calls (av := [.long x2, .int x4, .int a2, .int a3, .int a5]) (st := []) (M2 := mX2_figures) dX2_nameFrom_143 msX2_figures mlX2_89 rfl rfl rfl rfl rfl (sX2_figures hx5) ?_
  cases h
  exact sn_lret dX2_nameFrom_146 rfl
def fX2_nameFrom_64 (K15 : Nat → Int32 → Int32 → Int32 → Int32 → Int32 → Hp → Option (Int64 × Hp)) (K42 : Nat → Int32 → Int32 → Int32 → Int32 → Int32 → Int32 → Int32 → Hp → Option (Int64 × Hp)) (a0 : Nat) (a2 : Int32) (a3 : Int32) (a4 : Int32) (a5 : Int32) (a6 : Int32) (a7 : Int32) (a8 : Int32) (s0 : Int32) (H : Hp) : Option (Int64 × Hp) :=
  bd2 (FX6_at s0 a7 H) fun x1 H2 =>
  bd2 (FX6_isIn a4 x1 H2) fun x3 H4 =>
  if (x3 = 0 : Prop) then
    bd2 (FX6_put a2 a5 x1 H4) fun x5 H6 =>
    bd2 (FX6_put a3 x1 a5 H6) fun x7 H8 =>
    K42 a0 x5 x7 (a4 ||| (1 <<< (x1 &&& 31))) (a5 + 1) a6 a7 (a8 + 1) H8
  else
    K42 a0 a2 a3 a4 a5 a6 a7 (a8 + 1) H4
set_option maxHeartbeats 4000000 in
set_option maxRecDepth 100000 in
theorem tfX2_nameFrom_64 {G : GG} {r : Int64} {H' : Hp} {K15 : Nat → Int32 → Int32 → Int32 → Int32 → Int32 → Hp → Option (Int64 × Hp)} {K42 : Nat → Int32 → Int32 → Int32 → Int32 → Int32 → Int32 → Int32 → Hp → Option (Int64 × Hp)} (hK15 : ∀ (a0 : Nat) (a2 : Int32) (a3 : Int32) (a4 : Int32) (a5 : Int32) (a6 : Int32) (H : Hp), K15 a0 a2 a3 a4 a5 a6 H = some (r, H') → Sn G (T0 G (some (.long r)) H') mX2_nameFrom 15 [some (.ref a0), none, some (.int a2), some (.int a3), some (.int a4), some (.int a5), some (.int a6), none, none, none] [] H) (hK42 : ∀ (a0 : Nat) (a2 : Int32) (a3 : Int32) (a4 : Int32) (a5 : Int32) (a6 : Int32) (a7 : Int32) (a8 : Int32) (H : Hp), K42 a0 a2 a3 a4 a5 a6 a7 a8 H = some (r, H') → Sn G (T0 G (some (.long r)) H') mX2_nameFrom 42 [some (.ref a0), none, some (.int a2), some (.int a3), some (.int a4), some (.int a5), some (.int a6), some (.int a7), some (.int a8), none] [] H) {a0 : Nat} {a2 : Int32} {a3 : Int32} {a4 : Int32} {a5 : Int32} {a6 : Int32} {a7 : Int32} {a8 : Int32} {s0 : Int32} {H : Hp} (h : fX2_nameFrom_64 K15 K42 a0 a2 a3 a4 a5 a6 a7 a8 s0 H = some (r, H')) : Sn G (T0 G (some (.long r)) H') mX2_nameFrom 64 [some (.ref a0), none, some (.int a2), some (.int a3), some (.int a4), some (.int a5), some (.int a6), some (.int a7), some (.int a8), none] [.int s0] H := by
  unfold fX2_nameFrom_64 at h
  refine sn_blk _ kX2_nameFrom_64_0 (pc' := 66) (L' := [some (.ref a0), none, some (.int a2), some (.int a3), some (.int a4), some (.int a5), some (.int a6), some (.int a7), some (.int a8), none]) (st' := [.int a7, .int s0]) rfl rfl ?_
  obtain ⟨x1, H2, hx1, h⟩ := bd2_inv h
  refine sn_calls (av := [.int s0, .int a7]) (st := []) (M2 := mX6_at) dX2_nameFrom_66 msX6_at mlX2_27 rfl rfl rfl rfl rfl (sX6_at hx1) ?_
  refine sn_blk _ kX2_nameFrom_64_1 (pc' := 75) (L' := [some (.ref a0), none, some (.int a2), some (.int a3), some (.int a4), some (.int a5), some (.int a6), some (.int a7), some (.int a8), some (.int x1)]) (st' := [.int x1, .int a4]) rfl rfl ?_
  obtain ⟨x3, H4, hx3, h⟩ := bd2_inv h
  refine sn_calls (av := [.int a4, .int x1]) (st := []) (M2 := mX6_isIn) dX2_nameFrom_75 msX6_isIn mlX2_40 rfl rfl rfl rfl rfl (sX6_isIn hx3) ?_
  refine sn_if_ne (tgt := 111) dX2_nameFrom_78 (by decide) (fun c => ?_) (fun c => ?_)
  · rw [if_neg c] at h
    refine sn_blk _ kX2_nameFrom_64_2 (pc' := 42) (L' := [some (.ref a0), none, some (.int a2), some (.int a3), some (.int a4), some (.int a5), some (.int a6), some (.int a7), some (.int (a8 + 1)), some (.int x1)]) (st' := []) rfl rfl ?_
    refine sn_msk [true, true, true, true, true, true, true, true, true, false] (L2 := [some (.ref a0), none, some (.int a2), some (.int a3), some (.int a4), some (.int a5), some (.int a6), some (.int a7), some (.int (a8 + 1)), none]) rfl ?_
    exact hK42 _ _ _ _ _ _ _ _ _ h
  · rw [if_pos c] at h
    refine sn_blk _ kX2_nameFrom_64_3 (pc' := 95) (L' := [some (.ref a0), none, some (.int a2), some (.int a3), some (.int (a4 ||| (1 <<< (x1 &&& 31)))), some (.int a5), some (.int a6), some (.int a7), some (.int a8), some (.int x1)]) (st' := [.int x1, .int a5, .int a2]) rfl rfl ?_
    obtain ⟨x5, H6, hx5, h⟩ := bd2_inv h
    refine sn_calls (av := [.int a2, .int a5, .int x1]) (st := []) (M2 := mX6_put) dX2_nameFrom_95 msX6_put mlX2_86 rfl rfl rfl rfl rfl (sX6_put hx5) ?_
    refine sn_blk _ kX2_nameFrom_64_4 (pc' := 104) (L' := [some (.ref a0), none, some (.int x5), some (.int a3), some (.int (a4 ||| (1 <<< (x1 &&& 31)))), some (.int a5), some (.int a6), some (.int a7), some (.int a8), some (.int x1)]) (st' := [.int a5, .int x1, .int a3]) rfl rfl ?_
    obtain ⟨x7, H8, hx7, h⟩ := bd2_inv h
    refine sn_calls (av := [.int a3, .int x1, .int a5]) (st := []) (M2 := mX6_put) dX2_nameFrom_104 msX6_put mlX2_86 rfl rfl rfl rfl rfl (sX6_put hx7) ?_
    refine sn_blk _ kX2_nameFrom_64_5 (pc' := 42) (L' := [some (.ref a0), none, some (.int x5), some (.int x7), some (.int (a4 ||| (1 <<< (x1 &&& 31)))), some (.int (a5 + 1)), some (.int a6), some (.int a7), some (.int (a8 + 1)), some (.int x1)]) (st' := []) rfl rfl ?_
    refine sn_msk [true, true, true, true, true, true, true, true, true, false] (L2 := [some (.ref a0), none, some (.int x5), some (.int x7), some (.int (a4 ||| (1 <<< (x1 &&& 31)))), some (.int (a5 + 1)), some (.int a6), some (.int a7), some (.int (a8 + 1)), none]) rfl ?_
    exact hK42 _ _ _ _ _ _ _ _ _ h
def bX2_nameFrom_42 (K15 : Nat → Int32 → Int32 → Int32 → Int32 → Int32 → Hp → Option (Int64 × Hp)) (K42 : Nat → Int32 → Int32 → Int32 → Int32 → Int32 → Int32 → Int32 → Hp → Option (Int64 × Hp)) (a0 : Nat) (a2 : Int32) (a3 : Int32) (a4 : Int32) (a5 : Int32) (a6 : Int32) (a7 : Int32) (a8 : Int32) (H : Hp) : Option (Int64 × Hp) :=
  if (2 ≤ a8 : Prop) then
    K15 a0 a2 a3 a4 a5 (a6 + 1) H
  else
    if (a8 = 0 : Prop) then
      bd (gI H a0 2 1) fun x2 =>
      fX2_nameFrom_64 K15 K42 a0 a2 a3 a4 a5 a6 a7 a8 x2 H
    else
      bd (gI H a0 2 2) fun x1 =>
      fX2_nameFrom_64 K15 K42 a0 a2 a3 a4 a5 a6 a7 a8 x1 H
set_option maxHeartbeats 4000000 in
set_option maxRecDepth 100000 in
theorem tbX2_nameFrom_42 {G : GG} {r : Int64} {H' : Hp} {K15 : Nat → Int32 → Int32 → Int32 → Int32 → Int32 → Hp → Option (Int64 × Hp)} {K42 : Nat → Int32 → Int32 → Int32 → Int32 → Int32 → Int32 → Int32 → Hp → Option (Int64 × Hp)} (hK15 : ∀ (a0 : Nat) (a2 : Int32) (a3 : Int32) (a4 : Int32) (a5 : Int32) (a6 : Int32) (H : Hp), K15 a0 a2 a3 a4 a5 a6 H = some (r, H') → Sn G (T0 G (some (.long r)) H') mX2_nameFrom 15 [some (.ref a0), none, some (.int a2), some (.int a3), some (.int a4), some (.int a5), some (.int a6), none, none, none] [] H) (hK42 : ∀ (a0 : Nat) (a2 : Int32) (a3 : Int32) (a4 : Int32) (a5 : Int32) (a6 : Int32) (a7 : Int32) (a8 : Int32) (H : Hp), K42 a0 a2 a3 a4 a5 a6 a7 a8 H = some (r, H') → Sn G (T0 G (some (.long r)) H') mX2_nameFrom 42 [some (.ref a0), none, some (.int a2), some (.int a3), some (.int a4), some (.int a5), some (.int a6), some (.int a7), some (.int a8), none] [] H) {a0 : Nat} {a2 : Int32} {a3 : Int32} {a4 : Int32} {a5 : Int32} {a6 : Int32} {a7 : Int32} {a8 : Int32} {H : Hp} (h : bX2_nameFrom_42 K15 K42 a0 a2 a3 a4 a5 a6 a7 a8 H = some (r, H')) : Sn G (T0 G (some (.long r)) H') mX2_nameFrom 42 [some (.ref a0), none, some (.int a2), some (.int a3), some (.int a4), some (.int a5), some (.int a6), some (.int a7), some (.int a8), none] [] H := by
  unfold bX2_nameFrom_42 at h
  refine sn_blk _ kX2_nameFrom_42_0 (pc' := 45) (L' := [some (.ref a0), none, some (.int a2), some (.int a3), some (.int a4), some (.int a5), some (.int a6), some (.int a7), some (.int a8), none]) (st' := [.int 2, .int a8]) rfl rfl ?_
  refine sn_icmp_ge (tgt := 117) dX2_nameFrom_45 (by decide) (fun c => ?_) (fun c => ?_)
  · rw [if_pos c] at h
    refine sn_blk _ kX2_nameFrom_42_1 (pc' := 15) (L' := [some (.ref a0), none, some (.int a2), some (.int a3), some (.int a4), some (.int a5), some (.int (a6 + 1)), some (.int a7), some (.int a8), none]) (st' := []) rfl rfl ?_
    refine sn_msk [true, true, true, true, true, true, true, false, false, true] (L2 := [some (.ref a0), none, some (.int a2), some (.int a3), some (.int a4), some (.int a5), some (.int (a6 + 1)), none, none, none]) rfl ?_
    exact hK15 _ _ _ _ _ _ _ h
  · rw [if_neg c] at h
    refine sn_blk _ kX2_nameFrom_42_2 (pc' := 50) (L' := [some (.ref a0), none, some (.int a2), some (.int a3), some (.int a4), some (.int a5), some (.int a6), some (.int a7), some (.int a8), none]) (st' := [.int a8]) rfl rfl ?_
    refine sn_if_ne (tgt := 60) dX2_nameFrom_50 (by decide) (fun c => ?_) (fun c => ?_)
    · rw [if_neg c] at h
      refine sn_blk _ kX2_nameFrom_42_3 (pc' := 61) (L' := [some (.ref a0), none, some (.int a2), some (.int a3), some (.int a4), some (.int a5), some (.int a6), some (.int a7), some (.int a8), none]) (st' := [.ref a0]) rfl rfl ?_
      obtain ⟨x1, hx1, h⟩ := bd_inv h
      refine sn_gI dX2_nameFrom_61 foX2_18 hx1 ?_
      exact tfX2_nameFrom_64 hK15 hK42 h
    · rw [if_pos c] at h
      refine sn_blk _ kX2_nameFrom_42_4 (pc' := 54) (L' := [some (.ref a0), none, some (.int a2), some (.int a3), some (.int a4), some (.int a5), some (.int a6), some (.int a7), some (.int a8), none]) (st' := [.ref a0]) rfl rfl ?_
      obtain ⟨x2, hx2, h⟩ := bd_inv h
      refine sn_gI dX2_nameFrom_54 foX2_15 hx2 ?_
      refine sn_blk _ kX2_nameFrom_42_5 (pc' := 64) (L' := [some (.ref a0), none, some (.int a2), some (.int a3), some (.int a4), some (.int a5), some (.int a6), some (.int a7), some (.int a8), none]) (st' := [.int x2]) rfl rfl ?_
      exact tfX2_nameFrom_64 hK15 hK42 h
def fX2_nameFrom_42 (K15 : Nat → Int32 → Int32 → Int32 → Int32 → Int32 → Hp → Option (Int64 × Hp)) : Nat → Nat → Int32 → Int32 → Int32 → Int32 → Int32 → Int32 → Int32 → Hp → Option (Int64 × Hp)
  | 0, _, _, _, _, _, _, _, _, _ => none
  | d + 1, a0, a2, a3, a4, a5, a6, a7, a8, H => bX2_nameFrom_42 K15 (fX2_nameFrom_42 K15 d) a0 a2 a3 a4 a5 a6 a7 a8 H
theorem tfX2_nameFrom_42 {G : GG} {r : Int64} {H' : Hp} {K15 : Nat → Int32 → Int32 → Int32 → Int32 → Int32 → Hp → Option (Int64 × Hp)} (hK15 : ∀ (a0 : Nat) (a2 : Int32) (a3 : Int32) (a4 : Int32) (a5 : Int32) (a6 : Int32) (H : Hp), K15 a0 a2 a3 a4 a5 a6 H = some (r, H') → Sn G (T0 G (some (.long r)) H') mX2_nameFrom 15 [some (.ref a0), none, some (.int a2), some (.int a3), some (.int a4), some (.int a5), some (.int a6), none, none, none] [] H) : ∀ (d : Nat) {a0 : Nat} {a2 : Int32} {a3 : Int32} {a4 : Int32} {a5 : Int32} {a6 : Int32} {a7 : Int32} {a8 : Int32} {H : Hp}, fX2_nameFrom_42 K15 d a0 a2 a3 a4 a5 a6 a7 a8 H = some (r, H') → Sn G (T0 G (some (.long r)) H') mX2_nameFrom 42 [some (.ref a0), none, some (.int a2), some (.int a3), some (.int a4), some (.int a5), some (.int a6), some (.int a7), some (.int a8), none] [] H := by
  intro d
  induction d with
  | zero => intro a0 a2 a3 a4 a5 a6 a7 a8 H h; cases h
  | succ d ih => intro a0 a2 a3 a4 a5 a6 a7 a8 H h; exact tbX2_nameFrom_42 hK15 (fun a0 a2 a3 a4 a5 a6 a7 a8 H h => ih h) h
def bX2_nameFrom_15 (K15 : Nat → Int32 → Int32 → Int32 → Int32 → Int32 → Hp → Option (Int64 × Hp)) (a0 : Nat) (a2 : Int32) (a3 : Int32) (a4 : Int32) (a5 : Int32) (a6 : Int32) (H : Hp) : Option (Int64 × Hp) :=
  if (a5 ≤ a6 : Prop) then
    fX2_nameFrom_123  a0 a2 a3 a5 H
  else
    bd (gI H a0 2 0) fun x1 =>
    if (x1 ≤ a6 : Prop) then
      fX2_nameFrom_123  a0 a2 a3 a5 H
    else
      bd2 (FX6_at a2 a6 H) fun x2 H3 =>
      fX2_nameFrom_42 K15 4096 a0 a2 a3 a4 a5 a6 x2 0 H3
set_option maxHeartbeats 4000000 in
set_option maxRecDepth 100000 in
theorem tbX2_nameFrom_15 {G : GG} {r : Int64} {H' : Hp} {K15 : Nat → Int32 → Int32 → Int32 → Int32 → Int32 → Hp → Option (Int64 × Hp)} (hK15 : ∀ (a0 : Nat) (a2 : Int32) (a3 : Int32) (a4 : Int32) (a5 : Int32) (a6 : Int32) (H : Hp), K15 a0 a2 a3 a4 a5 a6 H = some (r, H') → Sn G (T0 G (some (.long r)) H') mX2_nameFrom 15 [some (.ref a0), none, some (.int a2), some (.int a3), some (.int a4), some (.int a5), some (.int a6), none, none, none] [] H) {a0 : Nat} {a2 : Int32} {a3 : Int32} {a4 : Int32} {a5 : Int32} {a6 : Int32} {H : Hp} (h : bX2_nameFrom_15 K15 a0 a2 a3 a4 a5 a6 H = some (r, H')) : Sn G (T0 G (some (.long r)) H') mX2_nameFrom 15 [some (.ref a0), none, some (.int a2), some (.int a3), some (.int a4), some (.int a5), some (.int a6), none, none, none] [] H := by
  unfold bX2_nameFrom_15 at h
  refine sn_blk _ kX2_nameFrom_15_0 (pc' := 19) (L' := [some (.ref a0), none, some (.int a2), some (.int a3), some (.int a4), some (.int a5), some (.int a6), none, none, none]) (st' := [.int a5, .int a6]) rfl rfl ?_
  refine sn_icmp_ge (tgt := 123) dX2_nameFrom_19 (by decide) (fun c => ?_) (fun c => ?_)
  · rw [if_pos c] at h
    refine sn_msk [true, true, true, true, false, true, false, true, true, true] (L2 := [some (.ref a0), none, some (.int a2), some (.int a3), none, some (.int a5), none, none, none, none]) rfl ?_
    exact tfX2_nameFrom_123  h
  · rw [if_neg c] at h
    refine sn_blk _ kX2_nameFrom_15_1 (pc' := 25) (L' := [some (.ref a0), none, some (.int a2), some (.int a3), some (.int a4), some (.int a5), some (.int a6), none, none, none]) (st' := [.ref a0, .int a6]) rfl rfl ?_
    obtain ⟨x1, hx1, h⟩ := bd_inv h
    refine sn_gI dX2_nameFrom_25 foX2_9 hx1 ?_
    refine sn_icmp_ge (tgt := 123) dX2_nameFrom_28 (by decide) (fun c => ?_) (fun c => ?_)
    · rw [if_pos c] at h
      refine sn_msk [true, true, true, true, false, true, false, true, true, true] (L2 := [some (.ref a0), none, some (.int a2), some (.int a3), none, some (.int a5), none, none, none, none]) rfl ?_
      exact tfX2_nameFrom_123  h
    · rw [if_neg c] at h
      refine sn_blk _ kX2_nameFrom_15_2 (pc' := 34) (L' := [some (.ref a0), none, some (.int a2), some (.int a3), some (.int a4), some (.int a5), some (.int a6), none, none, none]) (st' := [.int a6, .int a2]) rfl rfl ?_
      obtain ⟨x2, H3, hx2, h⟩ := bd2_inv h
      refine sn_calls (av := [.int a2, .int a6]) (st := []) (M2 := mX6_at) dX2_nameFrom_34 msX6_at mlX2_27 rfl rfl rfl rfl rfl (sX6_at hx2) ?_
      refine sn_blk _ kX2_nameFrom_15_3 (pc' := 42) (L' := [some (.ref a0), none, some (.int a2), some (.int a3), some (.int a4), some (.int a5), some (.int a6), some (.int x2), some (.int 0), none]) (st' := []) rfl rfl ?_
      exact tfX2_nameFrom_42 hK15 4096 h
def fX2_nameFrom_15  : Nat → Nat → Int32 → Int32 → Int32 → Int32 → Int32 → Hp → Option (Int64 × Hp)
  | 0, _, _, _, _, _, _, _ => none
  | d + 1, a0, a2, a3, a4, a5, a6, H => bX2_nameFrom_15 (fX2_nameFrom_15  d) a0 a2 a3 a4 a5 a6 H
theorem tfX2_nameFrom_15 {G : GG} {r : Int64} {H' : Hp}   : ∀ (d : Nat) {a0 : Nat} {a2 : Int32} {a3 : Int32} {a4 : Int32} {a5 : Int32} {a6 : Int32} {H : Hp}, fX2_nameFrom_15  d a0 a2 a3 a4 a5 a6 H = some (r, H') → Sn G (T0 G (some (.long r)) H') mX2_nameFrom 15 [some (.ref a0), none, some (.int a2), some (.int a3), some (.int a4), some (.int a5), some (.int a6), none, none, none] [] H := by
  intro d
  induction d with
  | zero => intro a0 a2 a3 a4 a5 a6 H h; cases h
  | succ d ih => intro a0 a2 a3 a4 a5 a6 H h; exact tbX2_nameFrom_15 (fun a0 a2 a3 a4 a5 a6 H h => ih h) h
def FX2_nameFrom  (a0 : Nat) (a1 : Int32) (H : Hp) : Option (Int64 × Hp) :=
  fX2_nameFrom_15  4096 a0 a1 0 (1 <<< (a1 &&& 31)) 1 0 H
set_option maxHeartbeats 4000000 in
set_option maxRecDepth 100000 in
theorem tFX2_nameFrom {G : GG} {r : Int64} {H' : Hp}   {a0 : Nat} {a1 : Int32} {H : Hp} (h : FX2_nameFrom  a0 a1 H = some (r, H')) : Sn G (T0 G (some (.long r)) H') mX2_nameFrom 0 [some (.ref a0), some (.int a1), none, none, none, none, none, none, none, none] [] H := by
  unfold FX2_nameFrom at h
  refine sn_blk _ kX2_nameFrom_0_0 (pc' := 15) (L' := [some (.ref a0), some (.int a1), some (.int a1), some (.int 0), some (.int (1 <<< (a1 &&& 31))), some (.int 1), some (.int 0), none, none, none]) (st' := []) rfl rfl ?_
  refine sn_msk [true, false, true, true, true, true, true, true, true, true] (L2 := [some (.ref a0), none, some (.int a1), some (.int 0), some (.int (1 <<< (a1 &&& 31))), some (.int 1), some (.int 0), none, none, none]) rfl ?_
  exact tfX2_nameFrom_15  4096 h
theorem sX2_nameFrom {G : GG} {r : Int64} {H' : Hp} {a0 : Nat} {a1 : Int32} {H : Hp} (h : FX2_nameFrom a0 a1 H = some (r, H')) : SM G mX2_nameFrom [.ref a0, .int a1] H (some (.long r)) H' := tFX2_nameFrom h
/-! SquareFolds$Gluing.leastName(I)J -/
theorem kX2_leastName_0_0 : decB cX2_leastName 0 [(.aload_n 0, .null), (.iload_n 1, .null), (.aload_n 0, .null)] = true := by decide +kernel
theorem kX2_leastName_0_1 : decB cX2_leastName 6 [(.iconst 0, .int 0)] = true := by decide +kernel
theorem kX2_leastName_0_2 : decB cX2_leastName 10 [(.istore_n 2, .null), (.aload_n 0, .null), (.iload_n 1, .null)] = true := by decide +kernel
theorem kX2_leastName_0_3 : decB cX2_leastName 16 [(.lstore_n 3, .null), (.iconst 0, .int 0), (.istore 5, .null)] = true := by decide +kernel
theorem kX2_leastName_20_0 : decB cX2_leastName 20 [(.iload 5, .null), (.aload_n 0, .null)] = true := by decide +kernel
theorem kX2_leastName_20_1 : decB cX2_leastName 55 [(.lload_n 3, .null)] = true := by decide +kernel
theorem kX2_leastName_20_2 : decB cX2_leastName 29 [(.iload_n 2, .null), (.iload 5, .null)] = true := by decide +kernel
theorem kX2_leastName_20_3 : decB cX2_leastName 49 [(.iinc 5 1, .int 1), (.goto (-32), .retAddr 20)] = true := by decide +kernel
theorem kX2_leastName_20_4 : decB cX2_leastName 38 [(.lload_n 3, .null), (.aload_n 0, .null), (.iload 5, .null)] = true := by decide +kernel
theorem kX2_leastName_20_5 : decB cX2_leastName 48 [(.lstore_n 3, .null), (.iinc 5 1, .int 1), (.goto (-32), .retAddr 20)] = true := by decide +kernel
theorem dX2_leastName_3 : decode cX2_leastName 3 = .ok (.invokevirtual 48, 3) := by decide +kernel
theorem dX2_leastName_7 : decode cX2_leastName 7 = .ok (.invokevirtual 51, 3) := by decide +kernel
theorem dX2_leastName_13 : decode cX2_leastName 13 = .ok (.invokevirtual 95, 3) := by decide +kernel
theorem dX2_leastName_23 : decode cX2_leastName 23 = .ok (.getfield 9, 3) := by decide +kernel
theorem dX2_leastName_26 : decode cX2_leastName 26 = .ok (.if_icmp .ge 29, 3) := by decide +kernel
theorem dX2_leastName_32 : decode cX2_leastName 32 = .ok (.invokestatic 40, 3) := by decide +kernel
theorem dX2_leastName_35 : decode cX2_leastName 35 = .ok (.ifCond .eq 14, 3) := by decide +kernel
theorem dX2_leastName_42 : decode cX2_leastName 42 = .ok (.invokevirtual 95, 3) := by decide +kernel
theorem dX2_leastName_45 : decode cX2_leastName 45 = .ok (.invokestatic 99, 3) := by decide +kernel
theorem dX2_leastName_56 : decode cX2_leastName 56 = .ok (.lreturn, 1) := by decide +kernel
def bX2_leastName_20 (K20 : Nat → Int32 → Int64 → Int32 → Hp → Option (Int64 × Hp)) (a0 : Nat) (a2 : Int32) (a3 : Int64) (a5 : Int32) (H : Hp) : Option (Int64 × Hp) :=
  bd (gI H a0 2 0) fun x1 =>
  if (x1 ≤ a5 : Prop) then
    some (a3, H)
  else
    bd2 (FX6_isIn a2 a5 H) fun x2 H3 =>
    if (x2 = 0 : Prop) then
      K20 a0 a2 a3 (a5 + 1) H3
    else
      gp (isO H3 a0 2 = true) (
        bd2 (FX2_nameFrom a0 a5 H3) fun x4 H5 =>
        K20 a0 a2 (if x4 < a3 then x4 else a3) (a5 + 1) H5
        )
set_option maxHeartbeats 4000000 in
set_option maxRecDepth 100000 in
theorem tbX2_leastName_20 {G : GG} {r : Int64} {H' : Hp} {K20 : Nat → Int32 → Int64 → Int32 → Hp → Option (Int64 × Hp)} (hK20 : ∀ (a0 : Nat) (a2 : Int32) (a3 : Int64) (a5 : Int32) (H : Hp), K20 a0 a2 a3 a5 H = some (r, H') → Sn G (T0 G (some (.long r)) H') mX2_leastName 20 [some (.ref a0), none, some (.int a2), some (.long a3), none, some (.int a5)] [] H) {a0 : Nat} {a2 : Int32} {a3 : Int64} {a5 : Int32} {H : Hp} (h : bX2_leastName_20 K20 a0 a2 a3 a5 H = some (r, H')) : Sn G (T0 G (some (.long r)) H') mX2_leastName 20 [some (.ref a0), none, some (.int a2), some (.long a3), none, some (.int a5)] [] H := by
  unfold bX2_leastName_20 at h
  refine sn_blk _ kX2_leastName_20_0 (pc' := 23) (L' := [some (.ref a0), none, some (.int a2), some (.long a3), none, some (.int a5)]) (st' := [.ref a0, .int a5]) rfl rfl ?_
  obtain ⟨x1, hx1, h⟩ := bd_inv h
  refine sn_gI dX2_leastName_23 foX2_9 hx1 ?_
  refine sn_icmp_ge (tgt := 55) dX2_leastName_26 (by decide) (fun c => ?_) (fun c => ?_)
  · rw [if_pos c] at h
    refine sn_blk _ kX2_leastName_20_1 (pc' := 56) (L' := [some (.ref a0), none, some (.int a2), some (.long a3), none, some (.int a5)]) (st' := [.long a3]) rfl rfl ?_
    cases h
    exact sn_lret dX2_leastName_56 rfl
  · rw [if_neg c] at h
    refine sn_blk _ kX2_leastName_20_2 (pc' := 32) (L' := [some (.ref a0), none, some (.int a2), some (.long a3), none, some (.int a5)]) (st' := [.int a5, .int a2]) rfl rfl ?_
    obtain ⟨x2, H3, hx2, h⟩ := bd2_inv h
    refine sn_calls (av := [.int a2, .int a5]) (st := []) (M2 := mX6_isIn) dX2_leastName_32 msX6_isIn mlX2_40 rfl rfl rfl rfl rfl (sX6_isIn hx2) ?_
    refine sn_if_eq (tgt := 49) dX2_leastName_35 (by decide) (fun c => ?_) (fun c => ?_)
    · rw [if_pos c] at h
      refine sn_blk _ kX2_leastName_20_3 (pc' := 20) (L' := [some (.ref a0), none, some (.int a2), some (.long a3), none, some (.int (a5 + 1))]) (st' := []) rfl rfl ?_
      exact hK20 _ _ _ _ _ h
    · rw [if_neg c] at h
      refine sn_blk _ kX2_leastName_20_4 (pc' := 42) (L' := [some (.ref a0), none, some (.int a2), some (.long a3), none, some (.int a5)]) (st' := [.int a5, .ref a0, .long a3]) rfl rfl ?_
      obtain ⟨ho, h⟩ := gp_inv h
      obtain ⟨fs, ho⟩ := isO_inv ho
      obtain ⟨x4, H5, hx4, h⟩ := bd2_inv h
      refine sn_callv (av := [.int a5]) (st := [.long a3]) (M2 := mX2_nameFrom) dX2_leastName_42 msX2_nameFrom mlX2_95 rfl rfl rfl rfl rfl ho (sX2_nameFrom hx4) ?_
      refine sn_mmin dX2_leastName_45 mlX2_99 (by decide +kernel) rfl ?_
      refine sn_blk _ kX2_leastName_20_5 (pc' := 20) (L' := [some (.ref a0), none, some (.int a2), some (.long (if x4 < a3 then x4 else a3)), none, some (.int (a5 + 1))]) (st' := []) rfl rfl ?_
      exact hK20 _ _ _ _ _ h
def fX2_leastName_20  : Nat → Nat → Int32 → Int64 → Int32 → Hp → Option (Int64 × Hp)
  | 0, _, _, _, _, _ => none
  | d + 1, a0, a2, a3, a5, H => bX2_leastName_20 (fX2_leastName_20  d) a0 a2 a3 a5 H
theorem tfX2_leastName_20 {G : GG} {r : Int64} {H' : Hp}   : ∀ (d : Nat) {a0 : Nat} {a2 : Int32} {a3 : Int64} {a5 : Int32} {H : Hp}, fX2_leastName_20  d a0 a2 a3 a5 H = some (r, H') → Sn G (T0 G (some (.long r)) H') mX2_leastName 20 [some (.ref a0), none, some (.int a2), some (.long a3), none, some (.int a5)] [] H := by
  intro d
  induction d with
  | zero => intro a0 a2 a3 a5 H h; cases h
  | succ d ih => intro a0 a2 a3 a5 H h; exact tbX2_leastName_20 (fun a0 a2 a3 a5 H h => ih h) h
def FX2_leastName  (a0 : Nat) (a1 : Int32) (H : Hp) : Option (Int64 × Hp) :=
  gp (isO H a0 2 = true) (
    bd2 (FX2_all a0  H) fun x1 H2 =>
    gp (isO H2 a0 2 = true) (
      bd2 (FX2_reach a0 a1 x1 0 H2) fun x3 H4 =>
      gp (isO H4 a0 2 = true) (
        bd2 (FX2_nameFrom a0 a1 H4) fun x5 H6 =>
        fX2_leastName_20  4096 a0 x3 x5 0 H6
        )
      )
    )
set_option maxHeartbeats 4000000 in
set_option maxRecDepth 100000 in
theorem tFX2_leastName {G : GG} {r : Int64} {H' : Hp}   {a0 : Nat} {a1 : Int32} {H : Hp} (h : FX2_leastName  a0 a1 H = some (r, H')) : Sn G (T0 G (some (.long r)) H') mX2_leastName 0 [some (.ref a0), some (.int a1), none, none, none, none] [] H := by
  unfold FX2_leastName at h
  refine sn_blk _ kX2_leastName_0_0 (pc' := 3) (L' := [some (.ref a0), some (.int a1), none, none, none, none]) (st' := [.ref a0, .int a1, .ref a0]) rfl rfl ?_
  obtain ⟨ho, h⟩ := gp_inv h
  obtain ⟨fs, ho⟩ := isO_inv ho
  obtain ⟨x1, H2, hx1, h⟩ := bd2_inv h
  refine sn_callv (av := []) (st := [.int a1, .ref a0]) (M2 := mX2_all) dX2_leastName_3 msX2_all mlX2_48 rfl rfl rfl rfl rfl ho (sX2_all hx1) ?_
  refine sn_blk _ kX2_leastName_0_1 (pc' := 7) (L' := [some (.ref a0), some (.int a1), none, none, none, none]) (st' := [.int 0, .int x1, .int a1, .ref a0]) rfl rfl ?_
  obtain ⟨ho, h⟩ := gp_inv h
  obtain ⟨fs, ho⟩ := isO_inv ho
  obtain ⟨x3, H4, hx3, h⟩ := bd2_inv h
  refine sn_callv (av := [.int a1, .int x1, .int 0]) (st := []) (M2 := mX2_reach) dX2_leastName_7 msX2_reach mlX2_51 rfl rfl rfl rfl rfl ho (sX2_reach hx3) ?_
  refine sn_blk _ kX2_leastName_0_2 (pc' := 13) (L' := [some (.ref a0), some (.int a1), some (.int x3), none, none, none]) (st' := [.int a1, .ref a0]) rfl rfl ?_
  obtain ⟨ho, h⟩ := gp_inv h
  obtain ⟨fs, ho⟩ := isO_inv ho
  obtain ⟨x5, H6, hx5, h⟩ := bd2_inv h
  refine sn_callv (av := [.int a1]) (st := []) (M2 := mX2_nameFrom) dX2_leastName_13 msX2_nameFrom mlX2_95 rfl rfl rfl rfl rfl ho (sX2_nameFrom hx5) ?_
  refine sn_blk _ kX2_leastName_0_3 (pc' := 20) (L' := [some (.ref a0), some (.int a1), some (.int x3), some (.long x5), none, some (.int 0)]) (st' := []) rfl rfl ?_
  refine sn_msk [true, false, true, true, true, true] (L2 := [some (.ref a0), none, some (.int x3), some (.long x5), none, some (.int 0)]) rfl ?_
  exact tfX2_leastName_20  4096 h
theorem sX2_leastName {G : GG} {r : Int64} {H' : Hp} {a0 : Nat} {a1 : Int32} {H : Hp} (h : FX2_leastName a0 a1 H = some (r, H')) : SM G mX2_leastName [.ref a0, .int a1] H (some (.long r)) H' := tFX2_leastName h
/-! SquareFolds$Gluing.doShear(I)V -/
theorem kX2_doShear_0_0 : decB cX2_doShear 0 [(.iload_n 1, .null)] = true := by decide +kernel
theorem kX2_doShear_0_1 : decB cX2_doShear 26 [(.iload_n 1, .null), (.iconst 1, .int 1)] = true := by decide +kernel
theorem kX2_doShear_0_2 : decB cX2_doShear 53 [(.aload_n 0, .null), (.aload_n 0, .null)] = true := by decide +kernel
theorem kX2_doShear_0_3 : decB cX2_doShear 58 [(.aload_n 0, .null)] = true := by decide +kernel
theorem kX2_doShear_0_4 : decB cX2_doShear 62 [(.aload_n 0, .null)] = true := by decide +kernel
theorem kX2_doShear_0_5 : decB cX2_doShear 31 [(.aload_n 0, .null), (.aload_n 0, .null)] = true := by decide +kernel
theorem kX2_doShear_0_6 : decB cX2_doShear 36 [(.aload_n 0, .null)] = true := by decide +kernel
theorem kX2_doShear_0_7 : decB cX2_doShear 40 [(.aload_n 0, .null)] = true := by decide +kernel
theorem kX2_doShear_0_8 : decB cX2_doShear 50 [(.goto 19, .retAddr 69)] = true := by decide +kernel
theorem kX2_doShear_0_9 : decB cX2_doShear 4 [(.aload_n 0, .null), (.aload_n 0, .null)] = true := by decide +kernel
theorem kX2_doShear_0_10 : decB cX2_doShear 9 [(.aload_n 0, .null)] = true := by decide +kernel
theorem kX2_doShear_0_11 : decB cX2_doShear 13 [(.aload_n 0, .null)] = true := by decide +kernel
theorem kX2_doShear_0_12 : decB cX2_doShear 23 [(.goto 46, .retAddr 69)] = true := by decide +kernel
theorem dX2_doShear_1 : decode cX2_doShear 1 = .ok (.ifCond .ne 25, 3) := by decide +kernel
theorem dX2_doShear_6 : decode cX2_doShear 6 = .ok (.invokevirtual 30, 3) := by decide +kernel
theorem dX2_doShear_10 : decode cX2_doShear 10 = .ok (.getfield 18, 3) := by decide +kernel
theorem dX2_doShear_14 : decode cX2_doShear 14 = .ok (.getfield 9, 3) := by decide +kernel
theorem dX2_doShear_17 : decode cX2_doShear 17 = .ok (.invokestatic 54, 3) := by decide +kernel
theorem dX2_doShear_20 : decode cX2_doShear 20 = .ok (.putfield 18, 3) := by decide +kernel
theorem dX2_doShear_28 : decode cX2_doShear 28 = .ok (.if_icmp .ne 25, 3) := by decide +kernel
theorem dX2_doShear_33 : decode cX2_doShear 33 = .ok (.invokevirtual 34, 3) := by decide +kernel
theorem dX2_doShear_37 : decode cX2_doShear 37 = .ok (.getfield 15, 3) := by decide +kernel
theorem dX2_doShear_41 : decode cX2_doShear 41 = .ok (.getfield 9, 3) := by decide +kernel
theorem dX2_doShear_44 : decode cX2_doShear 44 = .ok (.invokestatic 54, 3) := by decide +kernel
theorem dX2_doShear_47 : decode cX2_doShear 47 = .ok (.putfield 15, 3) := by decide +kernel
theorem dX2_doShear_55 : decode cX2_doShear 55 = .ok (.getfield 9, 3) := by decide +kernel
theorem dX2_doShear_59 : decode cX2_doShear 59 = .ok (.invokevirtual 34, 3) := by decide +kernel
theorem dX2_doShear_63 : decode cX2_doShear 63 = .ok (.getfield 15, 3) := by decide +kernel
theorem dX2_doShear_66 : decode cX2_doShear 66 = .ok (.invokevirtual 103, 3) := by decide +kernel
theorem dX2_doShear_69 : decode cX2_doShear 69 = .ok (.return_, 1) := by decide +kernel
def FX2_doShear  (a0 : Nat) (a1 : Int32) (H : Hp) : Option (Unit × Hp) :=
  if (a1 = 0 : Prop) then
    gp (isO H a0 2 = true) (
      bd2 (FX2_left a0  H) fun x14 H15 =>
      bd (gI H15 a0 2 2) fun x16 =>
      bd (gI H15 a0 2 0) fun x17 =>
      bd2 (FX6_then x14 x16 x17 H15) fun x18 H19 =>
      bd (pV H19 a0 2 2 (.int x18)) fun H20 =>
      some ((), H20)
      )
  else
    if (a1 = 1 : Prop) then
      gp (isO H a0 2 = true) (
        bd2 (FX2_down a0  H) fun x7 H8 =>
        bd (gI H8 a0 2 1) fun x9 =>
        bd (gI H8 a0 2 0) fun x10 =>
        bd2 (FX6_then x7 x9 x10 H8) fun x11 H12 =>
        bd (pV H12 a0 2 1 (.int x11)) fun H13 =>
        some ((), H13)
        )
    else
      bd (gI H a0 2 0) fun x1 =>
      gp (isO H a0 2 = true) (
        bd2 (FX2_down a0  H) fun x2 H3 =>
        bd (gI H3 a0 2 1) fun x4 =>
        gp (isO H3 a0 2 = true) (
          bd2 (FX2_become a0 x1 x2 x4 H3) fun _ H6 =>
          some ((), H6)
          )
        )
set_option maxHeartbeats 4000000 in
set_option maxRecDepth 100000 in
theorem tFX2_doShear {G : GG} {r : Unit} {H' : Hp}   {a0 : Nat} {a1 : Int32} {H : Hp} (h : FX2_doShear  a0 a1 H = some (r, H')) : Sn G (T0 G none H') mX2_doShear 0 [some (.ref a0), some (.int a1)] [] H := by
  unfold FX2_doShear at h
  refine sn_blk _ kX2_doShear_0_0 (pc' := 1) (L' := [some (.ref a0), some (.int a1)]) (st' := [.int a1]) rfl rfl ?_
  refine sn_if_ne (tgt := 26) dX2_doShear_1 (by decide) (fun c => ?_) (fun c => ?_)
  · rw [if_neg c] at h
    refine sn_blk _ kX2_doShear_0_1 (pc' := 28) (L' := [some (.ref a0), some (.int a1)]) (st' := [.int 1, .int a1]) rfl rfl ?_
    refine sn_icmp_ne (tgt := 53) dX2_doShear_28 (by decide) (fun c => ?_) (fun c => ?_)
    · rw [if_neg c] at h
      refine sn_blk _ kX2_doShear_0_2 (pc' := 55) (L' := [some (.ref a0), some (.int a1)]) (st' := [.ref a0, .ref a0]) rfl rfl ?_
      obtain ⟨x1, hx1, h⟩ := bd_inv h
      refine sn_gI dX2_doShear_55 foX2_9 hx1 ?_
      refine sn_blk _ kX2_doShear_0_3 (pc' := 59) (L' := [some (.ref a0), some (.int a1)]) (st' := [.ref a0, .int x1, .ref a0]) rfl rfl ?_
      obtain ⟨ho, h⟩ := gp_inv h
      obtain ⟨fs, ho⟩ := isO_inv ho
      obtain ⟨x2, H3, hx2, h⟩ := bd2_inv h
      refine sn_callv (av := []) (st := [.int x1, .ref a0]) (M2 := mX2_down) dX2_doShear_59 msX2_down mlX2_34 rfl rfl rfl rfl rfl ho (sX2_down hx2) ?_
      refine sn_blk _ kX2_doShear_0_4 (pc' := 63) (L' := [some (.ref a0), some (.int a1)]) (st' := [.ref a0, .int x2, .int x1, .ref a0]) rfl rfl ?_
      obtain ⟨x4, hx4, h⟩ := bd_inv h
      refine sn_gI dX2_doShear_63 foX2_15 hx4 ?_
      obtain ⟨ho, h⟩ := gp_inv h
      obtain ⟨fs, ho⟩ := isO_inv ho
      obtain ⟨x5, H6, hx5, h⟩ := bd2_inv h
      refine sn_callv (av := [.int x1, .int x2, .int x4]) (st := []) (M2 := mX2_become) dX2_doShear_66 msX2_become mlX2_103 rfl rfl rfl rfl rfl ho (sX2_become hx5) ?_
      cases h
      exact sn_vret dX2_doShear_69 rfl
    · rw [if_pos c] at h
      refine sn_blk _ kX2_doShear_0_5 (pc' := 33) (L' := [some (.ref a0), some (.int a1)]) (st' := [.ref a0, .ref a0]) rfl rfl ?_
      obtain ⟨ho, h⟩ := gp_inv h
      obtain ⟨fs, ho⟩ := isO_inv ho
      obtain ⟨x7, H8, hx7, h⟩ := bd2_inv h
      refine sn_callv (av := []) (st := [.ref a0]) (M2 := mX2_down) dX2_doShear_33 msX2_down mlX2_34 rfl rfl rfl rfl rfl ho (sX2_down hx7) ?_
      refine sn_blk _ kX2_doShear_0_6 (pc' := 37) (L' := [some (.ref a0), some (.int a1)]) (st' := [.ref a0, .int x7, .ref a0]) rfl rfl ?_
      obtain ⟨x9, hx9, h⟩ := bd_inv h
      refine sn_gI dX2_doShear_37 foX2_15 hx9 ?_
      refine sn_blk _ kX2_doShear_0_7 (pc' := 41) (L' := [some (.ref a0), some (.int a1)]) (st' := [.ref a0, .int x9, .int x7, .ref a0]) rfl rfl ?_
      obtain ⟨x10, hx10, h⟩ := bd_inv h
      refine sn_gI dX2_doShear_41 foX2_9 hx10 ?_
      obtain ⟨x11, H12, hx11, h⟩ := bd2_inv h
      refine sn_calls (av := [.int x7, .int x9, .int x10]) (st := [.ref a0]) (M2 := mX6_then) dX2_doShear_44 msX6_then mlX2_54 rfl rfl rfl rfl rfl (sX6_then hx11) ?_
      obtain ⟨H13, hH13, h⟩ := bd_inv h
      refine sn_pI dX2_doShear_47 foX2_15 fpX2_1 hH13 ?_
      refine sn_blk _ kX2_doShear_0_8 (pc' := 69) (L' := [some (.ref a0), some (.int a1)]) (st' := []) rfl rfl ?_
      cases h
      exact sn_vret dX2_doShear_69 rfl
  · rw [if_pos c] at h
    refine sn_blk _ kX2_doShear_0_9 (pc' := 6) (L' := [some (.ref a0), some (.int a1)]) (st' := [.ref a0, .ref a0]) rfl rfl ?_
    obtain ⟨ho, h⟩ := gp_inv h
    obtain ⟨fs, ho⟩ := isO_inv ho
    obtain ⟨x14, H15, hx14, h⟩ := bd2_inv h
    refine sn_callv (av := []) (st := [.ref a0]) (M2 := mX2_left) dX2_doShear_6 msX2_left mlX2_30 rfl rfl rfl rfl rfl ho (sX2_left hx14) ?_
    refine sn_blk _ kX2_doShear_0_10 (pc' := 10) (L' := [some (.ref a0), some (.int a1)]) (st' := [.ref a0, .int x14, .ref a0]) rfl rfl ?_
    obtain ⟨x16, hx16, h⟩ := bd_inv h
    refine sn_gI dX2_doShear_10 foX2_18 hx16 ?_
    refine sn_blk _ kX2_doShear_0_11 (pc' := 14) (L' := [some (.ref a0), some (.int a1)]) (st' := [.ref a0, .int x16, .int x14, .ref a0]) rfl rfl ?_
    obtain ⟨x17, hx17, h⟩ := bd_inv h
    refine sn_gI dX2_doShear_14 foX2_9 hx17 ?_
    obtain ⟨x18, H19, hx18, h⟩ := bd2_inv h
    refine sn_calls (av := [.int x14, .int x16, .int x17]) (st := [.ref a0]) (M2 := mX6_then) dX2_doShear_17 msX6_then mlX2_54 rfl rfl rfl rfl rfl (sX6_then hx18) ?_
    obtain ⟨H20, hH20, h⟩ := bd_inv h
    refine sn_pI dX2_doShear_20 foX2_18 fpX2_2 hH20 ?_
    refine sn_blk _ kX2_doShear_0_12 (pc' := 69) (L' := [some (.ref a0), some (.int a1)]) (st' := []) rfl rfl ?_
    cases h
    exact sn_vret dX2_doShear_69 rfl
theorem sX2_doShear {G : GG} {r : Unit} {H' : Hp} {a0 : Nat} {a1 : Int32} {H : Hp} (h : FX2_doShear a0 a1 H = some (r, H')) : SM G mX2_doShear [.ref a0, .int a1] H none H' := tFX2_doShear h
/-! SquareFolds$Gluing.doTrade(II)V -/
theorem kX2_doTrade_0_0 : decB cX2_doTrade 0 [(.iconst 0, .int 0), (.istore_n 3, .null), (.iconst 0, .int 0), (.istore 4, .null)] = true := by decide +kernel
theorem kX2_doTrade_5_0 : decB cX2_doTrade 5 [(.iload 4, .null), (.aload_n 0, .null)] = true := by decide +kernel
theorem kX2_doTrade_5_1 : decB cX2_doTrade 49 [(.aload_n 0, .null), (.iload_n 3, .null), (.aload_n 0, .null)] = true := by decide +kernel
theorem kX2_doTrade_5_2 : decB cX2_doTrade 55 [(.iload_n 3, .null), (.aload_n 0, .null)] = true := by decide +kernel
theorem kX2_doTrade_5_3 : decB cX2_doTrade 63 [(.aload_n 0, .null)] = true := by decide +kernel
theorem kX2_doTrade_5_4 : decB cX2_doTrade 73 [(.aload_n 0, .null), (.iload_n 3, .null), (.aload_n 0, .null)] = true := by decide +kernel
theorem kX2_doTrade_5_5 : decB cX2_doTrade 79 [(.iload_n 3, .null), (.aload_n 0, .null)] = true := by decide +kernel
theorem kX2_doTrade_5_6 : decB cX2_doTrade 87 [(.aload_n 0, .null)] = true := by decide +kernel
theorem kX2_doTrade_5_7 : decB cX2_doTrade 14 [(.iload_n 3, .null), (.iload 4, .null), (.iload 4, .null), (.iload_n 1, .null)] = true := by decide +kernel
theorem kX2_doTrade_5_8 : decB cX2_doTrade 27 [(.iload 4, .null), (.iload_n 2, .null)] = true := by decide +kernel
theorem kX2_doTrade_5_9 : decB cX2_doTrade 37 [(.iload 4, .null)] = true := by decide +kernel
theorem kX2_doTrade_5_10 : decB cX2_doTrade 33 [(.iload_n 1, .null), (.goto 5, .retAddr 39)] = true := by decide +kernel
theorem kX2_doTrade_5_11 : decB cX2_doTrade 23 [(.iload_n 2, .null), (.goto 15, .retAddr 39)] = true := by decide +kernel
theorem kX2_doTrade_39_0 : decB cX2_doTrade 42 [(.istore_n 3, .null), (.iinc 4 1, .int 1), (.goto (-41), .retAddr 5)] = true := by decide +kernel
theorem dX2_doTrade_8 : decode cX2_doTrade 8 = .ok (.getfield 9, 3) := by decide +kernel
theorem dX2_doTrade_11 : decode cX2_doTrade 11 = .ok (.if_icmp .ge 38, 3) := by decide +kernel
theorem dX2_doTrade_20 : decode cX2_doTrade 20 = .ok (.if_icmp .ne 7, 3) := by decide +kernel
theorem dX2_doTrade_30 : decode cX2_doTrade 30 = .ok (.if_icmp .ne 7, 3) := by decide +kernel
theorem dX2_doTrade_39 : decode cX2_doTrade 39 = .ok (.invokestatic 86, 3) := by decide +kernel
theorem dX2_doTrade_52 : decode cX2_doTrade 52 = .ok (.getfield 15, 3) := by decide +kernel
theorem dX2_doTrade_57 : decode cX2_doTrade 57 = .ok (.getfield 9, 3) := by decide +kernel
theorem dX2_doTrade_60 : decode cX2_doTrade 60 = .ok (.invokestatic 54, 3) := by decide +kernel
theorem dX2_doTrade_64 : decode cX2_doTrade 64 = .ok (.getfield 9, 3) := by decide +kernel
theorem dX2_doTrade_67 : decode cX2_doTrade 67 = .ok (.invokestatic 54, 3) := by decide +kernel
theorem dX2_doTrade_70 : decode cX2_doTrade 70 = .ok (.putfield 15, 3) := by decide +kernel
theorem dX2_doTrade_76 : decode cX2_doTrade 76 = .ok (.getfield 18, 3) := by decide +kernel
theorem dX2_doTrade_81 : decode cX2_doTrade 81 = .ok (.getfield 9, 3) := by decide +kernel
theorem dX2_doTrade_84 : decode cX2_doTrade 84 = .ok (.invokestatic 54, 3) := by decide +kernel
theorem dX2_doTrade_88 : decode cX2_doTrade 88 = .ok (.getfield 9, 3) := by decide +kernel
theorem dX2_doTrade_91 : decode cX2_doTrade 91 = .ok (.invokestatic 54, 3) := by decide +kernel
theorem dX2_doTrade_94 : decode cX2_doTrade 94 = .ok (.putfield 18, 3) := by decide +kernel
theorem dX2_doTrade_97 : decode cX2_doTrade 97 = .ok (.return_, 1) := by decide +kernel
def fX2_doTrade_39 (K5 : Nat → Int32 → Int32 → Int32 → Int32 → Hp → Option (Unit × Hp)) (a0 : Nat) (a1 : Int32) (a2 : Int32) (a4 : Int32) (s0 : Int32) (s1 : Int32) (s2 : Int32) (H : Hp) : Option (Unit × Hp) :=
  bd2 (FX6_put s0 s1 s2 H) fun x1 H2 =>
  K5 a0 a1 a2 x1 (a4 + 1) H2
set_option maxHeartbeats 4000000 in
set_option maxRecDepth 100000 in
theorem tfX2_doTrade_39 {G : GG} {r : Unit} {H' : Hp} {K5 : Nat → Int32 → Int32 → Int32 → Int32 → Hp → Option (Unit × Hp)} (hK5 : ∀ (a0 : Nat) (a1 : Int32) (a2 : Int32) (a3 : Int32) (a4 : Int32) (H : Hp), K5 a0 a1 a2 a3 a4 H = some (r, H') → Sn G (T0 G none H') mX2_doTrade 5 [some (.ref a0), some (.int a1), some (.int a2), some (.int a3), some (.int a4)] [] H) {a0 : Nat} {a1 : Int32} {a2 : Int32} {a4 : Int32} {s0 : Int32} {s1 : Int32} {s2 : Int32} {H : Hp} (h : fX2_doTrade_39 K5 a0 a1 a2 a4 s0 s1 s2 H = some (r, H')) : Sn G (T0 G none H') mX2_doTrade 39 [some (.ref a0), some (.int a1), some (.int a2), none, some (.int a4)] [.int s2, .int s1, .int s0] H := by
  unfold fX2_doTrade_39 at h
  obtain ⟨x1, H2, hx1, h⟩ := bd2_inv h
  refine sn_calls (av := [.int s0, .int s1, .int s2]) (st := []) (M2 := mX6_put) dX2_doTrade_39 msX6_put mlX2_86 rfl rfl rfl rfl rfl (sX6_put hx1) ?_
  refine sn_blk _ kX2_doTrade_39_0 (pc' := 5) (L' := [some (.ref a0), some (.int a1), some (.int a2), some (.int x1), some (.int (a4 + 1))]) (st' := []) rfl rfl ?_
  exact hK5 _ _ _ _ _ _ h
def bX2_doTrade_5 (K5 : Nat → Int32 → Int32 → Int32 → Int32 → Hp → Option (Unit × Hp)) (a0 : Nat) (a1 : Int32) (a2 : Int32) (a3 : Int32) (a4 : Int32) (H : Hp) : Option (Unit × Hp) :=
  bd (gI H a0 2 0) fun x1 =>
  if (x1 ≤ a4 : Prop) then
    bd (gI H a0 2 1) fun x2 =>
    bd (gI H a0 2 0) fun x3 =>
    bd2 (FX6_then x2 a3 x3 H) fun x4 H5 =>
    bd (gI H5 a0 2 0) fun x6 =>
    bd2 (FX6_then a3 x4 x6 H5) fun x7 H8 =>
    bd (pV H8 a0 2 1 (.int x7)) fun H9 =>
    bd (gI H9 a0 2 2) fun x10 =>
    bd (gI H9 a0 2 0) fun x11 =>
    bd2 (FX6_then x10 a3 x11 H9) fun x12 H13 =>
    bd (gI H13 a0 2 0) fun x14 =>
    bd2 (FX6_then a3 x12 x14 H13) fun x15 H16 =>
    bd (pV H16 a0 2 2 (.int x15)) fun H17 =>
    some ((), H17)
  else
    if (a4 = a1 : Prop) then
      fX2_doTrade_39 K5 a0 a1 a2 a4 a3 a4 a2 H
    else
      if (a4 = a2 : Prop) then
        fX2_doTrade_39 K5 a0 a1 a2 a4 a3 a4 a1 H
      else
        fX2_doTrade_39 K5 a0 a1 a2 a4 a3 a4 a4 H
set_option maxHeartbeats 4000000 in
set_option maxRecDepth 100000 in
theorem tbX2_doTrade_5 {G : GG} {r : Unit} {H' : Hp} {K5 : Nat → Int32 → Int32 → Int32 → Int32 → Hp → Option (Unit × Hp)} (hK5 : ∀ (a0 : Nat) (a1 : Int32) (a2 : Int32) (a3 : Int32) (a4 : Int32) (H : Hp), K5 a0 a1 a2 a3 a4 H = some (r, H') → Sn G (T0 G none H') mX2_doTrade 5 [some (.ref a0), some (.int a1), some (.int a2), some (.int a3), some (.int a4)] [] H) {a0 : Nat} {a1 : Int32} {a2 : Int32} {a3 : Int32} {a4 : Int32} {H : Hp} (h : bX2_doTrade_5 K5 a0 a1 a2 a3 a4 H = some (r, H')) : Sn G (T0 G none H') mX2_doTrade 5 [some (.ref a0), some (.int a1), some (.int a2), some (.int a3), some (.int a4)] [] H := by
  unfold bX2_doTrade_5 at h
  refine sn_blk _ kX2_doTrade_5_0 (pc' := 8) (L' := [some (.ref a0), some (.int a1), some (.int a2), some (.int a3), some (.int a4)]) (st' := [.ref a0, .int a4]) rfl rfl ?_
  obtain ⟨x1, hx1, h⟩ := bd_inv h
  refine sn_gI dX2_doTrade_8 foX2_9 hx1 ?_
  refine sn_icmp_ge (tgt := 49) dX2_doTrade_11 (by decide) (fun c => ?_) (fun c => ?_)
  · rw [if_pos c] at h
    refine sn_blk _ kX2_doTrade_5_1 (pc' := 52) (L' := [some (.ref a0), some (.int a1), some (.int a2), some (.int a3), some (.int a4)]) (st' := [.ref a0, .int a3, .ref a0]) rfl rfl ?_
    obtain ⟨x2, hx2, h⟩ := bd_inv h
    refine sn_gI dX2_doTrade_52 foX2_15 hx2 ?_
    refine sn_blk _ kX2_doTrade_5_2 (pc' := 57) (L' := [some (.ref a0), some (.int a1), some (.int a2), some (.int a3), some (.int a4)]) (st' := [.ref a0, .int a3, .int x2, .int a3, .ref a0]) rfl rfl ?_
    obtain ⟨x3, hx3, h⟩ := bd_inv h
    refine sn_gI dX2_doTrade_57 foX2_9 hx3 ?_
    obtain ⟨x4, H5, hx4, h⟩ := bd2_inv h
    refine sn_calls (av := [.int x2, .int a3, .int x3]) (st := [.int a3, .ref a0]) (M2 := mX6_then) dX2_doTrade_60 msX6_then mlX2_54 rfl rfl rfl rfl rfl (sX6_then hx4) ?_
    refine sn_blk _ kX2_doTrade_5_3 (pc' := 64) (L' := [some (.ref a0), some (.int a1), some (.int a2), some (.int a3), some (.int a4)]) (st' := [.ref a0, .int x4, .int a3, .ref a0]) rfl rfl ?_
    obtain ⟨x6, hx6, h⟩ := bd_inv h
    refine sn_gI dX2_doTrade_64 foX2_9 hx6 ?_
    obtain ⟨x7, H8, hx7, h⟩ := bd2_inv h
    refine sn_calls (av := [.int a3, .int x4, .int x6]) (st := [.ref a0]) (M2 := mX6_then) dX2_doTrade_67 msX6_then mlX2_54 rfl rfl rfl rfl rfl (sX6_then hx7) ?_
    obtain ⟨H9, hH9, h⟩ := bd_inv h
    refine sn_pI dX2_doTrade_70 foX2_15 fpX2_1 hH9 ?_
    refine sn_blk _ kX2_doTrade_5_4 (pc' := 76) (L' := [some (.ref a0), some (.int a1), some (.int a2), some (.int a3), some (.int a4)]) (st' := [.ref a0, .int a3, .ref a0]) rfl rfl ?_
    obtain ⟨x10, hx10, h⟩ := bd_inv h
    refine sn_gI dX2_doTrade_76 foX2_18 hx10 ?_
    refine sn_blk _ kX2_doTrade_5_5 (pc' := 81) (L' := [some (.ref a0), some (.int a1), some (.int a2), some (.int a3), some (.int a4)]) (st' := [.ref a0, .int a3, .int x10, .int a3, .ref a0]) rfl rfl ?_
    obtain ⟨x11, hx11, h⟩ := bd_inv h
    refine sn_gI dX2_doTrade_81 foX2_9 hx11 ?_
    obtain ⟨x12, H13, hx12, h⟩ := bd2_inv h
    refine sn_calls (av := [.int x10, .int a3, .int x11]) (st := [.int a3, .ref a0]) (M2 := mX6_then) dX2_doTrade_84 msX6_then mlX2_54 rfl rfl rfl rfl rfl (sX6_then hx12) ?_
    refine sn_blk _ kX2_doTrade_5_6 (pc' := 88) (L' := [some (.ref a0), some (.int a1), some (.int a2), some (.int a3), some (.int a4)]) (st' := [.ref a0, .int x12, .int a3, .ref a0]) rfl rfl ?_
    obtain ⟨x14, hx14, h⟩ := bd_inv h
    refine sn_gI dX2_doTrade_88 foX2_9 hx14 ?_
    obtain ⟨x15, H16, hx15, h⟩ := bd2_inv h
    refine sn_calls (av := [.int a3, .int x12, .int x14]) (st := [.ref a0]) (M2 := mX6_then) dX2_doTrade_91 msX6_then mlX2_54 rfl rfl rfl rfl rfl (sX6_then hx15) ?_
    obtain ⟨H17, hH17, h⟩ := bd_inv h
    refine sn_pI dX2_doTrade_94 foX2_18 fpX2_2 hH17 ?_
    cases h
    exact sn_vret dX2_doTrade_97 rfl
  · rw [if_neg c] at h
    refine sn_blk _ kX2_doTrade_5_7 (pc' := 20) (L' := [some (.ref a0), some (.int a1), some (.int a2), some (.int a3), some (.int a4)]) (st' := [.int a1, .int a4, .int a4, .int a3]) rfl rfl ?_
    refine sn_icmp_ne (tgt := 27) dX2_doTrade_20 (by decide) (fun c => ?_) (fun c => ?_)
    · rw [if_neg c] at h
      refine sn_blk _ kX2_doTrade_5_8 (pc' := 30) (L' := [some (.ref a0), some (.int a1), some (.int a2), some (.int a3), some (.int a4)]) (st' := [.int a2, .int a4, .int a4, .int a3]) rfl rfl ?_
      refine sn_icmp_ne (tgt := 37) dX2_doTrade_30 (by decide) (fun c => ?_) (fun c => ?_)
      · rw [if_neg c] at h
        refine sn_blk _ kX2_doTrade_5_9 (pc' := 39) (L' := [some (.ref a0), some (.int a1), some (.int a2), some (.int a3), some (.int a4)]) (st' := [.int a4, .int a4, .int a3]) rfl rfl ?_
        refine sn_msk [true, true, true, false, true] (L2 := [some (.ref a0), some (.int a1), some (.int a2), none, some (.int a4)]) rfl ?_
        exact tfX2_doTrade_39 hK5 h
      · rw [if_pos c] at h
        refine sn_blk _ kX2_doTrade_5_10 (pc' := 39) (L' := [some (.ref a0), some (.int a1), some (.int a2), some (.int a3), some (.int a4)]) (st' := [.int a1, .int a4, .int a3]) rfl rfl ?_
        refine sn_msk [true, true, true, false, true] (L2 := [some (.ref a0), some (.int a1), some (.int a2), none, some (.int a4)]) rfl ?_
        exact tfX2_doTrade_39 hK5 h
    · rw [if_pos c] at h
      refine sn_blk _ kX2_doTrade_5_11 (pc' := 39) (L' := [some (.ref a0), some (.int a1), some (.int a2), some (.int a3), some (.int a4)]) (st' := [.int a2, .int a4, .int a3]) rfl rfl ?_
      refine sn_msk [true, true, true, false, true] (L2 := [some (.ref a0), some (.int a1), some (.int a2), none, some (.int a4)]) rfl ?_
      exact tfX2_doTrade_39 hK5 h
def fX2_doTrade_5  : Nat → Nat → Int32 → Int32 → Int32 → Int32 → Hp → Option (Unit × Hp)
  | 0, _, _, _, _, _, _ => none
  | d + 1, a0, a1, a2, a3, a4, H => bX2_doTrade_5 (fX2_doTrade_5  d) a0 a1 a2 a3 a4 H
theorem tfX2_doTrade_5 {G : GG} {r : Unit} {H' : Hp}   : ∀ (d : Nat) {a0 : Nat} {a1 : Int32} {a2 : Int32} {a3 : Int32} {a4 : Int32} {H : Hp}, fX2_doTrade_5  d a0 a1 a2 a3 a4 H = some (r, H') → Sn G (T0 G none H') mX2_doTrade 5 [some (.ref a0), some (.int a1), some (.int a2), some (.int a3), some (.int a4)] [] H := by
  intro d
  induction d with
  | zero => intro a0 a1 a2 a3 a4 H h; cases h
  | succ d ih => intro a0 a1 a2 a3 a4 H h; exact tbX2_doTrade_5 (fun a0 a1 a2 a3 a4 H h => ih h) h
def FX2_doTrade  (a0 : Nat) (a1 : Int32) (a2 : Int32) (H : Hp) : Option (Unit × Hp) :=
  fX2_doTrade_5  4096 a0 a1 a2 0 0 H
set_option maxHeartbeats 4000000 in
set_option maxRecDepth 100000 in
theorem tFX2_doTrade {G : GG} {r : Unit} {H' : Hp}   {a0 : Nat} {a1 : Int32} {a2 : Int32} {H : Hp} (h : FX2_doTrade  a0 a1 a2 H = some (r, H')) : Sn G (T0 G none H') mX2_doTrade 0 [some (.ref a0), some (.int a1), some (.int a2), none, none] [] H := by
  unfold FX2_doTrade at h
  refine sn_blk _ kX2_doTrade_0_0 (pc' := 5) (L' := [some (.ref a0), some (.int a1), some (.int a2), some (.int 0), some (.int 0)]) (st' := []) rfl rfl ?_
  exact tfX2_doTrade_5  4096 h
theorem sX2_doTrade {G : GG} {r : Unit} {H' : Hp} {a0 : Nat} {a1 : Int32} {a2 : Int32} {H : Hp} (h : FX2_doTrade a0 a1 a2 H = some (r, H')) : SM G mX2_doTrade [.ref a0, .int a1, .int a2] H none H' := tFX2_doTrade h
/-! SquareFolds$Gluing.becomeNamed(JI)V -/
theorem kX2_becomeNamed_0_0 : decB cX2_becomeNamed 0 [(.lload_n 1, .null), (.lstore 4, .null), (.iconst 0, .int 0), (.istore 6, .null), (.iconst 0, .int 0), (.istore 7, .null), (.iload_n 3, .null), (.iconst 1, .int 1), (.isub, .null), (.istore 8, .null)] = true := by decide +kernel
theorem kX2_becomeNamed_14_0 : decB cX2_becomeNamed 14 [(.iload 8, .null)] = true := by decide +kernel
theorem kX2_becomeNamed_14_1 : decB cX2_becomeNamed 49 [(.iload_n 3, .null), (.iconst 1, .int 1), (.isub, .null), (.istore 8, .null)] = true := by decide +kernel
theorem kX2_becomeNamed_14_2 : decB cX2_becomeNamed 19 [(.iload 7, .null), (.iload 8, .null), (.lload 4, .null)] = true := by decide +kernel
theorem kX2_becomeNamed_14_3 : decB cX2_becomeNamed 29 [(.l2i, .null)] = true := by decide +kernel
theorem kX2_becomeNamed_14_4 : decB cX2_becomeNamed 33 [(.istore 7, .null), (.lload 4, .null)] = true := by decide +kernel
theorem kX2_becomeNamed_14_5 : decB cX2_becomeNamed 41 [(.lstore 4, .null), (.iinc 8 (-1), .int (-1)), (.goto (-32), .retAddr 14)] = true := by decide +kernel
theorem kX2_becomeNamed_54_0 : decB cX2_becomeNamed 54 [(.iload 8, .null)] = true := by decide +kernel
theorem kX2_becomeNamed_54_1 : decB cX2_becomeNamed 89 [(.aload_n 0, .null), (.iload_n 3, .null), (.iload 6, .null), (.iload 7, .null)] = true := by decide +kernel
theorem kX2_becomeNamed_54_2 : decB cX2_becomeNamed 59 [(.iload 6, .null), (.iload 8, .null), (.lload 4, .null)] = true := by decide +kernel
theorem kX2_becomeNamed_54_3 : decB cX2_becomeNamed 69 [(.l2i, .null)] = true := by decide +kernel
theorem kX2_becomeNamed_54_4 : decB cX2_becomeNamed 73 [(.istore 6, .null), (.lload 4, .null)] = true := by decide +kernel
theorem kX2_becomeNamed_54_5 : decB cX2_becomeNamed 81 [(.lstore 4, .null), (.iinc 8 (-1), .int (-1)), (.goto (-32), .retAddr 54)] = true := by decide +kernel
theorem dX2_becomeNamed_16 : decode cX2_becomeNamed 16 = .ok (.ifCond .lt 33, 3) := by decide +kernel
theorem dX2_becomeNamed_25 : decode cX2_becomeNamed 25 = .ok (.ldc2_w 93, 3) := by decide +kernel
theorem dX2_becomeNamed_28 : decode cX2_becomeNamed 28 = .ok (.lrem, 1) := by decide +kernel
theorem dX2_becomeNamed_30 : decode cX2_becomeNamed 30 = .ok (.invokestatic 86, 3) := by decide +kernel
theorem dX2_becomeNamed_37 : decode cX2_becomeNamed 37 = .ok (.ldc2_w 93, 3) := by decide +kernel
theorem dX2_becomeNamed_40 : decode cX2_becomeNamed 40 = .ok (.ldiv, 1) := by decide +kernel
theorem dX2_becomeNamed_56 : decode cX2_becomeNamed 56 = .ok (.ifCond .lt 33, 3) := by decide +kernel
theorem dX2_becomeNamed_65 : decode cX2_becomeNamed 65 = .ok (.ldc2_w 93, 3) := by decide +kernel
theorem dX2_becomeNamed_68 : decode cX2_becomeNamed 68 = .ok (.lrem, 1) := by decide +kernel
theorem dX2_becomeNamed_70 : decode cX2_becomeNamed 70 = .ok (.invokestatic 86, 3) := by decide +kernel
theorem dX2_becomeNamed_77 : decode cX2_becomeNamed 77 = .ok (.ldc2_w 93, 3) := by decide +kernel
theorem dX2_becomeNamed_80 : decode cX2_becomeNamed 80 = .ok (.ldiv, 1) := by decide +kernel
theorem dX2_becomeNamed_95 : decode cX2_becomeNamed 95 = .ok (.invokevirtual 103, 3) := by decide +kernel
theorem dX2_becomeNamed_98 : decode cX2_becomeNamed 98 = .ok (.return_, 1) := by decide +kernel
def bX2_becomeNamed_54 (K54 : Nat → Int32 → Int64 → Int32 → Int32 → Int32 → Hp → Option (Unit × Hp)) (a0 : Nat) (a3 : Int32) (a4 : Int64) (a6 : Int32) (a7 : Int32) (a8 : Int32) (H : Hp) : Option (Unit × Hp) :=
  if (a8 < 0 : Prop) then
    gp (isO H a0 2 = true) (
      bd2 (FX2_become a0 a3 a6 a7 H) fun _ H2 =>
      some ((), H2)
      )
  else
    bd2 (FX6_put a6 a8 (Int64.toInt32 (rJ a4 10)) H) fun x3 H4 =>
    K54 a0 a3 (a4 / 10) x3 a7 (a8 + (-1)) H4
set_option maxHeartbeats 4000000 in
set_option maxRecDepth 100000 in
theorem tbX2_becomeNamed_54 {G : GG} {r : Unit} {H' : Hp} {K54 : Nat → Int32 → Int64 → Int32 → Int32 → Int32 → Hp → Option (Unit × Hp)} (hK54 : ∀ (a0 : Nat) (a3 : Int32) (a4 : Int64) (a6 : Int32) (a7 : Int32) (a8 : Int32) (H : Hp), K54 a0 a3 a4 a6 a7 a8 H = some (r, H') → Sn G (T0 G none H') mX2_becomeNamed 54 [some (.ref a0), none, none, some (.int a3), some (.long a4), none, some (.int a6), some (.int a7), some (.int a8)] [] H) {a0 : Nat} {a3 : Int32} {a4 : Int64} {a6 : Int32} {a7 : Int32} {a8 : Int32} {H : Hp} (h : bX2_becomeNamed_54 K54 a0 a3 a4 a6 a7 a8 H = some (r, H')) : Sn G (T0 G none H') mX2_becomeNamed 54 [some (.ref a0), none, none, some (.int a3), some (.long a4), none, some (.int a6), some (.int a7), some (.int a8)] [] H := by
  unfold bX2_becomeNamed_54 at h
  refine sn_blk _ kX2_becomeNamed_54_0 (pc' := 56) (L' := [some (.ref a0), none, none, some (.int a3), some (.long a4), none, some (.int a6), some (.int a7), some (.int a8)]) (st' := [.int a8]) rfl rfl ?_
  refine sn_if_lt (tgt := 89) dX2_becomeNamed_56 (by decide) (fun c => ?_) (fun c => ?_)
  · rw [if_pos c] at h
    refine sn_blk _ kX2_becomeNamed_54_1 (pc' := 95) (L' := [some (.ref a0), none, none, some (.int a3), some (.long a4), none, some (.int a6), some (.int a7), some (.int a8)]) (st' := [.int a7, .int a6, .int a3, .ref a0]) rfl rfl ?_
    obtain ⟨ho, h⟩ := gp_inv h
    obtain ⟨fs, ho⟩ := isO_inv ho
    obtain ⟨x1, H2, hx1, h⟩ := bd2_inv h
    refine sn_callv (av := [.int a3, .int a6, .int a7]) (st := []) (M2 := mX2_become) dX2_becomeNamed_95 msX2_become mlX2_103 rfl rfl rfl rfl rfl ho (sX2_become hx1) ?_
    cases h
    exact sn_vret dX2_becomeNamed_98 rfl
  · rw [if_neg c] at h
    refine sn_blk _ kX2_becomeNamed_54_2 (pc' := 65) (L' := [some (.ref a0), none, none, some (.int a3), some (.long a4), none, some (.int a6), some (.int a7), some (.int a8)]) (st' := [.long a4, .int a8, .int a6]) rfl rfl ?_
    refine sn_ldc2 dX2_becomeNamed_65 kcX2_93 ?_
    refine sn_lrem dX2_becomeNamed_68 (by decide) ?_
    refine sn_blk _ kX2_becomeNamed_54_3 (pc' := 70) (L' := [some (.ref a0), none, none, some (.int a3), some (.long a4), none, some (.int a6), some (.int a7), some (.int a8)]) (st' := [.int (Int64.toInt32 (rJ a4 10)), .int a8, .int a6]) rfl rfl ?_
    obtain ⟨x3, H4, hx3, h⟩ := bd2_inv h
    refine sn_calls (av := [.int a6, .int a8, .int (Int64.toInt32 (rJ a4 10))]) (st := []) (M2 := mX6_put) dX2_becomeNamed_70 msX6_put mlX2_86 rfl rfl rfl rfl rfl (sX6_put hx3) ?_
    refine sn_blk _ kX2_becomeNamed_54_4 (pc' := 77) (L' := [some (.ref a0), none, none, some (.int a3), some (.long a4), none, some (.int x3), some (.int a7), some (.int a8)]) (st' := [.long a4]) rfl rfl ?_
    refine sn_ldc2 dX2_becomeNamed_77 kcX2_93 ?_
    refine sn_ldiv dX2_becomeNamed_80 (by decide) ?_
    refine sn_blk _ kX2_becomeNamed_54_5 (pc' := 54) (L' := [some (.ref a0), none, none, some (.int a3), some (.long (a4 / 10)), none, some (.int x3), some (.int a7), some (.int (a8 + (-1)))]) (st' := []) rfl rfl ?_
    exact hK54 _ _ _ _ _ _ _ h
def fX2_becomeNamed_54  : Nat → Nat → Int32 → Int64 → Int32 → Int32 → Int32 → Hp → Option (Unit × Hp)
  | 0, _, _, _, _, _, _, _ => none
  | d + 1, a0, a3, a4, a6, a7, a8, H => bX2_becomeNamed_54 (fX2_becomeNamed_54  d) a0 a3 a4 a6 a7 a8 H
theorem tfX2_becomeNamed_54 {G : GG} {r : Unit} {H' : Hp}   : ∀ (d : Nat) {a0 : Nat} {a3 : Int32} {a4 : Int64} {a6 : Int32} {a7 : Int32} {a8 : Int32} {H : Hp}, fX2_becomeNamed_54  d a0 a3 a4 a6 a7 a8 H = some (r, H') → Sn G (T0 G none H') mX2_becomeNamed 54 [some (.ref a0), none, none, some (.int a3), some (.long a4), none, some (.int a6), some (.int a7), some (.int a8)] [] H := by
  intro d
  induction d with
  | zero => intro a0 a3 a4 a6 a7 a8 H h; cases h
  | succ d ih => intro a0 a3 a4 a6 a7 a8 H h; exact tbX2_becomeNamed_54 (fun a0 a3 a4 a6 a7 a8 H h => ih h) h
def bX2_becomeNamed_14 (K14 : Nat → Int32 → Int64 → Int32 → Int32 → Int32 → Hp → Option (Unit × Hp)) (a0 : Nat) (a3 : Int32) (a4 : Int64) (a6 : Int32) (a7 : Int32) (a8 : Int32) (H : Hp) : Option (Unit × Hp) :=
  if (a8 < 0 : Prop) then
    fX2_becomeNamed_54  4096 a0 a3 a4 a6 a7 (a3 - 1) H
  else
    bd2 (FX6_put a7 a8 (Int64.toInt32 (rJ a4 10)) H) fun x1 H2 =>
    K14 a0 a3 (a4 / 10) a6 x1 (a8 + (-1)) H2
set_option maxHeartbeats 4000000 in
set_option maxRecDepth 100000 in
theorem tbX2_becomeNamed_14 {G : GG} {r : Unit} {H' : Hp} {K14 : Nat → Int32 → Int64 → Int32 → Int32 → Int32 → Hp → Option (Unit × Hp)} (hK14 : ∀ (a0 : Nat) (a3 : Int32) (a4 : Int64) (a6 : Int32) (a7 : Int32) (a8 : Int32) (H : Hp), K14 a0 a3 a4 a6 a7 a8 H = some (r, H') → Sn G (T0 G none H') mX2_becomeNamed 14 [some (.ref a0), none, none, some (.int a3), some (.long a4), none, some (.int a6), some (.int a7), some (.int a8)] [] H) {a0 : Nat} {a3 : Int32} {a4 : Int64} {a6 : Int32} {a7 : Int32} {a8 : Int32} {H : Hp} (h : bX2_becomeNamed_14 K14 a0 a3 a4 a6 a7 a8 H = some (r, H')) : Sn G (T0 G none H') mX2_becomeNamed 14 [some (.ref a0), none, none, some (.int a3), some (.long a4), none, some (.int a6), some (.int a7), some (.int a8)] [] H := by
  unfold bX2_becomeNamed_14 at h
  refine sn_blk _ kX2_becomeNamed_14_0 (pc' := 16) (L' := [some (.ref a0), none, none, some (.int a3), some (.long a4), none, some (.int a6), some (.int a7), some (.int a8)]) (st' := [.int a8]) rfl rfl ?_
  refine sn_if_lt (tgt := 49) dX2_becomeNamed_16 (by decide) (fun c => ?_) (fun c => ?_)
  · rw [if_pos c] at h
    refine sn_blk _ kX2_becomeNamed_14_1 (pc' := 54) (L' := [some (.ref a0), none, none, some (.int a3), some (.long a4), none, some (.int a6), some (.int a7), some (.int (a3 - 1))]) (st' := []) rfl rfl ?_
    exact tfX2_becomeNamed_54  4096 h
  · rw [if_neg c] at h
    refine sn_blk _ kX2_becomeNamed_14_2 (pc' := 25) (L' := [some (.ref a0), none, none, some (.int a3), some (.long a4), none, some (.int a6), some (.int a7), some (.int a8)]) (st' := [.long a4, .int a8, .int a7]) rfl rfl ?_
    refine sn_ldc2 dX2_becomeNamed_25 kcX2_93 ?_
    refine sn_lrem dX2_becomeNamed_28 (by decide) ?_
    refine sn_blk _ kX2_becomeNamed_14_3 (pc' := 30) (L' := [some (.ref a0), none, none, some (.int a3), some (.long a4), none, some (.int a6), some (.int a7), some (.int a8)]) (st' := [.int (Int64.toInt32 (rJ a4 10)), .int a8, .int a7]) rfl rfl ?_
    obtain ⟨x1, H2, hx1, h⟩ := bd2_inv h
    refine sn_calls (av := [.int a7, .int a8, .int (Int64.toInt32 (rJ a4 10))]) (st := []) (M2 := mX6_put) dX2_becomeNamed_30 msX6_put mlX2_86 rfl rfl rfl rfl rfl (sX6_put hx1) ?_
    refine sn_blk _ kX2_becomeNamed_14_4 (pc' := 37) (L' := [some (.ref a0), none, none, some (.int a3), some (.long a4), none, some (.int a6), some (.int x1), some (.int a8)]) (st' := [.long a4]) rfl rfl ?_
    refine sn_ldc2 dX2_becomeNamed_37 kcX2_93 ?_
    refine sn_ldiv dX2_becomeNamed_40 (by decide) ?_
    refine sn_blk _ kX2_becomeNamed_14_5 (pc' := 14) (L' := [some (.ref a0), none, none, some (.int a3), some (.long (a4 / 10)), none, some (.int a6), some (.int x1), some (.int (a8 + (-1)))]) (st' := []) rfl rfl ?_
    exact hK14 _ _ _ _ _ _ _ h
def fX2_becomeNamed_14  : Nat → Nat → Int32 → Int64 → Int32 → Int32 → Int32 → Hp → Option (Unit × Hp)
  | 0, _, _, _, _, _, _, _ => none
  | d + 1, a0, a3, a4, a6, a7, a8, H => bX2_becomeNamed_14 (fX2_becomeNamed_14  d) a0 a3 a4 a6 a7 a8 H
theorem tfX2_becomeNamed_14 {G : GG} {r : Unit} {H' : Hp}   : ∀ (d : Nat) {a0 : Nat} {a3 : Int32} {a4 : Int64} {a6 : Int32} {a7 : Int32} {a8 : Int32} {H : Hp}, fX2_becomeNamed_14  d a0 a3 a4 a6 a7 a8 H = some (r, H') → Sn G (T0 G none H') mX2_becomeNamed 14 [some (.ref a0), none, none, some (.int a3), some (.long a4), none, some (.int a6), some (.int a7), some (.int a8)] [] H := by
  intro d
  induction d with
  | zero => intro a0 a3 a4 a6 a7 a8 H h; cases h
  | succ d ih => intro a0 a3 a4 a6 a7 a8 H h; exact tbX2_becomeNamed_14 (fun a0 a3 a4 a6 a7 a8 H h => ih h) h
def FX2_becomeNamed  (a0 : Nat) (a1 : Int64) (a3 : Int32) (H : Hp) : Option (Unit × Hp) :=
  fX2_becomeNamed_14  4096 a0 a3 a1 0 0 (a3 - 1) H
set_option maxHeartbeats 4000000 in
set_option maxRecDepth 100000 in
theorem tFX2_becomeNamed {G : GG} {r : Unit} {H' : Hp}   {a0 : Nat} {a1 : Int64} {a3 : Int32} {H : Hp} (h : FX2_becomeNamed  a0 a1 a3 H = some (r, H')) : Sn G (T0 G none H') mX2_becomeNamed 0 [some (.ref a0), some (.long a1), none, some (.int a3), none, none, none, none, none] [] H := by
  unfold FX2_becomeNamed at h
  refine sn_blk _ kX2_becomeNamed_0_0 (pc' := 14) (L' := [some (.ref a0), some (.long a1), none, some (.int a3), some (.long a1), none, some (.int 0), some (.int 0), some (.int (a3 - 1))]) (st' := []) rfl rfl ?_
  refine sn_msk [true, false, true, true, true, true, true, true, true] (L2 := [some (.ref a0), none, none, some (.int a3), some (.long a1), none, some (.int 0), some (.int 0), some (.int (a3 - 1))]) rfl ?_
  exact tfX2_becomeNamed_14  4096 h
theorem sX2_becomeNamed {G : GG} {r : Unit} {H' : Hp} {a0 : Nat} {a1 : Int64} {a3 : Int32} {H : Hp} (h : FX2_becomeNamed a0 a1 a3 H = some (r, H')) : SM G mX2_becomeNamed [.ref a0, .long a1, .int a3] H none H' := tFX2_becomeNamed h
/-! SquareFolds$Gluing.didShear(I)Z -/
theorem kX2_didShear_0_0 : decB cX2_didShear 0 [(.aload_n 0, .null), (.iload_n 1, .null)] = true := by decide +kernel
theorem kX2_didShear_0_1 : decB cX2_didShear 5 [(.iconst 1, .int 1)] = true := by decide +kernel
theorem dX2_didShear_2 : decode cX2_didShear 2 = .ok (.invokevirtual 109, 3) := by decide +kernel
theorem dX2_didShear_6 : decode cX2_didShear 6 = .ok (.ireturn, 1) := by decide +kernel
def FX2_didShear  (a0 : Nat) (a1 : Int32) (H : Hp) : Option (Int32 × Hp) :=
  gp (isO H a0 2 = true) (
    bd2 (FX2_doShear a0 a1 H) fun _ H2 =>
    some (1, H2)
    )
set_option maxHeartbeats 4000000 in
set_option maxRecDepth 100000 in
theorem tFX2_didShear {G : GG} {r : Int32} {H' : Hp}   {a0 : Nat} {a1 : Int32} {H : Hp} (h : FX2_didShear  a0 a1 H = some (r, H')) : Sn G (T0 G (some (.int r)) H') mX2_didShear 0 [some (.ref a0), some (.int a1)] [] H := by
  unfold FX2_didShear at h
  refine sn_blk _ kX2_didShear_0_0 (pc' := 2) (L' := [some (.ref a0), some (.int a1)]) (st' := [.int a1, .ref a0]) rfl rfl ?_
  obtain ⟨ho, h⟩ := gp_inv h
  obtain ⟨fs, ho⟩ := isO_inv ho
  obtain ⟨x1, H2, hx1, h⟩ := bd2_inv h
  refine sn_callv (av := [.int a1]) (st := []) (M2 := mX2_doShear) dX2_didShear_2 msX2_doShear mlX2_109 rfl rfl rfl rfl rfl ho (sX2_doShear hx1) ?_
  refine sn_blk _ kX2_didShear_0_1 (pc' := 6) (L' := [some (.ref a0), some (.int a1)]) (st' := [.int 1]) rfl rfl ?_
  cases h
  exact sn_iret (ty := .boolean) dX2_didShear_6 rfl rfl
theorem sX2_didShear {G : GG} {r : Int32} {H' : Hp} {a0 : Nat} {a1 : Int32} {H : Hp} (h : FX2_didShear a0 a1 H = some (r, H')) : SM G mX2_didShear [.ref a0, .int a1] H (some (.int r)) H' := tFX2_didShear h
/-! SquareFolds$Gluing.didTrade(II)Z -/
theorem kX2_didTrade_0_0 : decB cX2_didTrade 0 [(.aload_n 0, .null), (.iload_n 1, .null)] = true := by decide +kernel
theorem kX2_didTrade_0_1 : decB cX2_didTrade 21 [(.iconst 0, .int 0)] = true := by decide +kernel
theorem kX2_didTrade_0_2 : decB cX2_didTrade 8 [(.aload_n 0, .null), (.iload_n 2, .null)] = true := by decide +kernel
theorem kX2_didTrade_0_3 : decB cX2_didTrade 21 [(.iconst 0, .int 0)] = true := by decide +kernel
theorem kX2_didTrade_0_4 : decB cX2_didTrade 16 [(.iload_n 1, .null), (.iload_n 2, .null)] = true := by decide +kernel
theorem kX2_didTrade_0_5 : decB cX2_didTrade 23 [(.aload_n 0, .null), (.iload_n 1, .null), (.iload_n 2, .null)] = true := by decide +kernel
theorem kX2_didTrade_0_6 : decB cX2_didTrade 29 [(.iconst 1, .int 1)] = true := by decide +kernel
theorem kX2_didTrade_0_7 : decB cX2_didTrade 21 [(.iconst 0, .int 0)] = true := by decide +kernel
theorem dX2_didTrade_2 : decode cX2_didTrade 2 = .ok (.invokevirtual 132, 3) := by decide +kernel
theorem dX2_didTrade_5 : decode cX2_didTrade 5 = .ok (.ifCond .eq 16, 3) := by decide +kernel
theorem dX2_didTrade_10 : decode cX2_didTrade 10 = .ok (.invokevirtual 132, 3) := by decide +kernel
theorem dX2_didTrade_13 : decode cX2_didTrade 13 = .ok (.ifCond .eq 8, 3) := by decide +kernel
theorem dX2_didTrade_18 : decode cX2_didTrade 18 = .ok (.if_icmp .ne 5, 3) := by decide +kernel
theorem dX2_didTrade_22 : decode cX2_didTrade 22 = .ok (.ireturn, 1) := by decide +kernel
theorem dX2_didTrade_26 : decode cX2_didTrade 26 = .ok (.invokevirtual 121, 3) := by decide +kernel
theorem dX2_didTrade_30 : decode cX2_didTrade 30 = .ok (.ireturn, 1) := by decide +kernel
def FX2_didTrade  (a0 : Nat) (a1 : Int32) (a2 : Int32) (H : Hp) : Option (Int32 × Hp) :=
  gp (isO H a0 2 = true) (
    bd2 (FX2_has a0 a1 H) fun x1 H2 =>
    if (x1 = 0 : Prop) then
      some (0, H2)
    else
      gp (isO H2 a0 2 = true) (
        bd2 (FX2_has a0 a2 H2) fun x3 H4 =>
        if (x3 = 0 : Prop) then
          some (0, H4)
        else
          if (a1 = a2 : Prop) then
            some (0, H4)
          else
            gp (isO H4 a0 2 = true) (
              bd2 (FX2_doTrade a0 a1 a2 H4) fun _ H6 =>
              some (1, H6)
              )
        )
    )
set_option maxHeartbeats 4000000 in
set_option maxRecDepth 100000 in
theorem tFX2_didTrade {G : GG} {r : Int32} {H' : Hp}   {a0 : Nat} {a1 : Int32} {a2 : Int32} {H : Hp} (h : FX2_didTrade  a0 a1 a2 H = some (r, H')) : Sn G (T0 G (some (.int r)) H') mX2_didTrade 0 [some (.ref a0), some (.int a1), some (.int a2)] [] H := by
  unfold FX2_didTrade at h
  refine sn_blk _ kX2_didTrade_0_0 (pc' := 2) (L' := [some (.ref a0), some (.int a1), some (.int a2)]) (st' := [.int a1, .ref a0]) rfl rfl ?_
  obtain ⟨ho, h⟩ := gp_inv h
  obtain ⟨fs, ho⟩ := isO_inv ho
  obtain ⟨x1, H2, hx1, h⟩ := bd2_inv h
  refine sn_callv (av := [.int a1]) (st := []) (M2 := mX2_has) dX2_didTrade_2 msX2_has mlX2_132 rfl rfl rfl rfl rfl ho (sX2_has hx1) ?_
  refine sn_if_eq (tgt := 21) dX2_didTrade_5 (by decide) (fun c => ?_) (fun c => ?_)
  · rw [if_pos c] at h
    refine sn_blk _ kX2_didTrade_0_1 (pc' := 22) (L' := [some (.ref a0), some (.int a1), some (.int a2)]) (st' := [.int 0]) rfl rfl ?_
    cases h
    exact sn_iret (ty := .boolean) dX2_didTrade_22 rfl rfl
  · rw [if_neg c] at h
    refine sn_blk _ kX2_didTrade_0_2 (pc' := 10) (L' := [some (.ref a0), some (.int a1), some (.int a2)]) (st' := [.int a2, .ref a0]) rfl rfl ?_
    obtain ⟨ho, h⟩ := gp_inv h
    obtain ⟨fs, ho⟩ := isO_inv ho
    obtain ⟨x3, H4, hx3, h⟩ := bd2_inv h
    refine sn_callv (av := [.int a2]) (st := []) (M2 := mX2_has) dX2_didTrade_10 msX2_has mlX2_132 rfl rfl rfl rfl rfl ho (sX2_has hx3) ?_
    refine sn_if_eq (tgt := 21) dX2_didTrade_13 (by decide) (fun c => ?_) (fun c => ?_)
    · rw [if_pos c] at h
      refine sn_blk _ kX2_didTrade_0_3 (pc' := 22) (L' := [some (.ref a0), some (.int a1), some (.int a2)]) (st' := [.int 0]) rfl rfl ?_
      cases h
      exact sn_iret (ty := .boolean) dX2_didTrade_22 rfl rfl
    · rw [if_neg c] at h
      refine sn_blk _ kX2_didTrade_0_4 (pc' := 18) (L' := [some (.ref a0), some (.int a1), some (.int a2)]) (st' := [.int a2, .int a1]) rfl rfl ?_
      refine sn_icmp_ne (tgt := 23) dX2_didTrade_18 (by decide) (fun c => ?_) (fun c => ?_)
      · rw [if_neg c] at h
        refine sn_blk _ kX2_didTrade_0_5 (pc' := 26) (L' := [some (.ref a0), some (.int a1), some (.int a2)]) (st' := [.int a2, .int a1, .ref a0]) rfl rfl ?_
        obtain ⟨ho, h⟩ := gp_inv h
        obtain ⟨fs, ho⟩ := isO_inv ho
        obtain ⟨x5, H6, hx5, h⟩ := bd2_inv h
        refine sn_callv (av := [.int a1, .int a2]) (st := []) (M2 := mX2_doTrade) dX2_didTrade_26 msX2_doTrade mlX2_121 rfl rfl rfl rfl rfl ho (sX2_doTrade hx5) ?_
        refine sn_blk _ kX2_didTrade_0_6 (pc' := 30) (L' := [some (.ref a0), some (.int a1), some (.int a2)]) (st' := [.int 1]) rfl rfl ?_
        cases h
        exact sn_iret (ty := .boolean) dX2_didTrade_30 rfl rfl
      · rw [if_pos c] at h
        refine sn_blk _ kX2_didTrade_0_7 (pc' := 22) (L' := [some (.ref a0), some (.int a1), some (.int a2)]) (st' := [.int 0]) rfl rfl ?_
        cases h
        exact sn_iret (ty := .boolean) dX2_didTrade_22 rfl rfl
theorem sX2_didTrade {G : GG} {r : Int32} {H' : Hp} {a0 : Nat} {a1 : Int32} {a2 : Int32} {H : Hp} (h : FX2_didTrade a0 a1 a2 H = some (r, H')) : SM G mX2_didTrade [.ref a0, .int a1, .int a2] H (some (.int r)) H' := tFX2_didTrade h
/-! SquareFolds$Gluing.tryTold(I)Z -/
theorem kX2_tryTold_0_0 : decB cX2_tryTold 0 [(.iload_n 1, .null), (.bipush 100, .int 100)] = true := by decide +kernel
theorem kX2_tryTold_0_1 : decB cX2_tryTold 4 [(.bipush 10, .int 10)] = true := by decide +kernel
theorem kX2_tryTold_0_2 : decB cX2_tryTold 7 [(.istore_n 2, .null), (.iload_n 1, .null), (.bipush 10, .int 10)] = true := by decide +kernel
theorem kX2_tryTold_0_3 : decB cX2_tryTold 12 [(.bipush 10, .int 10)] = true := by decide +kernel
theorem kX2_tryTold_0_4 : decB cX2_tryTold 15 [(.istore_n 3, .null), (.iload_n 1, .null), (.bipush 10, .int 10)] = true := by decide +kernel
theorem kX2_tryTold_0_5 : decB cX2_tryTold 20 [(.istore 4, .null), (.iload_n 1, .null), (.sipush 1000, .int 1000)] = true := by decide +kernel
theorem kX2_tryTold_0_6 : decB cX2_tryTold 101 [(.iload_n 2, .null)] = true := by decide +kernel
theorem kX2_tryTold_0_7 : decB cX2_tryTold 119 [(.iconst 0, .int 0)] = true := by decide +kernel
theorem kX2_tryTold_0_8 : decB cX2_tryTold 105 [(.aload_n 0, .null), (.iload_n 3, .null), (.iload 4, .null)] = true := by decide +kernel
theorem kX2_tryTold_0_9 : decB cX2_tryTold 119 [(.iconst 0, .int 0)] = true := by decide +kernel
theorem kX2_tryTold_0_10 : decB cX2_tryTold 115 [(.iconst 1, .int 1), (.goto 4, .retAddr 120)] = true := by decide +kernel
theorem kX2_tryTold_0_11 : decB cX2_tryTold 121 [(.iload 4, .null)] = true := by decide +kernel
theorem kX2_tryTold_0_12 : decB cX2_tryTold 158 [(.iconst 0, .int 0)] = true := by decide +kernel
theorem kX2_tryTold_0_13 : decB cX2_tryTold 126 [(.aload_n 0, .null), (.iload_n 2, .null)] = true := by decide +kernel
theorem kX2_tryTold_0_14 : decB cX2_tryTold 158 [(.iconst 0, .int 0)] = true := by decide +kernel
theorem kX2_tryTold_0_15 : decB cX2_tryTold 134 [(.aload_n 0, .null), (.iload_n 3, .null)] = true := by decide +kernel
theorem kX2_tryTold_0_16 : decB cX2_tryTold 158 [(.iconst 0, .int 0)] = true := by decide +kernel
theorem kX2_tryTold_0_17 : decB cX2_tryTold 142 [(.aload_n 0, .null), (.iload_n 2, .null)] = true := by decide +kernel
theorem kX2_tryTold_0_18 : decB cX2_tryTold 147 [(.iload_n 3, .null)] = true := by decide +kernel
theorem kX2_tryTold_0_19 : decB cX2_tryTold 158 [(.iconst 0, .int 0)] = true := by decide +kernel
theorem kX2_tryTold_0_20 : decB cX2_tryTold 154 [(.iconst 1, .int 1), (.goto 4, .retAddr 159)] = true := by decide +kernel
theorem kX2_tryTold_0_21 : decB cX2_tryTold 160 [(.iload_n 2, .null)] = true := by decide +kernel
theorem kX2_tryTold_0_22 : decB cX2_tryTold 181 [(.iconst 0, .int 0)] = true := by decide +kernel
theorem kX2_tryTold_0_23 : decB cX2_tryTold 164 [(.iload_n 3, .null)] = true := by decide +kernel
theorem kX2_tryTold_0_24 : decB cX2_tryTold 181 [(.iconst 0, .int 0)] = true := by decide +kernel
theorem kX2_tryTold_0_25 : decB cX2_tryTold 168 [(.aload_n 0, .null)] = true := by decide +kernel
theorem kX2_tryTold_0_26 : decB cX2_tryTold 172 [(.iload 4, .null)] = true := by decide +kernel
theorem kX2_tryTold_0_27 : decB cX2_tryTold 181 [(.iconst 0, .int 0)] = true := by decide +kernel
theorem kX2_tryTold_0_28 : decB cX2_tryTold 177 [(.iconst 1, .int 1), (.goto 4, .retAddr 182)] = true := by decide +kernel
theorem kX2_tryTold_0_29 : decB cX2_tryTold 183 [(.iload_n 3, .null)] = true := by decide +kernel
theorem kX2_tryTold_0_30 : decB cX2_tryTold 209 [(.iconst 0, .int 0)] = true := by decide +kernel
theorem kX2_tryTold_0_31 : decB cX2_tryTold 187 [(.aload_n 0, .null), (.iload_n 2, .null)] = true := by decide +kernel
theorem kX2_tryTold_0_32 : decB cX2_tryTold 209 [(.iconst 0, .int 0)] = true := by decide +kernel
theorem kX2_tryTold_0_33 : decB cX2_tryTold 195 [(.aload_n 0, .null), (.iload_n 2, .null)] = true := by decide +kernel
theorem kX2_tryTold_0_34 : decB cX2_tryTold 200 [(.iload 4, .null)] = true := by decide +kernel
theorem kX2_tryTold_0_35 : decB cX2_tryTold 209 [(.iconst 0, .int 0)] = true := by decide +kernel
theorem kX2_tryTold_0_36 : decB cX2_tryTold 205 [(.iconst 1, .int 1), (.goto 4, .retAddr 210)] = true := by decide +kernel
theorem kX2_tryTold_0_37 : decB cX2_tryTold 211 [(.iconst 0, .int 0)] = true := by decide +kernel
theorem kX2_tryTold_68_0 : decB cX2_tryTold 68 [(.iload_n 2, .null)] = true := by decide +kernel
theorem kX2_tryTold_68_1 : decB cX2_tryTold 99 [(.iconst 0, .int 0)] = true := by decide +kernel
theorem kX2_tryTold_68_2 : decB cX2_tryTold 72 [(.iload_n 3, .null)] = true := by decide +kernel
theorem kX2_tryTold_68_3 : decB cX2_tryTold 99 [(.iconst 0, .int 0)] = true := by decide +kernel
theorem kX2_tryTold_68_4 : decB cX2_tryTold 76 [(.iload 4, .null)] = true := by decide +kernel
theorem kX2_tryTold_68_5 : decB cX2_tryTold 99 [(.iconst 0, .int 0)] = true := by decide +kernel
theorem kX2_tryTold_68_6 : decB cX2_tryTold 81 [(.aload_n 0, .null), (.iload_n 1, .null), (.sipush 1000, .int 1000)] = true := by decide +kernel
theorem kX2_tryTold_68_7 : decB cX2_tryTold 87 [(.iconst 1, .int 1), (.isub, .null)] = true := by decide +kernel
theorem kX2_tryTold_68_8 : decB cX2_tryTold 99 [(.iconst 0, .int 0)] = true := by decide +kernel
theorem kX2_tryTold_68_9 : decB cX2_tryTold 95 [(.iconst 1, .int 1), (.goto 4, .retAddr 100)] = true := by decide +kernel
theorem dX2_tryTold_3 : decode cX2_tryTold 3 = .ok (.idiv, 1) := by decide +kernel
theorem dX2_tryTold_6 : decode cX2_tryTold 6 = .ok (.irem, 1) := by decide +kernel
theorem dX2_tryTold_11 : decode cX2_tryTold 11 = .ok (.idiv, 1) := by decide +kernel
theorem dX2_tryTold_14 : decode cX2_tryTold 14 = .ok (.irem, 1) := by decide +kernel
theorem dX2_tryTold_19 : decode cX2_tryTold 19 = .ok (.irem, 1) := by decide +kernel
theorem dX2_tryTold_26 : decode cX2_tryTold 26 = .ok (.idiv, 1) := by decide +kernel
theorem dX2_tryTold_27 : decode cX2_tryTold 27 = .ok (.tableswitch 184 1 7 #[41, 41, 41, 74, 94, 133, 156], 41) := by decide +kernel
theorem dX2_tryTold_69 : decode cX2_tryTold 69 = .ok (.ifCond .ne 30, 3) := by decide +kernel
theorem dX2_tryTold_73 : decode cX2_tryTold 73 = .ok (.ifCond .ne 26, 3) := by decide +kernel
theorem dX2_tryTold_78 : decode cX2_tryTold 78 = .ok (.ifCond .ne 21, 3) := by decide +kernel
theorem dX2_tryTold_86 : decode cX2_tryTold 86 = .ok (.idiv, 1) := by decide +kernel
theorem dX2_tryTold_89 : decode cX2_tryTold 89 = .ok (.invokevirtual 125, 3) := by decide +kernel
theorem dX2_tryTold_92 : decode cX2_tryTold 92 = .ok (.ifCond .eq 7, 3) := by decide +kernel
theorem dX2_tryTold_100 : decode cX2_tryTold 100 = .ok (.ireturn, 1) := by decide +kernel
theorem dX2_tryTold_102 : decode cX2_tryTold 102 = .ok (.ifCond .ne 17, 3) := by decide +kernel
theorem dX2_tryTold_109 : decode cX2_tryTold 109 = .ok (.invokevirtual 129, 3) := by decide +kernel
theorem dX2_tryTold_112 : decode cX2_tryTold 112 = .ok (.ifCond .eq 7, 3) := by decide +kernel
theorem dX2_tryTold_120 : decode cX2_tryTold 120 = .ok (.ireturn, 1) := by decide +kernel
theorem dX2_tryTold_123 : decode cX2_tryTold 123 = .ok (.ifCond .ne 35, 3) := by decide +kernel
theorem dX2_tryTold_128 : decode cX2_tryTold 128 = .ok (.invokevirtual 132, 3) := by decide +kernel
theorem dX2_tryTold_131 : decode cX2_tryTold 131 = .ok (.ifCond .eq 27, 3) := by decide +kernel
theorem dX2_tryTold_136 : decode cX2_tryTold 136 = .ok (.invokevirtual 132, 3) := by decide +kernel
theorem dX2_tryTold_139 : decode cX2_tryTold 139 = .ok (.ifCond .eq 19, 3) := by decide +kernel
theorem dX2_tryTold_144 : decode cX2_tryTold 144 = .ok (.invokevirtual 77, 3) := by decide +kernel
theorem dX2_tryTold_148 : decode cX2_tryTold 148 = .ok (.invokestatic 40, 3) := by decide +kernel
theorem dX2_tryTold_151 : decode cX2_tryTold 151 = .ok (.ifCond .eq 7, 3) := by decide +kernel
theorem dX2_tryTold_159 : decode cX2_tryTold 159 = .ok (.ireturn, 1) := by decide +kernel
theorem dX2_tryTold_161 : decode cX2_tryTold 161 = .ok (.ifCond .ne 20, 3) := by decide +kernel
theorem dX2_tryTold_165 : decode cX2_tryTold 165 = .ok (.ifCond .ne 16, 3) := by decide +kernel
theorem dX2_tryTold_169 : decode cX2_tryTold 169 = .ok (.invokevirtual 135, 3) := by decide +kernel
theorem dX2_tryTold_174 : decode cX2_tryTold 174 = .ok (.if_icmp .lt 7, 3) := by decide +kernel
theorem dX2_tryTold_182 : decode cX2_tryTold 182 = .ok (.ireturn, 1) := by decide +kernel
theorem dX2_tryTold_184 : decode cX2_tryTold 184 = .ok (.ifCond .ne 25, 3) := by decide +kernel
theorem dX2_tryTold_189 : decode cX2_tryTold 189 = .ok (.invokevirtual 132, 3) := by decide +kernel
theorem dX2_tryTold_192 : decode cX2_tryTold 192 = .ok (.ifCond .eq 17, 3) := by decide +kernel
theorem dX2_tryTold_197 : decode cX2_tryTold 197 = .ok (.invokevirtual 138, 3) := by decide +kernel
theorem dX2_tryTold_202 : decode cX2_tryTold 202 = .ok (.if_icmp .ne 7, 3) := by decide +kernel
theorem dX2_tryTold_210 : decode cX2_tryTold 210 = .ok (.ireturn, 1) := by decide +kernel
theorem dX2_tryTold_212 : decode cX2_tryTold 212 = .ok (.ireturn, 1) := by decide +kernel
def fX2_tryTold_68  (a0 : Nat) (a1 : Int32) (a2 : Int32) (a3 : Int32) (a4 : Int32) (H : Hp) : Option (Int32 × Hp) :=
  if (a2 = 0 : Prop) then
    if (a3 = 0 : Prop) then
      if (a4 = 0 : Prop) then
        gp (isO H a0 2 = true) (
          bd2 (FX2_didShear a0 ((a1 / 1000) - 1) H) fun x1 H2 =>
          if (x1 = 0 : Prop) then
            some (0, H2)
          else
            some (1, H2)
          )
      else
        some (0, H)
    else
      some (0, H)
  else
    some (0, H)
set_option maxHeartbeats 4000000 in
set_option maxRecDepth 100000 in
theorem tfX2_tryTold_68 {G : GG} {r : Int32} {H' : Hp}   {a0 : Nat} {a1 : Int32} {a2 : Int32} {a3 : Int32} {a4 : Int32} {H : Hp} (h : fX2_tryTold_68  a0 a1 a2 a3 a4 H = some (r, H')) : Sn G (T0 G (some (.int r)) H') mX2_tryTold 68 [some (.ref a0), some (.int a1), some (.int a2), some (.int a3), some (.int a4)] [] H := by
  unfold fX2_tryTold_68 at h
  refine sn_blk _ kX2_tryTold_68_0 (pc' := 69) (L' := [some (.ref a0), some (.int a1), some (.int a2), some (.int a3), some (.int a4)]) (st' := [.int a2]) rfl rfl ?_
  refine sn_if_ne (tgt := 99) dX2_tryTold_69 (by decide) (fun c => ?_) (fun c => ?_)
  · rw [if_neg c] at h
    refine sn_blk _ kX2_tryTold_68_1 (pc' := 100) (L' := [some (.ref a0), some (.int a1), some (.int a2), some (.int a3), some (.int a4)]) (st' := [.int 0]) rfl rfl ?_
    cases h
    exact sn_iret (ty := .boolean) dX2_tryTold_100 rfl rfl
  · rw [if_pos c] at h
    refine sn_blk _ kX2_tryTold_68_2 (pc' := 73) (L' := [some (.ref a0), some (.int a1), some (.int a2), some (.int a3), some (.int a4)]) (st' := [.int a3]) rfl rfl ?_
    refine sn_if_ne (tgt := 99) dX2_tryTold_73 (by decide) (fun c => ?_) (fun c => ?_)
    · rw [if_neg c] at h
      refine sn_blk _ kX2_tryTold_68_3 (pc' := 100) (L' := [some (.ref a0), some (.int a1), some (.int a2), some (.int a3), some (.int a4)]) (st' := [.int 0]) rfl rfl ?_
      cases h
      exact sn_iret (ty := .boolean) dX2_tryTold_100 rfl rfl
    · rw [if_pos c] at h
      refine sn_blk _ kX2_tryTold_68_4 (pc' := 78) (L' := [some (.ref a0), some (.int a1), some (.int a2), some (.int a3), some (.int a4)]) (st' := [.int a4]) rfl rfl ?_
      refine sn_if_ne (tgt := 99) dX2_tryTold_78 (by decide) (fun c => ?_) (fun c => ?_)
      · rw [if_neg c] at h
        refine sn_blk _ kX2_tryTold_68_5 (pc' := 100) (L' := [some (.ref a0), some (.int a1), some (.int a2), some (.int a3), some (.int a4)]) (st' := [.int 0]) rfl rfl ?_
        cases h
        exact sn_iret (ty := .boolean) dX2_tryTold_100 rfl rfl
      · rw [if_pos c] at h
        refine sn_blk _ kX2_tryTold_68_6 (pc' := 86) (L' := [some (.ref a0), some (.int a1), some (.int a2), some (.int a3), some (.int a4)]) (st' := [.int 1000, .int a1, .ref a0]) rfl rfl ?_
        refine sn_idiv dX2_tryTold_86 (by decide) ?_
        refine sn_blk _ kX2_tryTold_68_7 (pc' := 89) (L' := [some (.ref a0), some (.int a1), some (.int a2), some (.int a3), some (.int a4)]) (st' := [.int ((a1 / 1000) - 1), .ref a0]) rfl rfl ?_
        obtain ⟨ho, h⟩ := gp_inv h
        obtain ⟨fs, ho⟩ := isO_inv ho
        obtain ⟨x1, H2, hx1, h⟩ := bd2_inv h
        refine sn_callv (av := [.int ((a1 / 1000) - 1)]) (st := []) (M2 := mX2_didShear) dX2_tryTold_89 msX2_didShear mlX2_125 rfl rfl rfl rfl rfl ho (sX2_didShear hx1) ?_
        refine sn_if_eq (tgt := 99) dX2_tryTold_92 (by decide) (fun c => ?_) (fun c => ?_)
        · rw [if_pos c] at h
          refine sn_blk _ kX2_tryTold_68_8 (pc' := 100) (L' := [some (.ref a0), some (.int a1), some (.int a2), some (.int a3), some (.int a4)]) (st' := [.int 0]) rfl rfl ?_
          cases h
          exact sn_iret (ty := .boolean) dX2_tryTold_100 rfl rfl
        · rw [if_neg c] at h
          refine sn_blk _ kX2_tryTold_68_9 (pc' := 100) (L' := [some (.ref a0), some (.int a1), some (.int a2), some (.int a3), some (.int a4)]) (st' := [.int 1]) rfl rfl ?_
          cases h
          exact sn_iret (ty := .boolean) dX2_tryTold_100 rfl rfl
def FX2_tryTold  (a0 : Nat) (a1 : Int32) (H : Hp) : Option (Int32 × Hp) :=
  if (a1 / 1000) = (1 : Int32) then
    fX2_tryTold_68  a0 a1 (rI (a1 / 100) 10) (rI (a1 / 10) 10) (rI a1 10) H
  else
    if (a1 / 1000) = (2 : Int32) then
      fX2_tryTold_68  a0 a1 (rI (a1 / 100) 10) (rI (a1 / 10) 10) (rI a1 10) H
    else
      if (a1 / 1000) = (3 : Int32) then
        fX2_tryTold_68  a0 a1 (rI (a1 / 100) 10) (rI (a1 / 10) 10) (rI a1 10) H
      else
        if (a1 / 1000) = (4 : Int32) then
          if ((rI (a1 / 100) 10) = 0 : Prop) then
            gp (isO H a0 2 = true) (
              bd2 (FX2_didTrade a0 (rI (a1 / 10) 10) (rI a1 10) H) fun x1 H2 =>
              if (x1 = 0 : Prop) then
                some (0, H2)
              else
                some (1, H2)
              )
          else
            some (0, H)
        else
          if (a1 / 1000) = (5 : Int32) then
            if ((rI a1 10) = 0 : Prop) then
              gp (isO H a0 2 = true) (
                bd2 (FX2_has a0 (rI (a1 / 100) 10) H) fun x3 H4 =>
                if (x3 = 0 : Prop) then
                  some (0, H4)
                else
                  gp (isO H4 a0 2 = true) (
                    bd2 (FX2_has a0 (rI (a1 / 10) 10) H4) fun x5 H6 =>
                    if (x5 = 0 : Prop) then
                      some (0, H6)
                    else
                      gp (isO H6 a0 2 = true) (
                        bd2 (FX2_piece a0 (rI (a1 / 100) 10) H6) fun x7 H8 =>
                        bd2 (FX6_isIn x7 (rI (a1 / 10) 10) H8) fun x9 H10 =>
                        if (x9 = 0 : Prop) then
                          some (0, H10)
                        else
                          some (1, H10)
                        )
                    )
                )
            else
              some (0, H)
          else
            if (a1 / 1000) = (6 : Int32) then
              if ((rI (a1 / 100) 10) = 0 : Prop) then
                if ((rI (a1 / 10) 10) = 0 : Prop) then
                  gp (isO H a0 2 = true) (
                    bd2 (FX2_ordinaryCorners a0  H) fun x11 H12 =>
                    if (x11 < (rI a1 10) : Prop) then
                      some (0, H12)
                    else
                      some (1, H12)
                    )
                else
                  some (0, H)
              else
                some (0, H)
            else
              if (a1 / 1000) = (7 : Int32) then
                if ((rI (a1 / 10) 10) = 0 : Prop) then
                  gp (isO H a0 2 = true) (
                    bd2 (FX2_has a0 (rI (a1 / 100) 10) H) fun x13 H14 =>
                    if (x13 = 0 : Prop) then
                      some (0, H14)
                    else
                      gp (isO H14 a0 2 = true) (
                        bd2 (FX2_holes a0 (rI (a1 / 100) 10) H14) fun x15 H16 =>
                        if (x15 = (rI a1 10) : Prop) then
                          some (1, H16)
                        else
                          some (0, H16)
                        )
                    )
                else
                  some (0, H)
              else
                some (0, H)
set_option maxHeartbeats 4000000 in
set_option maxRecDepth 100000 in
theorem tFX2_tryTold {G : GG} {r : Int32} {H' : Hp}   {a0 : Nat} {a1 : Int32} {H : Hp} (h : FX2_tryTold  a0 a1 H = some (r, H')) : Sn G (T0 G (some (.int r)) H') mX2_tryTold 0 [some (.ref a0), some (.int a1), none, none, none] [] H := by
  unfold FX2_tryTold at h
  refine sn_blk _ kX2_tryTold_0_0 (pc' := 3) (L' := [some (.ref a0), some (.int a1), none, none, none]) (st' := [.int 100, .int a1]) rfl rfl ?_
  refine sn_idiv dX2_tryTold_3 (by decide) ?_
  refine sn_blk _ kX2_tryTold_0_1 (pc' := 6) (L' := [some (.ref a0), some (.int a1), none, none, none]) (st' := [.int 10, .int (a1 / 100)]) rfl rfl ?_
  refine sn_irem dX2_tryTold_6 (by decide) ?_
  refine sn_blk _ kX2_tryTold_0_2 (pc' := 11) (L' := [some (.ref a0), some (.int a1), some (.int (rI (a1 / 100) 10)), none, none]) (st' := [.int 10, .int a1]) rfl rfl ?_
  refine sn_idiv dX2_tryTold_11 (by decide) ?_
  refine sn_blk _ kX2_tryTold_0_3 (pc' := 14) (L' := [some (.ref a0), some (.int a1), some (.int (rI (a1 / 100) 10)), none, none]) (st' := [.int 10, .int (a1 / 10)]) rfl rfl ?_
  refine sn_irem dX2_tryTold_14 (by decide) ?_
  refine sn_blk _ kX2_tryTold_0_4 (pc' := 19) (L' := [some (.ref a0), some (.int a1), some (.int (rI (a1 / 100) 10)), some (.int (rI (a1 / 10) 10)), none]) (st' := [.int 10, .int a1]) rfl rfl ?_
  refine sn_irem dX2_tryTold_19 (by decide) ?_
  refine sn_blk _ kX2_tryTold_0_5 (pc' := 26) (L' := [some (.ref a0), some (.int a1), some (.int (rI (a1 / 100) 10)), some (.int (rI (a1 / 10) 10)), some (.int (rI a1 10))]) (st' := [.int 1000, .int a1]) rfl rfl ?_
  refine sn_idiv dX2_tryTold_26 (by decide) ?_
  by_cases c27_1 : (a1 / 1000) = (1 : Int32)
  · rw [if_pos c27_1] at h
    refine sn_tblIn (off := 41) (tgt := 68) dX2_tryTold_27 (by rw [c27_1]; decide) (by rw [c27_1]; decide) (by rw [c27_1]; decide +kernel) (by decide) ?_
    exact tfX2_tryTold_68  h
  · rw [if_neg c27_1] at h
    by_cases c27_2 : (a1 / 1000) = (2 : Int32)
    · rw [if_pos c27_2] at h
      refine sn_tblIn (off := 41) (tgt := 68) dX2_tryTold_27 (by rw [c27_2]; decide) (by rw [c27_2]; decide) (by rw [c27_2]; decide +kernel) (by decide) ?_
      exact tfX2_tryTold_68  h
    · rw [if_neg c27_2] at h
      by_cases c27_3 : (a1 / 1000) = (3 : Int32)
      · rw [if_pos c27_3] at h
        refine sn_tblIn (off := 41) (tgt := 68) dX2_tryTold_27 (by rw [c27_3]; decide) (by rw [c27_3]; decide) (by rw [c27_3]; decide +kernel) (by decide) ?_
        exact tfX2_tryTold_68  h
      · rw [if_neg c27_3] at h
        by_cases c27_4 : (a1 / 1000) = (4 : Int32)
        · rw [if_pos c27_4] at h
          refine sn_tblIn (off := 74) (tgt := 101) dX2_tryTold_27 (by rw [c27_4]; decide) (by rw [c27_4]; decide) (by rw [c27_4]; decide +kernel) (by decide) ?_
          refine sn_blk _ kX2_tryTold_0_6 (pc' := 102) (L' := [some (.ref a0), some (.int a1), some (.int (rI (a1 / 100) 10)), some (.int (rI (a1 / 10) 10)), some (.int (rI a1 10))]) (st' := [.int (rI (a1 / 100) 10)]) rfl rfl ?_
          refine sn_if_ne (tgt := 119) dX2_tryTold_102 (by decide) (fun c => ?_) (fun c => ?_)
          · rw [if_neg c] at h
            refine sn_blk _ kX2_tryTold_0_7 (pc' := 120) (L' := [some (.ref a0), some (.int a1), some (.int (rI (a1 / 100) 10)), some (.int (rI (a1 / 10) 10)), some (.int (rI a1 10))]) (st' := [.int 0]) rfl rfl ?_
            cases h
            exact sn_iret (ty := .boolean) dX2_tryTold_120 rfl rfl
          · rw [if_pos c] at h
            refine sn_blk _ kX2_tryTold_0_8 (pc' := 109) (L' := [some (.ref a0), some (.int a1), some (.int (rI (a1 / 100) 10)), some (.int (rI (a1 / 10) 10)), some (.int (rI a1 10))]) (st' := [.int (rI a1 10), .int (rI (a1 / 10) 10), .ref a0]) rfl rfl ?_
            obtain ⟨ho, h⟩ := gp_inv h
            obtain ⟨fs, ho⟩ := isO_inv ho
            obtain ⟨x1, H2, hx1, h⟩ := bd2_inv h
            refine sn_callv (av := [.int (rI (a1 / 10) 10), .int (rI a1 10)]) (st := []) (M2 := mX2_didTrade) dX2_tryTold_109 msX2_didTrade mlX2_129 rfl rfl rfl rfl rfl ho (sX2_didTrade hx1) ?_
            refine sn_if_eq (tgt := 119) dX2_tryTold_112 (by decide) (fun c => ?_) (fun c => ?_)
            · rw [if_pos c] at h
              refine sn_blk _ kX2_tryTold_0_9 (pc' := 120) (L' := [some (.ref a0), some (.int a1), some (.int (rI (a1 / 100) 10)), some (.int (rI (a1 / 10) 10)), some (.int (rI a1 10))]) (st' := [.int 0]) rfl rfl ?_
              cases h
              exact sn_iret (ty := .boolean) dX2_tryTold_120 rfl rfl
            · rw [if_neg c] at h
              refine sn_blk _ kX2_tryTold_0_10 (pc' := 120) (L' := [some (.ref a0), some (.int a1), some (.int (rI (a1 / 100) 10)), some (.int (rI (a1 / 10) 10)), some (.int (rI a1 10))]) (st' := [.int 1]) rfl rfl ?_
              cases h
              exact sn_iret (ty := .boolean) dX2_tryTold_120 rfl rfl
        · rw [if_neg c27_4] at h
          by_cases c27_5 : (a1 / 1000) = (5 : Int32)
          · rw [if_pos c27_5] at h
            refine sn_tblIn (off := 94) (tgt := 121) dX2_tryTold_27 (by rw [c27_5]; decide) (by rw [c27_5]; decide) (by rw [c27_5]; decide +kernel) (by decide) ?_
            refine sn_blk _ kX2_tryTold_0_11 (pc' := 123) (L' := [some (.ref a0), some (.int a1), some (.int (rI (a1 / 100) 10)), some (.int (rI (a1 / 10) 10)), some (.int (rI a1 10))]) (st' := [.int (rI a1 10)]) rfl rfl ?_
            refine sn_if_ne (tgt := 158) dX2_tryTold_123 (by decide) (fun c => ?_) (fun c => ?_)
            · rw [if_neg c] at h
              refine sn_blk _ kX2_tryTold_0_12 (pc' := 159) (L' := [some (.ref a0), some (.int a1), some (.int (rI (a1 / 100) 10)), some (.int (rI (a1 / 10) 10)), some (.int (rI a1 10))]) (st' := [.int 0]) rfl rfl ?_
              cases h
              exact sn_iret (ty := .boolean) dX2_tryTold_159 rfl rfl
            · rw [if_pos c] at h
              refine sn_blk _ kX2_tryTold_0_13 (pc' := 128) (L' := [some (.ref a0), some (.int a1), some (.int (rI (a1 / 100) 10)), some (.int (rI (a1 / 10) 10)), some (.int (rI a1 10))]) (st' := [.int (rI (a1 / 100) 10), .ref a0]) rfl rfl ?_
              obtain ⟨ho, h⟩ := gp_inv h
              obtain ⟨fs, ho⟩ := isO_inv ho
              obtain ⟨x3, H4, hx3, h⟩ := bd2_inv h
              refine sn_callv (av := [.int (rI (a1 / 100) 10)]) (st := []) (M2 := mX2_has) dX2_tryTold_128 msX2_has mlX2_132 rfl rfl rfl rfl rfl ho (sX2_has hx3) ?_
              refine sn_if_eq (tgt := 158) dX2_tryTold_131 (by decide) (fun c => ?_) (fun c => ?_)
              · rw [if_pos c] at h
                refine sn_blk _ kX2_tryTold_0_14 (pc' := 159) (L' := [some (.ref a0), some (.int a1), some (.int (rI (a1 / 100) 10)), some (.int (rI (a1 / 10) 10)), some (.int (rI a1 10))]) (st' := [.int 0]) rfl rfl ?_
                cases h
                exact sn_iret (ty := .boolean) dX2_tryTold_159 rfl rfl
              · rw [if_neg c] at h
                refine sn_blk _ kX2_tryTold_0_15 (pc' := 136) (L' := [some (.ref a0), some (.int a1), some (.int (rI (a1 / 100) 10)), some (.int (rI (a1 / 10) 10)), some (.int (rI a1 10))]) (st' := [.int (rI (a1 / 10) 10), .ref a0]) rfl rfl ?_
                obtain ⟨ho, h⟩ := gp_inv h
                obtain ⟨fs, ho⟩ := isO_inv ho
                obtain ⟨x5, H6, hx5, h⟩ := bd2_inv h
                refine sn_callv (av := [.int (rI (a1 / 10) 10)]) (st := []) (M2 := mX2_has) dX2_tryTold_136 msX2_has mlX2_132 rfl rfl rfl rfl rfl ho (sX2_has hx5) ?_
                refine sn_if_eq (tgt := 158) dX2_tryTold_139 (by decide) (fun c => ?_) (fun c => ?_)
                · rw [if_pos c] at h
                  refine sn_blk _ kX2_tryTold_0_16 (pc' := 159) (L' := [some (.ref a0), some (.int a1), some (.int (rI (a1 / 100) 10)), some (.int (rI (a1 / 10) 10)), some (.int (rI a1 10))]) (st' := [.int 0]) rfl rfl ?_
                  cases h
                  exact sn_iret (ty := .boolean) dX2_tryTold_159 rfl rfl
                · rw [if_neg c] at h
                  refine sn_blk _ kX2_tryTold_0_17 (pc' := 144) (L' := [some (.ref a0), some (.int a1), some (.int (rI (a1 / 100) 10)), some (.int (rI (a1 / 10) 10)), some (.int (rI a1 10))]) (st' := [.int (rI (a1 / 100) 10), .ref a0]) rfl rfl ?_
                  obtain ⟨ho, h⟩ := gp_inv h
                  obtain ⟨fs, ho⟩ := isO_inv ho
                  obtain ⟨x7, H8, hx7, h⟩ := bd2_inv h
                  refine sn_callv (av := [.int (rI (a1 / 100) 10)]) (st := []) (M2 := mX2_piece) dX2_tryTold_144 msX2_piece mlX2_77 rfl rfl rfl rfl rfl ho (sX2_piece hx7) ?_
                  refine sn_blk _ kX2_tryTold_0_18 (pc' := 148) (L' := [some (.ref a0), some (.int a1), some (.int (rI (a1 / 100) 10)), some (.int (rI (a1 / 10) 10)), some (.int (rI a1 10))]) (st' := [.int (rI (a1 / 10) 10), .int x7]) rfl rfl ?_
                  obtain ⟨x9, H10, hx9, h⟩ := bd2_inv h
                  refine sn_calls (av := [.int x7, .int (rI (a1 / 10) 10)]) (st := []) (M2 := mX6_isIn) dX2_tryTold_148 msX6_isIn mlX2_40 rfl rfl rfl rfl rfl (sX6_isIn hx9) ?_
                  refine sn_if_eq (tgt := 158) dX2_tryTold_151 (by decide) (fun c => ?_) (fun c => ?_)
                  · rw [if_pos c] at h
                    refine sn_blk _ kX2_tryTold_0_19 (pc' := 159) (L' := [some (.ref a0), some (.int a1), some (.int (rI (a1 / 100) 10)), some (.int (rI (a1 / 10) 10)), some (.int (rI a1 10))]) (st' := [.int 0]) rfl rfl ?_
                    cases h
                    exact sn_iret (ty := .boolean) dX2_tryTold_159 rfl rfl
                  · rw [if_neg c] at h
                    refine sn_blk _ kX2_tryTold_0_20 (pc' := 159) (L' := [some (.ref a0), some (.int a1), some (.int (rI (a1 / 100) 10)), some (.int (rI (a1 / 10) 10)), some (.int (rI a1 10))]) (st' := [.int 1]) rfl rfl ?_
                    cases h
                    exact sn_iret (ty := .boolean) dX2_tryTold_159 rfl rfl
          · rw [if_neg c27_5] at h
            by_cases c27_6 : (a1 / 1000) = (6 : Int32)
            · rw [if_pos c27_6] at h
              refine sn_tblIn (off := 133) (tgt := 160) dX2_tryTold_27 (by rw [c27_6]; decide) (by rw [c27_6]; decide) (by rw [c27_6]; decide +kernel) (by decide) ?_
              refine sn_blk _ kX2_tryTold_0_21 (pc' := 161) (L' := [some (.ref a0), some (.int a1), some (.int (rI (a1 / 100) 10)), some (.int (rI (a1 / 10) 10)), some (.int (rI a1 10))]) (st' := [.int (rI (a1 / 100) 10)]) rfl rfl ?_
              refine sn_if_ne (tgt := 181) dX2_tryTold_161 (by decide) (fun c => ?_) (fun c => ?_)
              · rw [if_neg c] at h
                refine sn_blk _ kX2_tryTold_0_22 (pc' := 182) (L' := [some (.ref a0), some (.int a1), some (.int (rI (a1 / 100) 10)), some (.int (rI (a1 / 10) 10)), some (.int (rI a1 10))]) (st' := [.int 0]) rfl rfl ?_
                cases h
                exact sn_iret (ty := .boolean) dX2_tryTold_182 rfl rfl
              · rw [if_pos c] at h
                refine sn_blk _ kX2_tryTold_0_23 (pc' := 165) (L' := [some (.ref a0), some (.int a1), some (.int (rI (a1 / 100) 10)), some (.int (rI (a1 / 10) 10)), some (.int (rI a1 10))]) (st' := [.int (rI (a1 / 10) 10)]) rfl rfl ?_
                refine sn_if_ne (tgt := 181) dX2_tryTold_165 (by decide) (fun c => ?_) (fun c => ?_)
                · rw [if_neg c] at h
                  refine sn_blk _ kX2_tryTold_0_24 (pc' := 182) (L' := [some (.ref a0), some (.int a1), some (.int (rI (a1 / 100) 10)), some (.int (rI (a1 / 10) 10)), some (.int (rI a1 10))]) (st' := [.int 0]) rfl rfl ?_
                  cases h
                  exact sn_iret (ty := .boolean) dX2_tryTold_182 rfl rfl
                · rw [if_pos c] at h
                  refine sn_blk _ kX2_tryTold_0_25 (pc' := 169) (L' := [some (.ref a0), some (.int a1), some (.int (rI (a1 / 100) 10)), some (.int (rI (a1 / 10) 10)), some (.int (rI a1 10))]) (st' := [.ref a0]) rfl rfl ?_
                  obtain ⟨ho, h⟩ := gp_inv h
                  obtain ⟨fs, ho⟩ := isO_inv ho
                  obtain ⟨x11, H12, hx11, h⟩ := bd2_inv h
                  refine sn_callv (av := []) (st := []) (M2 := mX2_ordinaryCorners) dX2_tryTold_169 msX2_ordinaryCorners mlX2_135 rfl rfl rfl rfl rfl ho (sX2_ordinaryCorners hx11) ?_
                  refine sn_blk _ kX2_tryTold_0_26 (pc' := 174) (L' := [some (.ref a0), some (.int a1), some (.int (rI (a1 / 100) 10)), some (.int (rI (a1 / 10) 10)), some (.int (rI a1 10))]) (st' := [.int (rI a1 10), .int x11]) rfl rfl ?_
                  refine sn_icmp_lt (tgt := 181) dX2_tryTold_174 (by decide) (fun c => ?_) (fun c => ?_)
                  · rw [if_pos c] at h
                    refine sn_blk _ kX2_tryTold_0_27 (pc' := 182) (L' := [some (.ref a0), some (.int a1), some (.int (rI (a1 / 100) 10)), some (.int (rI (a1 / 10) 10)), some (.int (rI a1 10))]) (st' := [.int 0]) rfl rfl ?_
                    cases h
                    exact sn_iret (ty := .boolean) dX2_tryTold_182 rfl rfl
                  · rw [if_neg c] at h
                    refine sn_blk _ kX2_tryTold_0_28 (pc' := 182) (L' := [some (.ref a0), some (.int a1), some (.int (rI (a1 / 100) 10)), some (.int (rI (a1 / 10) 10)), some (.int (rI a1 10))]) (st' := [.int 1]) rfl rfl ?_
                    cases h
                    exact sn_iret (ty := .boolean) dX2_tryTold_182 rfl rfl
            · rw [if_neg c27_6] at h
              by_cases c27_7 : (a1 / 1000) = (7 : Int32)
              · rw [if_pos c27_7] at h
                refine sn_tblIn (off := 156) (tgt := 183) dX2_tryTold_27 (by rw [c27_7]; decide) (by rw [c27_7]; decide) (by rw [c27_7]; decide +kernel) (by decide) ?_
                refine sn_blk _ kX2_tryTold_0_29 (pc' := 184) (L' := [some (.ref a0), some (.int a1), some (.int (rI (a1 / 100) 10)), some (.int (rI (a1 / 10) 10)), some (.int (rI a1 10))]) (st' := [.int (rI (a1 / 10) 10)]) rfl rfl ?_
                refine sn_if_ne (tgt := 209) dX2_tryTold_184 (by decide) (fun c => ?_) (fun c => ?_)
                · rw [if_neg c] at h
                  refine sn_blk _ kX2_tryTold_0_30 (pc' := 210) (L' := [some (.ref a0), some (.int a1), some (.int (rI (a1 / 100) 10)), some (.int (rI (a1 / 10) 10)), some (.int (rI a1 10))]) (st' := [.int 0]) rfl rfl ?_
                  cases h
                  exact sn_iret (ty := .boolean) dX2_tryTold_210 rfl rfl
                · rw [if_pos c] at h
                  refine sn_blk _ kX2_tryTold_0_31 (pc' := 189) (L' := [some (.ref a0), some (.int a1), some (.int (rI (a1 / 100) 10)), some (.int (rI (a1 / 10) 10)), some (.int (rI a1 10))]) (st' := [.int (rI (a1 / 100) 10), .ref a0]) rfl rfl ?_
                  obtain ⟨ho, h⟩ := gp_inv h
                  obtain ⟨fs, ho⟩ := isO_inv ho
                  obtain ⟨x13, H14, hx13, h⟩ := bd2_inv h
                  refine sn_callv (av := [.int (rI (a1 / 100) 10)]) (st := []) (M2 := mX2_has) dX2_tryTold_189 msX2_has mlX2_132 rfl rfl rfl rfl rfl ho (sX2_has hx13) ?_
                  refine sn_if_eq (tgt := 209) dX2_tryTold_192 (by decide) (fun c => ?_) (fun c => ?_)
                  · rw [if_pos c] at h
                    refine sn_blk _ kX2_tryTold_0_32 (pc' := 210) (L' := [some (.ref a0), some (.int a1), some (.int (rI (a1 / 100) 10)), some (.int (rI (a1 / 10) 10)), some (.int (rI a1 10))]) (st' := [.int 0]) rfl rfl ?_
                    cases h
                    exact sn_iret (ty := .boolean) dX2_tryTold_210 rfl rfl
                  · rw [if_neg c] at h
                    refine sn_blk _ kX2_tryTold_0_33 (pc' := 197) (L' := [some (.ref a0), some (.int a1), some (.int (rI (a1 / 100) 10)), some (.int (rI (a1 / 10) 10)), some (.int (rI a1 10))]) (st' := [.int (rI (a1 / 100) 10), .ref a0]) rfl rfl ?_
                    obtain ⟨ho, h⟩ := gp_inv h
                    obtain ⟨fs, ho⟩ := isO_inv ho
                    obtain ⟨x15, H16, hx15, h⟩ := bd2_inv h
                    refine sn_callv (av := [.int (rI (a1 / 100) 10)]) (st := []) (M2 := mX2_holes) dX2_tryTold_197 msX2_holes mlX2_138 rfl rfl rfl rfl rfl ho (sX2_holes hx15) ?_
                    refine sn_blk _ kX2_tryTold_0_34 (pc' := 202) (L' := [some (.ref a0), some (.int a1), some (.int (rI (a1 / 100) 10)), some (.int (rI (a1 / 10) 10)), some (.int (rI a1 10))]) (st' := [.int (rI a1 10), .int x15]) rfl rfl ?_
                    refine sn_icmp_ne (tgt := 209) dX2_tryTold_202 (by decide) (fun c => ?_) (fun c => ?_)
                    · rw [if_neg c] at h
                      refine sn_blk _ kX2_tryTold_0_35 (pc' := 210) (L' := [some (.ref a0), some (.int a1), some (.int (rI (a1 / 100) 10)), some (.int (rI (a1 / 10) 10)), some (.int (rI a1 10))]) (st' := [.int 0]) rfl rfl ?_
                      cases h
                      exact sn_iret (ty := .boolean) dX2_tryTold_210 rfl rfl
                    · rw [if_pos c] at h
                      refine sn_blk _ kX2_tryTold_0_36 (pc' := 210) (L' := [some (.ref a0), some (.int a1), some (.int (rI (a1 / 100) 10)), some (.int (rI (a1 / 10) 10)), some (.int (rI a1 10))]) (st' := [.int 1]) rfl rfl ?_
                      cases h
                      exact sn_iret (ty := .boolean) dX2_tryTold_210 rfl rfl
              · rw [if_neg c27_7] at h
                refine sn_tblOut (tgt := 211) dX2_tryTold_27 (sw_out (fun k h1 h2 e => ?_)) (by decide) ?_
                · rcases (show k = 1 ∨ k = 2 ∨ k = 3 ∨ k = 4 ∨ k = 5 ∨ k = 6 ∨ k = 7 by omega) with rfl | rfl | rfl | rfl | rfl | rfl | rfl
                  · exact c27_1 (Int32.toInt_inj.mp e)
                  · exact c27_2 (Int32.toInt_inj.mp e)
                  · exact c27_3 (Int32.toInt_inj.mp e)
                  · exact c27_4 (Int32.toInt_inj.mp e)
                  · exact c27_5 (Int32.toInt_inj.mp e)
                  · exact c27_6 (Int32.toInt_inj.mp e)
                  · exact c27_7 (Int32.toInt_inj.mp e)
                · refine sn_blk _ kX2_tryTold_0_37 (pc' := 212) (L' := [some (.ref a0), some (.int a1), some (.int (rI (a1 / 100) 10)), some (.int (rI (a1 / 10) 10)), some (.int (rI a1 10))]) (st' := [.int 0]) rfl rfl ?_
                  cases h
                  exact sn_iret (ty := .boolean) dX2_tryTold_212 rfl rfl
theorem sX2_tryTold {G : GG} {r : Int32} {H' : Hp} {a0 : Nat} {a1 : Int32} {H : Hp} (h : FX2_tryTold a0 a1 H = some (r, H')) : SM G mX2_tryTold [.ref a0, .int a1] H (some (.int r)) H' := tFX2_tryTold h
/-! SquareFolds$Gluing.orders(I)I -/
theorem kX2_orders_0_0 : decB cX2_orders 0 [(.iload_n 0, .null)] = true := by decide +kernel
theorem kX2_orders_0_1 : decB cX2_orders 20 [(.iconst 1, .int 1)] = true := by decide +kernel
theorem kX2_orders_0_2 : decB cX2_orders 4 [(.iload_n 0, .null)] = true := by decide +kernel
theorem kX2_orders_0_3 : decB cX2_orders 20 [(.iconst 1, .int 1)] = true := by decide +kernel
theorem kX2_orders_0_4 : decB cX2_orders 15 [(.iload_n 0, .null)] = true := by decide +kernel
theorem kX2_orders_0_5 : decB cX2_orders 17 [(.goto 4, .retAddr 21)] = true := by decide +kernel
theorem dX2_orders_1 : decode cX2_orders 1 = .ok (.ifCond .lt 19, 3) := by decide +kernel
theorem dX2_orders_5 : decode cX2_orders 5 = .ok (.getstatic 141, 3) := by decide +kernel
theorem dX2_orders_8 : decode cX2_orders 8 = .ok (.arraylength, 1) := by decide +kernel
theorem dX2_orders_9 : decode cX2_orders 9 = .ok (.if_icmp .ge 11, 3) := by decide +kernel
theorem dX2_orders_12 : decode cX2_orders 12 = .ok (.getstatic 141, 3) := by decide +kernel
theorem dX2_orders_16 : decode cX2_orders 16 = .ok (.iaload, 1) := by decide +kernel
theorem dX2_orders_21 : decode cX2_orders 21 = .ok (.ireturn, 1) := by decide +kernel
def FX2_orders  (a0 : Int32) (H : Hp) : Option (Int32 × Hp) :=
  if (a0 < 0 : Prop) then
    some (1, H)
  else
    if (6 ≤ a0 : Prop) then
      some (1, H)
    else
      gp (¬ (a0 < 0 ∨ 6 ≤ Int32.toNatClampNeg a0)) (
        some ((ordf (Int32.toNatClampNeg a0)), H)
        )
set_option maxHeartbeats 4000000 in
set_option maxRecDepth 100000 in
theorem tFX2_orders {G : GG} {r : Int32} {H' : Hp}   {a0 : Int32} {H : Hp} (h : FX2_orders  a0 H = some (r, H')) : Sn G (T0 G (some (.int r)) H') mX2_orders 0 [some (.int a0)] [] H := by
  unfold FX2_orders at h
  refine sn_blk _ kX2_orders_0_0 (pc' := 1) (L' := [some (.int a0)]) (st' := [.int a0]) rfl rfl ?_
  refine sn_if_lt (tgt := 20) dX2_orders_1 (by decide) (fun c => ?_) (fun c => ?_)
  · rw [if_pos c] at h
    refine sn_blk _ kX2_orders_0_1 (pc' := 21) (L' := [some (.int a0)]) (st' := [.int 1]) rfl rfl ?_
    cases h
    exact sn_iret (ty := .int) dX2_orders_21 rfl rfl
  · rw [if_neg c] at h
    refine sn_blk _ kX2_orders_0_2 (pc' := 5) (L' := [some (.int a0)]) (st' := [.int a0]) rfl rfl ?_
    refine sn_ord dX2_orders_5 (gW_at 549 (by decide +kernel)) ?_
    refine sn_ordlen dX2_orders_8 ?_
    refine sn_icmp_ge (tgt := 20) dX2_orders_9 (by decide) (fun c => ?_) (fun c => ?_)
    · rw [if_pos c] at h
      refine sn_blk _ kX2_orders_0_3 (pc' := 21) (L' := [some (.int a0)]) (st' := [.int 1]) rfl rfl ?_
      cases h
      exact sn_iret (ty := .int) dX2_orders_21 rfl rfl
    · rw [if_neg c] at h
      refine sn_ord dX2_orders_12 (gW_at 549 (by decide +kernel)) ?_
      refine sn_blk _ kX2_orders_0_4 (pc' := 16) (L' := [some (.int a0)]) (st' := [.int a0, .ref 1000]) rfl rfl ?_
      obtain ⟨hi, h⟩ := gp_inv h
      refine sn_ordld dX2_orders_16 hi ?_
      refine sn_blk _ kX2_orders_0_5 (pc' := 21) (L' := [some (.int a0)]) (st' := [.int (ordf (Int32.toNatClampNeg a0))]) rfl rfl ?_
      cases h
      exact sn_iret (ty := .int) dX2_orders_21 rfl rfl
theorem sX2_orders {G : GG} {r : Int32} {H' : Hp} {a0 : Int32} {H : Hp} (h : FX2_orders a0 H = some (r, H')) : SM G mX2_orders [.int a0] H (some (.int r)) H' := tFX2_orders h
/-! SquareFolds$Gluing.moreInAllOrders(I)I -/
theorem kX2_moreInAllOrders_0_0 : decB cX2_moreInAllOrders 0 [(.aload_n 0, .null)] = true := by decide +kernel
theorem kX2_moreInAllOrders_0_1 : decB cX2_moreInAllOrders 4 [(.istore_n 2, .null), (.iconst 0, .int 0), (.istore_n 3, .null), (.iconst 0, .int 0), (.istore 4, .null)] = true := by decide +kernel
theorem kX2_moreInAllOrders_10_0 : decB cX2_moreInAllOrders 10 [(.iload 4, .null), (.iload_n 2, .null)] = true := by decide +kernel
theorem kX2_moreInAllOrders_10_1 : decB cX2_moreInAllOrders 81 [(.iload_n 3, .null)] = true := by decide +kernel
theorem kX2_moreInAllOrders_10_2 : decB cX2_moreInAllOrders 16 [(.iload 4, .null), (.iload_n 1, .null)] = true := by decide +kernel
theorem kX2_moreInAllOrders_10_3 : decB cX2_moreInAllOrders 75 [(.iinc 4 1, .int 1), (.goto (-68), .retAddr 10)] = true := by decide +kernel
theorem kX2_moreInAllOrders_10_4 : decB cX2_moreInAllOrders 25 [(.iload 4, .null)] = true := by decide +kernel
theorem kX2_moreInAllOrders_10_5 : decB cX2_moreInAllOrders 30 [(.istore 5, .null), (.aload_n 0, .null), (.iload 4, .null), (.iconst 1, .int 1), (.iload_n 1, .null), (.ishl, .null), (.ior, .null)] = true := by decide +kernel
theorem kX2_moreInAllOrders_10_6 : decB cX2_moreInAllOrders 42 [(.aload_n 0, .null), (.iload 4, .null)] = true := by decide +kernel
theorem kX2_moreInAllOrders_10_7 : decB cX2_moreInAllOrders 48 [(.isub, .null), (.istore 6, .null), (.iload_n 3, .null), (.iload 6, .null), (.iload 5, .null)] = true := by decide +kernel
theorem kX2_moreInAllOrders_10_8 : decB cX2_moreInAllOrders 59 [(.imul, .null), (.aload_n 0, .null)] = true := by decide +kernel
theorem kX2_moreInAllOrders_10_9 : decB cX2_moreInAllOrders 64 [(.iconst 1, .int 1), (.isub, .null), (.iload 5, .null), (.isub, .null)] = true := by decide +kernel
theorem kX2_moreInAllOrders_10_10 : decB cX2_moreInAllOrders 72 [(.imul, .null), (.iadd, .null), (.istore_n 3, .null), (.iinc 4 1, .int 1), (.goto (-68), .retAddr 10)] = true := by decide +kernel
theorem dX2_moreInAllOrders_1 : decode cX2_moreInAllOrders 1 = .ok (.invokevirtual 48, 3) := by decide +kernel
theorem dX2_moreInAllOrders_13 : decode cX2_moreInAllOrders 13 = .ok (.if_icmp .gt 68, 3) := by decide +kernel
theorem dX2_moreInAllOrders_19 : decode cX2_moreInAllOrders 19 = .ok (.invokestatic 40, 3) := by decide +kernel
theorem dX2_moreInAllOrders_22 : decode cX2_moreInAllOrders 22 = .ok (.ifCond .ne 53, 3) := by decide +kernel
theorem dX2_moreInAllOrders_27 : decode cX2_moreInAllOrders 27 = .ok (.invokestatic 66, 3) := by decide +kernel
theorem dX2_moreInAllOrders_39 : decode cX2_moreInAllOrders 39 = .ok (.invokevirtual 145, 3) := by decide +kernel
theorem dX2_moreInAllOrders_45 : decode cX2_moreInAllOrders 45 = .ok (.invokevirtual 145, 3) := by decide +kernel
theorem dX2_moreInAllOrders_56 : decode cX2_moreInAllOrders 56 = .ok (.invokestatic 148, 3) := by decide +kernel
theorem dX2_moreInAllOrders_61 : decode cX2_moreInAllOrders 61 = .ok (.getfield 9, 3) := by decide +kernel
theorem dX2_moreInAllOrders_69 : decode cX2_moreInAllOrders 69 = .ok (.invokestatic 148, 3) := by decide +kernel
theorem dX2_moreInAllOrders_82 : decode cX2_moreInAllOrders 82 = .ok (.ireturn, 1) := by decide +kernel
def bX2_moreInAllOrders_10 (K10 : Nat → Int32 → Int32 → Int32 → Int32 → Hp → Option (Int32 × Hp)) (a0 : Nat) (a1 : Int32) (a2 : Int32) (a3 : Int32) (a4 : Int32) (H : Hp) : Option (Int32 × Hp) :=
  if (a2 < a4 : Prop) then
    some (a3, H)
  else
    bd2 (FX6_isIn a4 a1 H) fun x1 H2 =>
    if (x1 = 0 : Prop) then
      bd2 (FJ6_bitCount_0f7a4 a4 H2) fun x3 H4 =>
      gp (isO H4 a0 2 = true) (
        bd2 (FX2_pieces a0 (a4 ||| (1 <<< (a1 &&& 31))) H4) fun x5 H6 =>
        gp (isO H6 a0 2 = true) (
          bd2 (FX2_pieces a0 a4 H6) fun x7 H8 =>
          bd2 (FX2_orders x3 H8) fun x9 H10 =>
          bd (gI H10 a0 2 0) fun x11 =>
          bd2 (FX2_orders ((x11 - 1) - x3) H10) fun x12 H13 =>
          K10 a0 a1 a2 (a3 + (((x5 - x7) * x9) * x12)) (a4 + 1) H13
          )
        )
    else
      K10 a0 a1 a2 a3 (a4 + 1) H2
set_option maxHeartbeats 4000000 in
set_option maxRecDepth 100000 in
theorem tbX2_moreInAllOrders_10 {G : GG} {r : Int32} {H' : Hp} {K10 : Nat → Int32 → Int32 → Int32 → Int32 → Hp → Option (Int32 × Hp)} (hK10 : ∀ (a0 : Nat) (a1 : Int32) (a2 : Int32) (a3 : Int32) (a4 : Int32) (H : Hp), K10 a0 a1 a2 a3 a4 H = some (r, H') → Sn G (T0 G (some (.int r)) H') mX2_moreInAllOrders 10 [some (.ref a0), some (.int a1), some (.int a2), some (.int a3), some (.int a4), none, none] [] H) {a0 : Nat} {a1 : Int32} {a2 : Int32} {a3 : Int32} {a4 : Int32} {H : Hp} (h : bX2_moreInAllOrders_10 K10 a0 a1 a2 a3 a4 H = some (r, H')) : Sn G (T0 G (some (.int r)) H') mX2_moreInAllOrders 10 [some (.ref a0), some (.int a1), some (.int a2), some (.int a3), some (.int a4), none, none] [] H := by
  unfold bX2_moreInAllOrders_10 at h
  refine sn_blk _ kX2_moreInAllOrders_10_0 (pc' := 13) (L' := [some (.ref a0), some (.int a1), some (.int a2), some (.int a3), some (.int a4), none, none]) (st' := [.int a2, .int a4]) rfl rfl ?_
  refine sn_icmp_gt (tgt := 81) dX2_moreInAllOrders_13 (by decide) (fun c => ?_) (fun c => ?_)
  · rw [if_pos c] at h
    refine sn_blk _ kX2_moreInAllOrders_10_1 (pc' := 82) (L' := [some (.ref a0), some (.int a1), some (.int a2), some (.int a3), some (.int a4), none, none]) (st' := [.int a3]) rfl rfl ?_
    cases h
    exact sn_iret (ty := .int) dX2_moreInAllOrders_82 rfl rfl
  · rw [if_neg c] at h
    refine sn_blk _ kX2_moreInAllOrders_10_2 (pc' := 19) (L' := [some (.ref a0), some (.int a1), some (.int a2), some (.int a3), some (.int a4), none, none]) (st' := [.int a1, .int a4]) rfl rfl ?_
    obtain ⟨x1, H2, hx1, h⟩ := bd2_inv h
    refine sn_calls (av := [.int a4, .int a1]) (st := []) (M2 := mX6_isIn) dX2_moreInAllOrders_19 msX6_isIn mlX2_40 rfl rfl rfl rfl rfl (sX6_isIn hx1) ?_
    refine sn_if_ne (tgt := 75) dX2_moreInAllOrders_22 (by decide) (fun c => ?_) (fun c => ?_)
    · rw [if_neg c] at h
      refine sn_blk _ kX2_moreInAllOrders_10_3 (pc' := 10) (L' := [some (.ref a0), some (.int a1), some (.int a2), some (.int a3), some (.int (a4 + 1)), none, none]) (st' := []) rfl rfl ?_
      exact hK10 _ _ _ _ _ _ h
    · rw [if_pos c] at h
      refine sn_blk _ kX2_moreInAllOrders_10_4 (pc' := 27) (L' := [some (.ref a0), some (.int a1), some (.int a2), some (.int a3), some (.int a4), none, none]) (st' := [.int a4]) rfl rfl ?_
      obtain ⟨x3, H4, hx3, h⟩ := bd2_inv h
      refine sn_calls (av := [.int a4]) (st := []) (M2 := mJ6_bitCount_0f7a4) dX2_moreInAllOrders_27 msJ6_bitCount_0f7a4 mlX2_66 rfl rfl rfl rfl rfl (sJ6_bitCount_0f7a4 hx3) ?_
      refine sn_blk _ kX2_moreInAllOrders_10_5 (pc' := 39) (L' := [some (.ref a0), some (.int a1), some (.int a2), some (.int a3), some (.int a4), some (.int x3), none]) (st' := [.int (a4 ||| (1 <<< (a1 &&& 31))), .ref a0]) rfl rfl ?_
      obtain ⟨ho, h⟩ := gp_inv h
      obtain ⟨fs, ho⟩ := isO_inv ho
      obtain ⟨x5, H6, hx5, h⟩ := bd2_inv h
      refine sn_callv (av := [.int (a4 ||| (1 <<< (a1 &&& 31)))]) (st := []) (M2 := mX2_pieces) dX2_moreInAllOrders_39 msX2_pieces mlX2_145 rfl rfl rfl rfl rfl ho (sX2_pieces hx5) ?_
      refine sn_blk _ kX2_moreInAllOrders_10_6 (pc' := 45) (L' := [some (.ref a0), some (.int a1), some (.int a2), some (.int a3), some (.int a4), some (.int x3), none]) (st' := [.int a4, .ref a0, .int x5]) rfl rfl ?_
      obtain ⟨ho, h⟩ := gp_inv h
      obtain ⟨fs, ho⟩ := isO_inv ho
      obtain ⟨x7, H8, hx7, h⟩ := bd2_inv h
      refine sn_callv (av := [.int a4]) (st := [.int x5]) (M2 := mX2_pieces) dX2_moreInAllOrders_45 msX2_pieces mlX2_145 rfl rfl rfl rfl rfl ho (sX2_pieces hx7) ?_
      refine sn_blk _ kX2_moreInAllOrders_10_7 (pc' := 56) (L' := [some (.ref a0), some (.int a1), some (.int a2), some (.int a3), some (.int a4), some (.int x3), some (.int (x5 - x7))]) (st' := [.int x3, .int (x5 - x7), .int a3]) rfl rfl ?_
      obtain ⟨x9, H10, hx9, h⟩ := bd2_inv h
      refine sn_calls (av := [.int x3]) (st := [.int (x5 - x7), .int a3]) (M2 := mX2_orders) dX2_moreInAllOrders_56 msX2_orders mlX2_148 rfl rfl rfl rfl rfl (sX2_orders hx9) ?_
      refine sn_blk _ kX2_moreInAllOrders_10_8 (pc' := 61) (L' := [some (.ref a0), some (.int a1), some (.int a2), some (.int a3), some (.int a4), some (.int x3), some (.int (x5 - x7))]) (st' := [.ref a0, .int ((x5 - x7) * x9), .int a3]) rfl rfl ?_
      obtain ⟨x11, hx11, h⟩ := bd_inv h
      refine sn_gI dX2_moreInAllOrders_61 foX2_9 hx11 ?_
      refine sn_blk _ kX2_moreInAllOrders_10_9 (pc' := 69) (L' := [some (.ref a0), some (.int a1), some (.int a2), some (.int a3), some (.int a4), some (.int x3), some (.int (x5 - x7))]) (st' := [.int ((x11 - 1) - x3), .int ((x5 - x7) * x9), .int a3]) rfl rfl ?_
      obtain ⟨x12, H13, hx12, h⟩ := bd2_inv h
      refine sn_calls (av := [.int ((x11 - 1) - x3)]) (st := [.int ((x5 - x7) * x9), .int a3]) (M2 := mX2_orders) dX2_moreInAllOrders_69 msX2_orders mlX2_148 rfl rfl rfl rfl rfl (sX2_orders hx12) ?_
      refine sn_blk _ kX2_moreInAllOrders_10_10 (pc' := 10) (L' := [some (.ref a0), some (.int a1), some (.int a2), some (.int (a3 + (((x5 - x7) * x9) * x12))), some (.int (a4 + 1)), some (.int x3), some (.int (x5 - x7))]) (st' := []) rfl rfl ?_
      refine sn_msk [true, true, true, true, true, false, false] (L2 := [some (.ref a0), some (.int a1), some (.int a2), some (.int (a3 + (((x5 - x7) * x9) * x12))), some (.int (a4 + 1)), none, none]) rfl ?_
      exact hK10 _ _ _ _ _ _ h
def fX2_moreInAllOrders_10  : Nat → Nat → Int32 → Int32 → Int32 → Int32 → Hp → Option (Int32 × Hp)
  | 0, _, _, _, _, _, _ => none
  | d + 1, a0, a1, a2, a3, a4, H => bX2_moreInAllOrders_10 (fX2_moreInAllOrders_10  d) a0 a1 a2 a3 a4 H
theorem tfX2_moreInAllOrders_10 {G : GG} {r : Int32} {H' : Hp}   : ∀ (d : Nat) {a0 : Nat} {a1 : Int32} {a2 : Int32} {a3 : Int32} {a4 : Int32} {H : Hp}, fX2_moreInAllOrders_10  d a0 a1 a2 a3 a4 H = some (r, H') → Sn G (T0 G (some (.int r)) H') mX2_moreInAllOrders 10 [some (.ref a0), some (.int a1), some (.int a2), some (.int a3), some (.int a4), none, none] [] H := by
  intro d
  induction d with
  | zero => intro a0 a1 a2 a3 a4 H h; cases h
  | succ d ih => intro a0 a1 a2 a3 a4 H h; exact tbX2_moreInAllOrders_10 (fun a0 a1 a2 a3 a4 H h => ih h) h
def FX2_moreInAllOrders  (a0 : Nat) (a1 : Int32) (H : Hp) : Option (Int32 × Hp) :=
  gp (isO H a0 2 = true) (
    bd2 (FX2_all a0  H) fun x1 H2 =>
    fX2_moreInAllOrders_10  4096 a0 a1 x1 0 0 H2
    )
set_option maxHeartbeats 4000000 in
set_option maxRecDepth 100000 in
theorem tFX2_moreInAllOrders {G : GG} {r : Int32} {H' : Hp}   {a0 : Nat} {a1 : Int32} {H : Hp} (h : FX2_moreInAllOrders  a0 a1 H = some (r, H')) : Sn G (T0 G (some (.int r)) H') mX2_moreInAllOrders 0 [some (.ref a0), some (.int a1), none, none, none, none, none] [] H := by
  unfold FX2_moreInAllOrders at h
  refine sn_blk _ kX2_moreInAllOrders_0_0 (pc' := 1) (L' := [some (.ref a0), some (.int a1), none, none, none, none, none]) (st' := [.ref a0]) rfl rfl ?_
  obtain ⟨ho, h⟩ := gp_inv h
  obtain ⟨fs, ho⟩ := isO_inv ho
  obtain ⟨x1, H2, hx1, h⟩ := bd2_inv h
  refine sn_callv (av := []) (st := []) (M2 := mX2_all) dX2_moreInAllOrders_1 msX2_all mlX2_48 rfl rfl rfl rfl rfl ho (sX2_all hx1) ?_
  refine sn_blk _ kX2_moreInAllOrders_0_1 (pc' := 10) (L' := [some (.ref a0), some (.int a1), some (.int x1), some (.int 0), some (.int 0), none, none]) (st' := []) rfl rfl ?_
  exact tfX2_moreInAllOrders_10  4096 h
theorem sX2_moreInAllOrders {G : GG} {r : Int32} {H' : Hp} {a0 : Nat} {a1 : Int32} {H : Hp} (h : FX2_moreInAllOrders a0 a1 H = some (r, H')) : SM G mX2_moreInAllOrders [.ref a0, .int a1] H (some (.int r)) H' := tFX2_moreInAllOrders h
/-! SquareFolds$Gluing.casesOfOpen(II)I -/
theorem kX2_casesOfOpen_0_0 : decB cX2_casesOfOpen 0 [(.iconst 1, .int 1), (.istore_n 3, .null), (.iconst 0, .int 0), (.istore 4, .null)] = true := by decide +kernel
theorem kX2_casesOfOpen_5_0 : decB cX2_casesOfOpen 5 [(.iload 4, .null), (.aload_n 0, .null)] = true := by decide +kernel
theorem kX2_casesOfOpen_5_1 : decB cX2_casesOfOpen 40 [(.iload_n 3, .null)] = true := by decide +kernel
theorem kX2_casesOfOpen_5_2 : decB cX2_casesOfOpen 14 [(.iload_n 3, .null), (.iload_n 1, .null), (.iload 4, .null)] = true := by decide +kernel
theorem kX2_casesOfOpen_5_3 : decB cX2_casesOfOpen 28 [(.bipush 10, .int 10), (.iload_n 2, .null), (.isub, .null), (.imul, .null), (.istore_n 3, .null), (.iinc 4 1, .int 1), (.goto (-32), .retAddr 5)] = true := by decide +kernel
theorem kX2_casesOfOpen_5_4 : decB cX2_casesOfOpen 24 [(.iload_n 2, .null), (.goto 7, .retAddr 32), (.imul, .null), (.istore_n 3, .null), (.iinc 4 1, .int 1), (.goto (-32), .retAddr 5)] = true := by decide +kernel
theorem dX2_casesOfOpen_8 : decode cX2_casesOfOpen 8 = .ok (.getfield 9, 3) := by decide +kernel
theorem dX2_casesOfOpen_11 : decode cX2_casesOfOpen 11 = .ok (.if_icmp .ge 29, 3) := by decide +kernel
theorem dX2_casesOfOpen_18 : decode cX2_casesOfOpen 18 = .ok (.invokestatic 40, 3) := by decide +kernel
theorem dX2_casesOfOpen_21 : decode cX2_casesOfOpen 21 = .ok (.ifCond .eq 7, 3) := by decide +kernel
theorem dX2_casesOfOpen_41 : decode cX2_casesOfOpen 41 = .ok (.ireturn, 1) := by decide +kernel
def bX2_casesOfOpen_5 (K5 : Nat → Int32 → Int32 → Int32 → Int32 → Hp → Option (Int32 × Hp)) (a0 : Nat) (a1 : Int32) (a2 : Int32) (a3 : Int32) (a4 : Int32) (H : Hp) : Option (Int32 × Hp) :=
  bd (gI H a0 2 0) fun x1 =>
  if (x1 ≤ a4 : Prop) then
    some (a3, H)
  else
    bd2 (FX6_isIn a1 a4 H) fun x2 H3 =>
    if (x2 = 0 : Prop) then
      K5 a0 a1 a2 (a3 * (10 - a2)) (a4 + 1) H3
    else
      K5 a0 a1 a2 (a3 * a2) (a4 + 1) H3
set_option maxHeartbeats 4000000 in
set_option maxRecDepth 100000 in
theorem tbX2_casesOfOpen_5 {G : GG} {r : Int32} {H' : Hp} {K5 : Nat → Int32 → Int32 → Int32 → Int32 → Hp → Option (Int32 × Hp)} (hK5 : ∀ (a0 : Nat) (a1 : Int32) (a2 : Int32) (a3 : Int32) (a4 : Int32) (H : Hp), K5 a0 a1 a2 a3 a4 H = some (r, H') → Sn G (T0 G (some (.int r)) H') mX2_casesOfOpen 5 [some (.ref a0), some (.int a1), some (.int a2), some (.int a3), some (.int a4)] [] H) {a0 : Nat} {a1 : Int32} {a2 : Int32} {a3 : Int32} {a4 : Int32} {H : Hp} (h : bX2_casesOfOpen_5 K5 a0 a1 a2 a3 a4 H = some (r, H')) : Sn G (T0 G (some (.int r)) H') mX2_casesOfOpen 5 [some (.ref a0), some (.int a1), some (.int a2), some (.int a3), some (.int a4)] [] H := by
  unfold bX2_casesOfOpen_5 at h
  refine sn_blk _ kX2_casesOfOpen_5_0 (pc' := 8) (L' := [some (.ref a0), some (.int a1), some (.int a2), some (.int a3), some (.int a4)]) (st' := [.ref a0, .int a4]) rfl rfl ?_
  obtain ⟨x1, hx1, h⟩ := bd_inv h
  refine sn_gI dX2_casesOfOpen_8 foX2_9 hx1 ?_
  refine sn_icmp_ge (tgt := 40) dX2_casesOfOpen_11 (by decide) (fun c => ?_) (fun c => ?_)
  · rw [if_pos c] at h
    refine sn_blk _ kX2_casesOfOpen_5_1 (pc' := 41) (L' := [some (.ref a0), some (.int a1), some (.int a2), some (.int a3), some (.int a4)]) (st' := [.int a3]) rfl rfl ?_
    cases h
    exact sn_iret (ty := .int) dX2_casesOfOpen_41 rfl rfl
  · rw [if_neg c] at h
    refine sn_blk _ kX2_casesOfOpen_5_2 (pc' := 18) (L' := [some (.ref a0), some (.int a1), some (.int a2), some (.int a3), some (.int a4)]) (st' := [.int a4, .int a1, .int a3]) rfl rfl ?_
    obtain ⟨x2, H3, hx2, h⟩ := bd2_inv h
    refine sn_calls (av := [.int a1, .int a4]) (st := [.int a3]) (M2 := mX6_isIn) dX2_casesOfOpen_18 msX6_isIn mlX2_40 rfl rfl rfl rfl rfl (sX6_isIn hx2) ?_
    refine sn_if_eq (tgt := 28) dX2_casesOfOpen_21 (by decide) (fun c => ?_) (fun c => ?_)
    · rw [if_pos c] at h
      refine sn_blk _ kX2_casesOfOpen_5_3 (pc' := 5) (L' := [some (.ref a0), some (.int a1), some (.int a2), some (.int (a3 * (10 - a2))), some (.int (a4 + 1))]) (st' := []) rfl rfl ?_
      exact hK5 _ _ _ _ _ _ h
    · rw [if_neg c] at h
      refine sn_blk _ kX2_casesOfOpen_5_4 (pc' := 5) (L' := [some (.ref a0), some (.int a1), some (.int a2), some (.int (a3 * a2)), some (.int (a4 + 1))]) (st' := []) rfl rfl ?_
      exact hK5 _ _ _ _ _ _ h
def fX2_casesOfOpen_5  : Nat → Nat → Int32 → Int32 → Int32 → Int32 → Hp → Option (Int32 × Hp)
  | 0, _, _, _, _, _, _ => none
  | d + 1, a0, a1, a2, a3, a4, H => bX2_casesOfOpen_5 (fX2_casesOfOpen_5  d) a0 a1 a2 a3 a4 H
theorem tfX2_casesOfOpen_5 {G : GG} {r : Int32} {H' : Hp}   : ∀ (d : Nat) {a0 : Nat} {a1 : Int32} {a2 : Int32} {a3 : Int32} {a4 : Int32} {H : Hp}, fX2_casesOfOpen_5  d a0 a1 a2 a3 a4 H = some (r, H') → Sn G (T0 G (some (.int r)) H') mX2_casesOfOpen 5 [some (.ref a0), some (.int a1), some (.int a2), some (.int a3), some (.int a4)] [] H := by
  intro d
  induction d with
  | zero => intro a0 a1 a2 a3 a4 H h; cases h
  | succ d ih => intro a0 a1 a2 a3 a4 H h; exact tbX2_casesOfOpen_5 (fun a0 a1 a2 a3 a4 H h => ih h) h
def FX2_casesOfOpen  (a0 : Nat) (a1 : Int32) (a2 : Int32) (H : Hp) : Option (Int32 × Hp) :=
  fX2_casesOfOpen_5  4096 a0 a1 a2 1 0 H
set_option maxHeartbeats 4000000 in
set_option maxRecDepth 100000 in
theorem tFX2_casesOfOpen {G : GG} {r : Int32} {H' : Hp}   {a0 : Nat} {a1 : Int32} {a2 : Int32} {H : Hp} (h : FX2_casesOfOpen  a0 a1 a2 H = some (r, H')) : Sn G (T0 G (some (.int r)) H') mX2_casesOfOpen 0 [some (.ref a0), some (.int a1), some (.int a2), none, none] [] H := by
  unfold FX2_casesOfOpen at h
  refine sn_blk _ kX2_casesOfOpen_0_0 (pc' := 5) (L' := [some (.ref a0), some (.int a1), some (.int a2), some (.int 1), some (.int 0)]) (st' := []) rfl rfl ?_
  exact tfX2_casesOfOpen_5  4096 h
theorem sX2_casesOfOpen {G : GG} {r : Int32} {H' : Hp} {a0 : Nat} {a1 : Int32} {a2 : Int32} {H : Hp} (h : FX2_casesOfOpen a0 a1 a2 H = some (r, H')) : SM G mX2_casesOfOpen [.ref a0, .int a1, .int a2] H (some (.int r)) H' := tFX2_casesOfOpen h
/-! SquareFolds$Gluing.casesInOnePiece(I)I -/
theorem kX2_casesInOnePiece_0_0 : decB cX2_casesInOnePiece 0 [(.aload_n 0, .null)] = true := by decide +kernel
theorem kX2_casesInOnePiece_0_1 : decB cX2_casesInOnePiece 4 [(.istore_n 2, .null), (.iconst 0, .int 0), (.istore_n 3, .null), (.iconst 0, .int 0), (.istore 4, .null)] = true := by decide +kernel
theorem kX2_casesInOnePiece_10_0 : decB cX2_casesInOnePiece 10 [(.iload 4, .null), (.iload_n 2, .null)] = true := by decide +kernel
theorem kX2_casesInOnePiece_10_1 : decB cX2_casesInOnePiece 44 [(.iload_n 3, .null)] = true := by decide +kernel
theorem kX2_casesInOnePiece_10_2 : decB cX2_casesInOnePiece 16 [(.aload_n 0, .null), (.iconst 0, .int 0), (.iload_n 2, .null), (.iload 4, .null)] = true := by decide +kernel
theorem kX2_casesInOnePiece_10_3 : decB cX2_casesInOnePiece 24 [(.iload_n 2, .null)] = true := by decide +kernel
theorem kX2_casesInOnePiece_10_4 : decB cX2_casesInOnePiece 38 [(.iinc 4 1, .int 1), (.goto (-31), .retAddr 10)] = true := by decide +kernel
theorem kX2_casesInOnePiece_10_5 : decB cX2_casesInOnePiece 28 [(.iload_n 3, .null), (.aload_n 0, .null), (.iload 4, .null), (.iload_n 1, .null)] = true := by decide +kernel
theorem kX2_casesInOnePiece_10_6 : decB cX2_casesInOnePiece 36 [(.iadd, .null), (.istore_n 3, .null), (.iinc 4 1, .int 1), (.goto (-31), .retAddr 10)] = true := by decide +kernel
theorem dX2_casesInOnePiece_1 : decode cX2_casesInOnePiece 1 = .ok (.invokevirtual 48, 3) := by decide +kernel
theorem dX2_casesInOnePiece_13 : decode cX2_casesInOnePiece 13 = .ok (.if_icmp .gt 31, 3) := by decide +kernel
theorem dX2_casesInOnePiece_21 : decode cX2_casesInOnePiece 21 = .ok (.invokevirtual 51, 3) := by decide +kernel
theorem dX2_casesInOnePiece_25 : decode cX2_casesInOnePiece 25 = .ok (.if_icmp .ne 13, 3) := by decide +kernel
theorem dX2_casesInOnePiece_33 : decode cX2_casesInOnePiece 33 = .ok (.invokevirtual 151, 3) := by decide +kernel
theorem dX2_casesInOnePiece_45 : decode cX2_casesInOnePiece 45 = .ok (.ireturn, 1) := by decide +kernel
def bX2_casesInOnePiece_10 (K10 : Nat → Int32 → Int32 → Int32 → Int32 → Hp → Option (Int32 × Hp)) (a0 : Nat) (a1 : Int32) (a2 : Int32) (a3 : Int32) (a4 : Int32) (H : Hp) : Option (Int32 × Hp) :=
  if (a2 < a4 : Prop) then
    some (a3, H)
  else
    gp (isO H a0 2 = true) (
      bd2 (FX2_reach a0 0 a2 a4 H) fun x1 H2 =>
      if (x1 = a2 : Prop) then
        gp (isO H2 a0 2 = true) (
          bd2 (FX2_casesOfOpen a0 a4 a1 H2) fun x3 H4 =>
          K10 a0 a1 a2 (a3 + x3) (a4 + 1) H4
          )
      else
        K10 a0 a1 a2 a3 (a4 + 1) H2
      )
set_option maxHeartbeats 4000000 in
set_option maxRecDepth 100000 in
theorem tbX2_casesInOnePiece_10 {G : GG} {r : Int32} {H' : Hp} {K10 : Nat → Int32 → Int32 → Int32 → Int32 → Hp → Option (Int32 × Hp)} (hK10 : ∀ (a0 : Nat) (a1 : Int32) (a2 : Int32) (a3 : Int32) (a4 : Int32) (H : Hp), K10 a0 a1 a2 a3 a4 H = some (r, H') → Sn G (T0 G (some (.int r)) H') mX2_casesInOnePiece 10 [some (.ref a0), some (.int a1), some (.int a2), some (.int a3), some (.int a4)] [] H) {a0 : Nat} {a1 : Int32} {a2 : Int32} {a3 : Int32} {a4 : Int32} {H : Hp} (h : bX2_casesInOnePiece_10 K10 a0 a1 a2 a3 a4 H = some (r, H')) : Sn G (T0 G (some (.int r)) H') mX2_casesInOnePiece 10 [some (.ref a0), some (.int a1), some (.int a2), some (.int a3), some (.int a4)] [] H := by
  unfold bX2_casesInOnePiece_10 at h
  refine sn_blk _ kX2_casesInOnePiece_10_0 (pc' := 13) (L' := [some (.ref a0), some (.int a1), some (.int a2), some (.int a3), some (.int a4)]) (st' := [.int a2, .int a4]) rfl rfl ?_
  refine sn_icmp_gt (tgt := 44) dX2_casesInOnePiece_13 (by decide) (fun c => ?_) (fun c => ?_)
  · rw [if_pos c] at h
    refine sn_blk _ kX2_casesInOnePiece_10_1 (pc' := 45) (L' := [some (.ref a0), some (.int a1), some (.int a2), some (.int a3), some (.int a4)]) (st' := [.int a3]) rfl rfl ?_
    cases h
    exact sn_iret (ty := .int) dX2_casesInOnePiece_45 rfl rfl
  · rw [if_neg c] at h
    refine sn_blk _ kX2_casesInOnePiece_10_2 (pc' := 21) (L' := [some (.ref a0), some (.int a1), some (.int a2), some (.int a3), some (.int a4)]) (st' := [.int a4, .int a2, .int 0, .ref a0]) rfl rfl ?_
    obtain ⟨ho, h⟩ := gp_inv h
    obtain ⟨fs, ho⟩ := isO_inv ho
    obtain ⟨x1, H2, hx1, h⟩ := bd2_inv h
    refine sn_callv (av := [.int 0, .int a2, .int a4]) (st := []) (M2 := mX2_reach) dX2_casesInOnePiece_21 msX2_reach mlX2_51 rfl rfl rfl rfl rfl ho (sX2_reach hx1) ?_
    refine sn_blk _ kX2_casesInOnePiece_10_3 (pc' := 25) (L' := [some (.ref a0), some (.int a1), some (.int a2), some (.int a3), some (.int a4)]) (st' := [.int a2, .int x1]) rfl rfl ?_
    refine sn_icmp_ne (tgt := 38) dX2_casesInOnePiece_25 (by decide) (fun c => ?_) (fun c => ?_)
    · rw [if_neg c] at h
      refine sn_blk _ kX2_casesInOnePiece_10_4 (pc' := 10) (L' := [some (.ref a0), some (.int a1), some (.int a2), some (.int a3), some (.int (a4 + 1))]) (st' := []) rfl rfl ?_
      exact hK10 _ _ _ _ _ _ h
    · rw [if_pos c] at h
      refine sn_blk _ kX2_casesInOnePiece_10_5 (pc' := 33) (L' := [some (.ref a0), some (.int a1), some (.int a2), some (.int a3), some (.int a4)]) (st' := [.int a1, .int a4, .ref a0, .int a3]) rfl rfl ?_
      obtain ⟨ho, h⟩ := gp_inv h
      obtain ⟨fs, ho⟩ := isO_inv ho
      obtain ⟨x3, H4, hx3, h⟩ := bd2_inv h
      refine sn_callv (av := [.int a4, .int a1]) (st := [.int a3]) (M2 := mX2_casesOfOpen) dX2_casesInOnePiece_33 msX2_casesOfOpen mlX2_151 rfl rfl rfl rfl rfl ho (sX2_casesOfOpen hx3) ?_
      refine sn_blk _ kX2_casesInOnePiece_10_6 (pc' := 10) (L' := [some (.ref a0), some (.int a1), some (.int a2), some (.int (a3 + x3)), some (.int (a4 + 1))]) (st' := []) rfl rfl ?_
      exact hK10 _ _ _ _ _ _ h
def fX2_casesInOnePiece_10  : Nat → Nat → Int32 → Int32 → Int32 → Int32 → Hp → Option (Int32 × Hp)
  | 0, _, _, _, _, _, _ => none
  | d + 1, a0, a1, a2, a3, a4, H => bX2_casesInOnePiece_10 (fX2_casesInOnePiece_10  d) a0 a1 a2 a3 a4 H
theorem tfX2_casesInOnePiece_10 {G : GG} {r : Int32} {H' : Hp}   : ∀ (d : Nat) {a0 : Nat} {a1 : Int32} {a2 : Int32} {a3 : Int32} {a4 : Int32} {H : Hp}, fX2_casesInOnePiece_10  d a0 a1 a2 a3 a4 H = some (r, H') → Sn G (T0 G (some (.int r)) H') mX2_casesInOnePiece 10 [some (.ref a0), some (.int a1), some (.int a2), some (.int a3), some (.int a4)] [] H := by
  intro d
  induction d with
  | zero => intro a0 a1 a2 a3 a4 H h; cases h
  | succ d ih => intro a0 a1 a2 a3 a4 H h; exact tbX2_casesInOnePiece_10 (fun a0 a1 a2 a3 a4 H h => ih h) h
def FX2_casesInOnePiece  (a0 : Nat) (a1 : Int32) (H : Hp) : Option (Int32 × Hp) :=
  gp (isO H a0 2 = true) (
    bd2 (FX2_all a0  H) fun x1 H2 =>
    fX2_casesInOnePiece_10  4096 a0 a1 x1 0 0 H2
    )
set_option maxHeartbeats 4000000 in
set_option maxRecDepth 100000 in
theorem tFX2_casesInOnePiece {G : GG} {r : Int32} {H' : Hp}   {a0 : Nat} {a1 : Int32} {H : Hp} (h : FX2_casesInOnePiece  a0 a1 H = some (r, H')) : Sn G (T0 G (some (.int r)) H') mX2_casesInOnePiece 0 [some (.ref a0), some (.int a1), none, none, none] [] H := by
  unfold FX2_casesInOnePiece at h
  refine sn_blk _ kX2_casesInOnePiece_0_0 (pc' := 1) (L' := [some (.ref a0), some (.int a1), none, none, none]) (st' := [.ref a0]) rfl rfl ?_
  obtain ⟨ho, h⟩ := gp_inv h
  obtain ⟨fs, ho⟩ := isO_inv ho
  obtain ⟨x1, H2, hx1, h⟩ := bd2_inv h
  refine sn_callv (av := []) (st := []) (M2 := mX2_all) dX2_casesInOnePiece_1 msX2_all mlX2_48 rfl rfl rfl rfl rfl ho (sX2_all hx1) ?_
  refine sn_blk _ kX2_casesInOnePiece_0_1 (pc' := 10) (L' := [some (.ref a0), some (.int a1), some (.int x1), some (.int 0), some (.int 0)]) (st' := []) rfl rfl ?_
  exact tfX2_casesInOnePiece_10  4096 h
theorem sX2_casesInOnePiece {G : GG} {r : Int32} {H' : Hp} {a0 : Nat} {a1 : Int32} {H : Hp} (h : FX2_casesInOnePiece a0 a1 H = some (r, H')) : SM G mX2_casesInOnePiece [.ref a0, .int a1] H (some (.int r)) H' := tFX2_casesInOnePiece h
/-! SquareFolds$Gluing.casesInAll()I -/
theorem kX2_casesInAll_0_0 : decB cX2_casesInAll 0 [(.iconst 1, .int 1), (.istore_n 1, .null), (.iconst 0, .int 0), (.istore_n 2, .null)] = true := by decide +kernel
theorem kX2_casesInAll_4_0 : decB cX2_casesInAll 4 [(.iload_n 2, .null), (.aload_n 0, .null)] = true := by decide +kernel
theorem kX2_casesInAll_4_1 : decB cX2_casesInAll 23 [(.iload_n 1, .null)] = true := by decide +kernel
theorem kX2_casesInAll_4_2 : decB cX2_casesInAll 12 [(.iload_n 1, .null), (.bipush 10, .int 10), (.imul, .null), (.istore_n 1, .null), (.iinc 2 1, .int 1), (.goto (-16), .retAddr 4)] = true := by decide +kernel
theorem dX2_casesInAll_6 : decode cX2_casesInAll 6 = .ok (.getfield 9, 3) := by decide +kernel
theorem dX2_casesInAll_9 : decode cX2_casesInAll 9 = .ok (.if_icmp .ge 14, 3) := by decide +kernel
theorem dX2_casesInAll_24 : decode cX2_casesInAll 24 = .ok (.ireturn, 1) := by decide +kernel
def bX2_casesInAll_4 (K4 : Nat → Int32 → Int32 → Hp → Option (Int32 × Hp)) (a0 : Nat) (a1 : Int32) (a2 : Int32) (H : Hp) : Option (Int32 × Hp) :=
  bd (gI H a0 2 0) fun x1 =>
  if (x1 ≤ a2 : Prop) then
    some (a1, H)
  else
    K4 a0 (a1 * 10) (a2 + 1) H
set_option maxHeartbeats 4000000 in
set_option maxRecDepth 100000 in
theorem tbX2_casesInAll_4 {G : GG} {r : Int32} {H' : Hp} {K4 : Nat → Int32 → Int32 → Hp → Option (Int32 × Hp)} (hK4 : ∀ (a0 : Nat) (a1 : Int32) (a2 : Int32) (H : Hp), K4 a0 a1 a2 H = some (r, H') → Sn G (T0 G (some (.int r)) H') mX2_casesInAll 4 [some (.ref a0), some (.int a1), some (.int a2)] [] H) {a0 : Nat} {a1 : Int32} {a2 : Int32} {H : Hp} (h : bX2_casesInAll_4 K4 a0 a1 a2 H = some (r, H')) : Sn G (T0 G (some (.int r)) H') mX2_casesInAll 4 [some (.ref a0), some (.int a1), some (.int a2)] [] H := by
  unfold bX2_casesInAll_4 at h
  refine sn_blk _ kX2_casesInAll_4_0 (pc' := 6) (L' := [some (.ref a0), some (.int a1), some (.int a2)]) (st' := [.ref a0, .int a2]) rfl rfl ?_
  obtain ⟨x1, hx1, h⟩ := bd_inv h
  refine sn_gI dX2_casesInAll_6 foX2_9 hx1 ?_
  refine sn_icmp_ge (tgt := 23) dX2_casesInAll_9 (by decide) (fun c => ?_) (fun c => ?_)
  · rw [if_pos c] at h
    refine sn_blk _ kX2_casesInAll_4_1 (pc' := 24) (L' := [some (.ref a0), some (.int a1), some (.int a2)]) (st' := [.int a1]) rfl rfl ?_
    cases h
    exact sn_iret (ty := .int) dX2_casesInAll_24 rfl rfl
  · rw [if_neg c] at h
    refine sn_blk _ kX2_casesInAll_4_2 (pc' := 4) (L' := [some (.ref a0), some (.int (a1 * 10)), some (.int (a2 + 1))]) (st' := []) rfl rfl ?_
    exact hK4 _ _ _ _ h
def fX2_casesInAll_4  : Nat → Nat → Int32 → Int32 → Hp → Option (Int32 × Hp)
  | 0, _, _, _, _ => none
  | d + 1, a0, a1, a2, H => bX2_casesInAll_4 (fX2_casesInAll_4  d) a0 a1 a2 H
theorem tfX2_casesInAll_4 {G : GG} {r : Int32} {H' : Hp}   : ∀ (d : Nat) {a0 : Nat} {a1 : Int32} {a2 : Int32} {H : Hp}, fX2_casesInAll_4  d a0 a1 a2 H = some (r, H') → Sn G (T0 G (some (.int r)) H') mX2_casesInAll 4 [some (.ref a0), some (.int a1), some (.int a2)] [] H := by
  intro d
  induction d with
  | zero => intro a0 a1 a2 H h; cases h
  | succ d ih => intro a0 a1 a2 H h; exact tbX2_casesInAll_4 (fun a0 a1 a2 H h => ih h) h
def FX2_casesInAll  (a0 : Nat) (H : Hp) : Option (Int32 × Hp) :=
  fX2_casesInAll_4  4096 a0 1 0 H
set_option maxHeartbeats 4000000 in
set_option maxRecDepth 100000 in
theorem tFX2_casesInAll {G : GG} {r : Int32} {H' : Hp}   {a0 : Nat} {H : Hp} (h : FX2_casesInAll  a0 H = some (r, H')) : Sn G (T0 G (some (.int r)) H') mX2_casesInAll 0 [some (.ref a0), none, none] [] H := by
  unfold FX2_casesInAll at h
  refine sn_blk _ kX2_casesInAll_0_0 (pc' := 4) (L' := [some (.ref a0), some (.int 1), some (.int 0)]) (st' := []) rfl rfl ?_
  exact tfX2_casesInAll_4  4096 h
theorem sX2_casesInAll {G : GG} {r : Int32} {H' : Hp} {a0 : Nat} {H : Hp} (h : FX2_casesInAll a0 H = some (r, H')) : SM G mX2_casesInAll [.ref a0] H (some (.int r)) H' := tFX2_casesInAll h
/-! SquareFolds$Gluing.leftBy(J)I -/
theorem kX2_leftBy_0_0 : decB cX2_leftBy 0 [(.aload_n 0, .null)] = true := by decide +kernel
theorem kX2_leftBy_0_1 : decB cX2_leftBy 18 [(.iconst 0, .int 0)] = true := by decide +kernel
theorem kX2_leftBy_0_2 : decB cX2_leftBy 7 [(.lload_n 1, .null), (.aload_n 0, .null)] = true := by decide +kernel
theorem kX2_leftBy_0_3 : decB cX2_leftBy 12 [(.i2l, .null)] = true := by decide +kernel
theorem kX2_leftBy_0_4 : decB cX2_leftBy 14 [(.l2i, .null), (.goto 4, .retAddr 19)] = true := by decide +kernel
theorem dX2_leftBy_1 : decode cX2_leftBy 1 = .ok (.getfield 9, 3) := by decide +kernel
theorem dX2_leftBy_4 : decode cX2_leftBy 4 = .ok (.ifCond .le 14, 3) := by decide +kernel
theorem dX2_leftBy_9 : decode cX2_leftBy 9 = .ok (.getfield 9, 3) := by decide +kernel
theorem dX2_leftBy_13 : decode cX2_leftBy 13 = .ok (.lrem, 1) := by decide +kernel
theorem dX2_leftBy_19 : decode cX2_leftBy 19 = .ok (.ireturn, 1) := by decide +kernel
def FX2_leftBy  (a0 : Nat) (a1 : Int64) (H : Hp) : Option (Int32 × Hp) :=
  bd (gI H a0 2 0) fun x1 =>
  if (x1 ≤ 0 : Prop) then
    some (0, H)
  else
    bd (gI H a0 2 0) fun x2 =>
    gp (¬ (Int32.toInt64 x2) = 0) (
      some ((Int64.toInt32 (rJ a1 (Int32.toInt64 x2))), H)
      )
set_option maxHeartbeats 4000000 in
set_option maxRecDepth 100000 in
theorem tFX2_leftBy {G : GG} {r : Int32} {H' : Hp}   {a0 : Nat} {a1 : Int64} {H : Hp} (h : FX2_leftBy  a0 a1 H = some (r, H')) : Sn G (T0 G (some (.int r)) H') mX2_leftBy 0 [some (.ref a0), some (.long a1), none] [] H := by
  unfold FX2_leftBy at h
  refine sn_blk _ kX2_leftBy_0_0 (pc' := 1) (L' := [some (.ref a0), some (.long a1), none]) (st' := [.ref a0]) rfl rfl ?_
  obtain ⟨x1, hx1, h⟩ := bd_inv h
  refine sn_gI dX2_leftBy_1 foX2_9 hx1 ?_
  refine sn_if_le (tgt := 18) dX2_leftBy_4 (by decide) (fun c => ?_) (fun c => ?_)
  · rw [if_pos c] at h
    refine sn_blk _ kX2_leftBy_0_1 (pc' := 19) (L' := [some (.ref a0), some (.long a1), none]) (st' := [.int 0]) rfl rfl ?_
    cases h
    exact sn_iret (ty := .int) dX2_leftBy_19 rfl rfl
  · rw [if_neg c] at h
    refine sn_blk _ kX2_leftBy_0_2 (pc' := 9) (L' := [some (.ref a0), some (.long a1), none]) (st' := [.ref a0, .long a1]) rfl rfl ?_
    obtain ⟨x2, hx2, h⟩ := bd_inv h
    refine sn_gI dX2_leftBy_9 foX2_9 hx2 ?_
    refine sn_blk _ kX2_leftBy_0_3 (pc' := 13) (L' := [some (.ref a0), some (.long a1), none]) (st' := [.long (Int32.toInt64 x2), .long a1]) rfl rfl ?_
    obtain ⟨hy, h⟩ := gp_inv h
    refine sn_lrem dX2_leftBy_13 hy ?_
    refine sn_blk _ kX2_leftBy_0_4 (pc' := 19) (L' := [some (.ref a0), some (.long a1), none]) (st' := [.int (Int64.toInt32 (rJ a1 (Int32.toInt64 x2)))]) rfl rfl ?_
    cases h
    exact sn_iret (ty := .int) dX2_leftBy_19 rfl rfl
theorem sX2_leftBy {G : GG} {r : Int32} {H' : Hp} {a0 : Nat} {a1 : Int64} {H : Hp} (h : FX2_leftBy a0 a1 H = some (r, H')) : SM G mX2_leftBy [.ref a0, .long a1] H (some (.int r)) H' := tFX2_leftBy h
/-! SquareFolds$Gluing.doDrawn(J)V -/
theorem kX2_doDrawn_0_0 : decB cX2_doDrawn 0 [(.lload_n 1, .null)] = true := by decide +kernel
theorem kX2_doDrawn_0_1 : decB cX2_doDrawn 5 [(.l2i, .null), (.istore_n 3, .null), (.iload_n 3, .null), (.iconst 2, .int 2)] = true := by decide +kernel
theorem kX2_doDrawn_0_2 : decB cX2_doDrawn 18 [(.aload_n 0, .null), (.lload_n 1, .null)] = true := by decide +kernel
theorem kX2_doDrawn_0_3 : decB cX2_doDrawn 27 [(.istore 4, .null), (.aload_n 0, .null), (.lload_n 1, .null)] = true := by decide +kernel
theorem kX2_doDrawn_0_4 : decB cX2_doDrawn 38 [(.istore 5, .null), (.iload 4, .null), (.iload 5, .null)] = true := by decide +kernel
theorem kX2_doDrawn_0_5 : decB cX2_doDrawn 47 [(.aload_n 0, .null), (.iload 4, .null), (.iload 5, .null)] = true := by decide +kernel
theorem kX2_doDrawn_0_6 : decB cX2_doDrawn 12 [(.aload_n 0, .null), (.iload_n 3, .null)] = true := by decide +kernel
theorem dX2_doDrawn_1 : decode cX2_doDrawn 1 = .ok (.ldc2_w 107, 3) := by decide +kernel
theorem dX2_doDrawn_4 : decode cX2_doDrawn 4 = .ok (.lrem, 1) := by decide +kernel
theorem dX2_doDrawn_9 : decode cX2_doDrawn 9 = .ok (.if_icmp .gt 9, 3) := by decide +kernel
theorem dX2_doDrawn_14 : decode cX2_doDrawn 14 = .ok (.invokevirtual 109, 3) := by decide +kernel
theorem dX2_doDrawn_17 : decode cX2_doDrawn 17 = .ok (.return_, 1) := by decide +kernel
theorem dX2_doDrawn_20 : decode cX2_doDrawn 20 = .ok (.ldc2_w 113, 3) := by decide +kernel
theorem dX2_doDrawn_23 : decode cX2_doDrawn 23 = .ok (.ldiv, 1) := by decide +kernel
theorem dX2_doDrawn_24 : decode cX2_doDrawn 24 = .ok (.invokevirtual 115, 3) := by decide +kernel
theorem dX2_doDrawn_31 : decode cX2_doDrawn 31 = .ok (.ldc2_w 119, 3) := by decide +kernel
theorem dX2_doDrawn_34 : decode cX2_doDrawn 34 = .ok (.ldiv, 1) := by decide +kernel
theorem dX2_doDrawn_35 : decode cX2_doDrawn 35 = .ok (.invokevirtual 115, 3) := by decide +kernel
theorem dX2_doDrawn_44 : decode cX2_doDrawn 44 = .ok (.if_icmp .eq 11, 3) := by decide +kernel
theorem dX2_doDrawn_52 : decode cX2_doDrawn 52 = .ok (.invokevirtual 121, 3) := by decide +kernel
theorem dX2_doDrawn_55 : decode cX2_doDrawn 55 = .ok (.return_, 1) := by decide +kernel
def FX2_doDrawn  (a0 : Nat) (a1 : Int64) (H : Hp) : Option (Unit × Hp) :=
  if (2 < (Int64.toInt32 (rJ a1 4)) : Prop) then
    gp (isO H a0 2 = true) (
      bd2 (FX2_leftBy a0 (a1 / 8) H) fun x1 H2 =>
      gp (isO H2 a0 2 = true) (
        bd2 (FX2_leftBy a0 (a1 / 64) H2) fun x3 H4 =>
        if (x1 = x3 : Prop) then
          some ((), H4)
        else
          gp (isO H4 a0 2 = true) (
            bd2 (FX2_doTrade a0 x1 x3 H4) fun _ H6 =>
            some ((), H6)
            )
        )
      )
  else
    gp (isO H a0 2 = true) (
      bd2 (FX2_doShear a0 (Int64.toInt32 (rJ a1 4)) H) fun _ H8 =>
      some ((), H8)
      )
set_option maxHeartbeats 4000000 in
set_option maxRecDepth 100000 in
theorem tFX2_doDrawn {G : GG} {r : Unit} {H' : Hp}   {a0 : Nat} {a1 : Int64} {H : Hp} (h : FX2_doDrawn  a0 a1 H = some (r, H')) : Sn G (T0 G none H') mX2_doDrawn 0 [some (.ref a0), some (.long a1), none, none, none, none] [] H := by
  unfold FX2_doDrawn at h
  refine sn_blk _ kX2_doDrawn_0_0 (pc' := 1) (L' := [some (.ref a0), some (.long a1), none, none, none, none]) (st' := [.long a1]) rfl rfl ?_
  refine sn_ldc2 dX2_doDrawn_1 kcX2_107 ?_
  refine sn_lrem dX2_doDrawn_4 (by decide) ?_
  refine sn_blk _ kX2_doDrawn_0_1 (pc' := 9) (L' := [some (.ref a0), some (.long a1), none, some (.int (Int64.toInt32 (rJ a1 4))), none, none]) (st' := [.int 2, .int (Int64.toInt32 (rJ a1 4))]) rfl rfl ?_
  refine sn_icmp_gt (tgt := 18) dX2_doDrawn_9 (by decide) (fun c => ?_) (fun c => ?_)
  · rw [if_pos c] at h
    refine sn_blk _ kX2_doDrawn_0_2 (pc' := 20) (L' := [some (.ref a0), some (.long a1), none, some (.int (Int64.toInt32 (rJ a1 4))), none, none]) (st' := [.long a1, .ref a0]) rfl rfl ?_
    refine sn_ldc2 dX2_doDrawn_20 kcX2_113 ?_
    refine sn_ldiv dX2_doDrawn_23 (by decide) ?_
    obtain ⟨ho, h⟩ := gp_inv h
    obtain ⟨fs, ho⟩ := isO_inv ho
    obtain ⟨x1, H2, hx1, h⟩ := bd2_inv h
    refine sn_callv (av := [.long (a1 / 8)]) (st := []) (M2 := mX2_leftBy) dX2_doDrawn_24 msX2_leftBy mlX2_115 rfl rfl rfl rfl rfl ho (sX2_leftBy hx1) ?_
    refine sn_blk _ kX2_doDrawn_0_3 (pc' := 31) (L' := [some (.ref a0), some (.long a1), none, some (.int (Int64.toInt32 (rJ a1 4))), some (.int x1), none]) (st' := [.long a1, .ref a0]) rfl rfl ?_
    refine sn_ldc2 dX2_doDrawn_31 kcX2_119 ?_
    refine sn_ldiv dX2_doDrawn_34 (by decide) ?_
    obtain ⟨ho, h⟩ := gp_inv h
    obtain ⟨fs, ho⟩ := isO_inv ho
    obtain ⟨x3, H4, hx3, h⟩ := bd2_inv h
    refine sn_callv (av := [.long (a1 / 64)]) (st := []) (M2 := mX2_leftBy) dX2_doDrawn_35 msX2_leftBy mlX2_115 rfl rfl rfl rfl rfl ho (sX2_leftBy hx3) ?_
    refine sn_blk _ kX2_doDrawn_0_4 (pc' := 44) (L' := [some (.ref a0), some (.long a1), none, some (.int (Int64.toInt32 (rJ a1 4))), some (.int x1), some (.int x3)]) (st' := [.int x3, .int x1]) rfl rfl ?_
    refine sn_icmp_eq (tgt := 55) dX2_doDrawn_44 (by decide) (fun c => ?_) (fun c => ?_)
    · rw [if_pos c] at h
      cases h
      exact sn_vret dX2_doDrawn_55 rfl
    · rw [if_neg c] at h
      refine sn_blk _ kX2_doDrawn_0_5 (pc' := 52) (L' := [some (.ref a0), some (.long a1), none, some (.int (Int64.toInt32 (rJ a1 4))), some (.int x1), some (.int x3)]) (st' := [.int x3, .int x1, .ref a0]) rfl rfl ?_
      obtain ⟨ho, h⟩ := gp_inv h
      obtain ⟨fs, ho⟩ := isO_inv ho
      obtain ⟨x5, H6, hx5, h⟩ := bd2_inv h
      refine sn_callv (av := [.int x1, .int x3]) (st := []) (M2 := mX2_doTrade) dX2_doDrawn_52 msX2_doTrade mlX2_121 rfl rfl rfl rfl rfl ho (sX2_doTrade hx5) ?_
      cases h
      exact sn_vret dX2_doDrawn_55 rfl
  · rw [if_neg c] at h
    refine sn_blk _ kX2_doDrawn_0_6 (pc' := 14) (L' := [some (.ref a0), some (.long a1), none, some (.int (Int64.toInt32 (rJ a1 4))), none, none]) (st' := [.int (Int64.toInt32 (rJ a1 4)), .ref a0]) rfl rfl ?_
    obtain ⟨ho, h⟩ := gp_inv h
    obtain ⟨fs, ho⟩ := isO_inv ho
    obtain ⟨x7, H8, hx7, h⟩ := bd2_inv h
    refine sn_callv (av := [.int (Int64.toInt32 (rJ a1 4))]) (st := []) (M2 := mX2_doShear) dX2_doDrawn_14 msX2_doShear mlX2_109 rfl rfl rfl rfl rfl ho (sX2_doShear hx7) ?_
    cases h
    exact sn_vret dX2_doDrawn_17 rfl
theorem sX2_doDrawn {G : GG} {r : Unit} {H' : Hp} {a0 : Nat} {a1 : Int64} {H : Hp} (h : FX2_doDrawn a0 a1 H = some (r, H')) : SM G mX2_doDrawn [.ref a0, .long a1] H none H' := tFX2_doDrawn h
