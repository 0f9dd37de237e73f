/-! SquareFolds$Row.isIn(II)Z -/
theorem kX6_isIn_0_0 : decB cX6_isIn 0 [(.iload_n 0, .null), (.iload_n 1, .null), (.iushr, .null), (.iconst 1, .int 1), (.iand, .null), (.iconst 1, .int 1)] = true := by decide +kernel
theorem kX6_isIn_0_1 : decB cX6_isIn 13 [(.iconst 0, .int 0)] = true := by decide +kernel
theorem kX6_isIn_0_2 : decB cX6_isIn 9 [(.iconst 1, .int 1), (.goto 4, .retAddr 14)] = true := by decide +kernel
theorem dX6_isIn_6 : decode cX6_isIn 6 = .ok (.if_icmp .ne 7, 3) := by decide +kernel
theorem dX6_isIn_14 : decode cX6_isIn 14 = .ok (.ireturn, 1) := by decide +kernel
def FX6_isIn  (a0 : Int32) (a1 : Int32) (H : Hp) : Option (Int32 × Hp) :=
  if (((iushrF a0 a1) &&& 1) = 1 : Prop) then
    some (1, H)
  else
    some (0, H)
set_option maxHeartbeats 4000000 in
set_option maxRecDepth 100000 in
theorem tFX6_isIn {G : GG} {r : Int32} {H' : Hp}   {a0 : Int32} {a1 : Int32} {H : Hp} (h : FX6_isIn  a0 a1 H = some (r, H')) : Sn G (T0 G (some (.int r)) H') mX6_isIn 0 [some (.int a0), some (.int a1)] [] H := by
  unfold FX6_isIn at h
  refine sn_blk _ kX6_isIn_0_0 (pc' := 6) (L' := [some (.int a0), some (.int a1)]) (st' := [.int 1, .int ((iushrF a0 a1) &&& 1)]) rfl rfl ?_
  refine sn_icmp_ne (tgt := 13) dX6_isIn_6 (by decide) (fun c => ?_) (fun c => ?_)
  · rw [if_neg c] at h
    refine sn_blk _ kX6_isIn_0_1 (pc' := 14) (L' := [some (.int a0), some (.int a1)]) (st' := [.int 0]) rfl rfl ?_
    cases h
    exact sn_iret (ty := .boolean) dX6_isIn_14 rfl rfl
  · rw [if_pos c] at h
    refine sn_blk _ kX6_isIn_0_2 (pc' := 14) (L' := [some (.int a0), some (.int a1)]) (st' := [.int 1]) rfl rfl ?_
    cases h
    exact sn_iret (ty := .boolean) dX6_isIn_14 rfl rfl
theorem sX6_isIn {G : GG} {r : Int32} {H' : Hp} {a0 : Int32} {a1 : Int32} {H : Hp} (h : FX6_isIn a0 a1 H = some (r, H')) : SM G mX6_isIn [.int a0, .int a1] H (some (.int r)) H' := tFX6_isIn h
/-! SquareFolds$Row.put(III)I -/
theorem kX6_put_0_0 : decB cX6_put 0 [(.iload_n 0, .null), (.iload_n 2, .null), (.iconst 3, .int 3), (.iload_n 1, .null), (.imul, .null), (.ishl, .null), (.ior, .null)] = true := by decide +kernel
theorem dX6_put_7 : decode cX6_put 7 = .ok (.ireturn, 1) := by decide +kernel
def FX6_put  (a0 : Int32) (a1 : Int32) (a2 : Int32) (H : Hp) : Option (Int32 × Hp) :=
  some ((a0 ||| (a2 <<< ((3 * a1) &&& 31))), H)
set_option maxHeartbeats 4000000 in
set_option maxRecDepth 100000 in
theorem tFX6_put {G : GG} {r : Int32} {H' : Hp}   {a0 : Int32} {a1 : Int32} {a2 : Int32} {H : Hp} (h : FX6_put  a0 a1 a2 H = some (r, H')) : Sn G (T0 G (some (.int r)) H') mX6_put 0 [some (.int a0), some (.int a1), some (.int a2)] [] H := by
  unfold FX6_put at h
  refine sn_blk _ kX6_put_0_0 (pc' := 7) (L' := [some (.int a0), some (.int a1), some (.int a2)]) (st' := [.int (a0 ||| (a2 <<< ((3 * a1) &&& 31)))]) rfl rfl ?_
  cases h
  exact sn_iret (ty := .int) dX6_put_7 rfl rfl
theorem sX6_put {G : GG} {r : Int32} {H' : Hp} {a0 : Int32} {a1 : Int32} {a2 : Int32} {H : Hp} (h : FX6_put a0 a1 a2 H = some (r, H')) : SM G mX6_put [.int a0, .int a1, .int a2] H (some (.int r)) H' := tFX6_put h
/-! SquareFolds$Row.at(II)I -/
theorem kX6_at_0_0 : decB cX6_at 0 [(.iload_n 0, .null), (.iconst 3, .int 3), (.iload_n 1, .null), (.imul, .null), (.iushr, .null), (.bipush 7, .int 7), (.iand, .null)] = true := by decide +kernel
theorem dX6_at_8 : decode cX6_at 8 = .ok (.ireturn, 1) := by decide +kernel
def FX6_at  (a0 : Int32) (a1 : Int32) (H : Hp) : Option (Int32 × Hp) :=
  some (((iushrF a0 (3 * a1)) &&& 7), H)
set_option maxHeartbeats 4000000 in
set_option maxRecDepth 100000 in
theorem tFX6_at {G : GG} {r : Int32} {H' : Hp}   {a0 : Int32} {a1 : Int32} {H : Hp} (h : FX6_at  a0 a1 H = some (r, H')) : Sn G (T0 G (some (.int r)) H') mX6_at 0 [some (.int a0), some (.int a1)] [] H := by
  unfold FX6_at at h
  refine sn_blk _ kX6_at_0_0 (pc' := 8) (L' := [some (.int a0), some (.int a1)]) (st' := [.int ((iushrF a0 (3 * a1)) &&& 7)]) rfl rfl ?_
  cases h
  exact sn_iret (ty := .int) dX6_at_8 rfl rfl
theorem sX6_at {G : GG} {r : Int32} {H' : Hp} {a0 : Int32} {a1 : Int32} {H : Hp} (h : FX6_at a0 a1 H = some (r, H')) : SM G mX6_at [.int a0, .int a1] H (some (.int r)) H' := tFX6_at h
/-! SquareFolds$Row.then(III)I -/
theorem kX6_then_0_0 : decB cX6_then 0 [(.iconst 0, .int 0), (.istore_n 3, .null), (.iconst 0, .int 0), (.istore 4, .null)] = true := by decide +kernel
theorem kX6_then_5_0 : decB cX6_then 5 [(.iload 4, .null), (.iload_n 2, .null)] = true := by decide +kernel
theorem kX6_then_5_1 : decB cX6_then 34 [(.iload_n 3, .null)] = true := by decide +kernel
theorem kX6_then_5_2 : decB cX6_then 11 [(.iload_n 3, .null), (.iload 4, .null), (.iload_n 1, .null), (.iload_n 0, .null), (.iload 4, .null)] = true := by decide +kernel
theorem kX6_then_5_3 : decB cX6_then 27 [(.istore_n 3, .null), (.iinc 4 1, .int 1), (.goto (-26), .retAddr 5)] = true := by decide +kernel
theorem dX6_then_8 : decode cX6_then 8 = .ok (.if_icmp .ge 26, 3) := by decide +kernel
theorem dX6_then_18 : decode cX6_then 18 = .ok (.invokestatic 13, 3) := by decide +kernel
theorem dX6_then_21 : decode cX6_then 21 = .ok (.invokestatic 13, 3) := by decide +kernel
theorem dX6_then_24 : decode cX6_then 24 = .ok (.invokestatic 7, 3) := by decide +kernel
theorem dX6_then_35 : decode cX6_then 35 = .ok (.ireturn, 1) := by decide +kernel
def bX6_then_5 (K5 : Int32 → Int32 → Int32 → Int32 → Int32 → Hp → Option (Int32 × Hp)) (a0 : Int32) (a1 : Int32) (a2 : Int32) (a3 : Int32) (a4 : Int32) (H : Hp) : Option (Int32 × Hp) :=
  if (a2 ≤ a4 : Prop) then
    some (a3, H)
  else
    bd2 (FX6_at a0 a4 H) fun x1 H2 =>
    bd2 (FX6_at a1 x1 H2) fun x3 H4 =>
    bd2 (FX6_put a3 a4 x3 H4) fun x5 H6 =>
    K5 a0 a1 a2 x5 (a4 + 1) H6
set_option maxHeartbeats 4000000 in
set_option maxRecDepth 100000 in
theorem tbX6_then_5 {G : GG} {r : Int32} {H' : Hp} {K5 : Int32 → Int32 → Int32 → Int32 → Int32 → Hp → Option (Int32 × Hp)} (hK5 : ∀ (a0 : Int32) (a1 : Int32) (a2 : Int32) (a3 : Int32) (a4 : Int32) (H : Hp), K5 a0 a1 a2 a3 a4 H = some (r, H') → Sn G (T0 G (some (.int r)) H') mX6_then 5 [some (.int a0), some (.int a1), some (.int a2), some (.int a3), some (.int a4)] [] H) {a0 : Int32} {a1 : Int32} {a2 : Int32} {a3 : Int32} {a4 : Int32} {H : Hp} (h : bX6_then_5 K5 a0 a1 a2 a3 a4 H = some (r, H')) : Sn G (T0 G (some (.int r)) H') mX6_then 5 [some (.int a0), some (.int a1), some (.int a2), some (.int a3), some (.int a4)] [] H := by
  unfold bX6_then_5 at h
  refine sn_blk _ kX6_then_5_0 (pc' := 8) (L' := [some (.int a0), some (.int a1), some (.int a2), some (.int a3), some (.int a4)]) (st' := [.int a2, .int a4]) rfl rfl ?_
  refine sn_icmp_ge (tgt := 34) dX6_then_8 (by decide) (fun c => ?_) (fun c => ?_)
  · rw [if_pos c] at h
    refine sn_blk _ kX6_then_5_1 (pc' := 35) (L' := [some (.int a0), some (.int a1), some (.int a2), some (.int a3), some (.int a4)]) (st' := [.int a3]) rfl rfl ?_
    cases h
    exact sn_iret (ty := .int) dX6_then_35 rfl rfl
  · rw [if_neg c] at h
    refine sn_blk _ kX6_then_5_2 (pc' := 18) (L' := [some (.int a0), some (.int a1), some (.int a2), some (.int a3), some (.int a4)]) (st' := [.int a4, .int a0, .int a1, .int a4, .int a3]) rfl rfl ?_
    obtain ⟨x1, H2, hx1, h⟩ := bd2_inv h
    refine sn_calls (av := [.int a0, .int a4]) (st := [.int a1, .int a4, .int a3]) (M2 := mX6_at) dX6_then_18 msX6_at mlX6_13 rfl rfl rfl rfl rfl (sX6_at hx1) ?_
    obtain ⟨x3, H4, hx3, h⟩ := bd2_inv h
    refine sn_calls (av := [.int a1, .int x1]) (st := [.int a4, .int a3]) (M2 := mX6_at) dX6_then_21 msX6_at mlX6_13 rfl rfl rfl rfl rfl (sX6_at hx3) ?_
    obtain ⟨x5, H6, hx5, h⟩ := bd2_inv h
    refine sn_calls (av := [.int a3, .int a4, .int x3]) (st := []) (M2 := mX6_put) dX6_then_24 msX6_put mlX6_7 rfl rfl rfl rfl rfl (sX6_put hx5) ?_
    refine sn_blk _ kX6_then_5_3 (pc' := 5) (L' := [some (.int a0), some (.int a1), some (.int a2), some (.int x5), some (.int (a4 + 1))]) (st' := []) rfl rfl ?_
    exact hK5 _ _ _ _ _ _ h
def fX6_then_5  : Nat → Int32 → Int32 → Int32 → Int32 → Int32 → Hp → Option (Int32 × Hp)
  | 0, _, _, _, _, _, _ => none
  | d + 1, a0, a1, a2, a3, a4, H => bX6_then_5 (fX6_then_5  d) a0 a1 a2 a3 a4 H
theorem tfX6_then_5 {G : GG} {r : Int32} {H' : Hp}   : ∀ (d : Nat) {a0 : Int32} {a1 : Int32} {a2 : Int32} {a3 : Int32} {a4 : Int32} {H : Hp}, fX6_then_5  d a0 a1 a2 a3 a4 H = some (r, H') → Sn G (T0 G (some (.int r)) H') mX6_then 5 [some (.int a0), some (.int a1), some (.int a2), some (.int a3), some (.int a4)] [] H := by
  intro d
  induction d with
  | zero => intro a0 a1 a2 a3 a4 H h; cases h
  | succ d ih => intro a0 a1 a2 a3 a4 H h; exact tbX6_then_5 (fun a0 a1 a2 a3 a4 H h => ih h) h
def FX6_then  (a0 : Int32) (a1 : Int32) (a2 : Int32) (H : Hp) : Option (Int32 × Hp) :=
  fX6_then_5  4096 a0 a1 a2 0 0 H
set_option maxHeartbeats 4000000 in
set_option maxRecDepth 100000 in
theorem tFX6_then {G : GG} {r : Int32} {H' : Hp}   {a0 : Int32} {a1 : Int32} {a2 : Int32} {H : Hp} (h : FX6_then  a0 a1 a2 H = some (r, H')) : Sn G (T0 G (some (.int r)) H') mX6_then 0 [some (.int a0), some (.int a1), some (.int a2), none, none] [] H := by
  unfold FX6_then at h
  refine sn_blk _ kX6_then_0_0 (pc' := 5) (L' := [some (.int a0), some (.int a1), some (.int a2), some (.int 0), some (.int 0)]) (st' := []) rfl rfl ?_
  exact tfX6_then_5  4096 h
theorem sX6_then {G : GG} {r : Int32} {H' : Hp} {a0 : Int32} {a1 : Int32} {a2 : Int32} {H : Hp} (h : FX6_then a0 a1 a2 H = some (r, H')) : SM G mX6_then [.int a0, .int a1, .int a2] H (some (.int r)) H' := tFX6_then h
/-! SquareFolds$Row.back(II)I -/
theorem kX6_back_0_0 : decB cX6_back 0 [(.iconst 0, .int 0), (.istore_n 2, .null), (.iconst 0, .int 0), (.istore_n 3, .null)] = true := by decide +kernel
theorem kX6_back_4_0 : decB cX6_back 4 [(.iload_n 3, .null), (.iload_n 1, .null)] = true := by decide +kernel
theorem kX6_back_4_1 : decB cX6_back 26 [(.iload_n 2, .null)] = true := by decide +kernel
theorem kX6_back_4_2 : decB cX6_back 9 [(.iload_n 2, .null), (.iload_n 0, .null), (.iload_n 3, .null)] = true := by decide +kernel
theorem kX6_back_4_3 : decB cX6_back 15 [(.iload_n 3, .null)] = true := by decide +kernel
theorem kX6_back_4_4 : decB cX6_back 19 [(.istore_n 2, .null), (.iinc 3 1, .int 1), (.goto (-19), .retAddr 4)] = true := by decide +kernel
theorem dX6_back_6 : decode cX6_back 6 = .ok (.if_icmp .ge 20, 3) := by decide +kernel
theorem dX6_back_12 : decode cX6_back 12 = .ok (.invokestatic 13, 3) := by decide +kernel
theorem dX6_back_16 : decode cX6_back 16 = .ok (.invokestatic 7, 3) := by decide +kernel
theorem dX6_back_27 : decode cX6_back 27 = .ok (.ireturn, 1) := by decide +kernel
def bX6_back_4 (K4 : Int32 → Int32 → Int32 → Int32 → Hp → Option (Int32 × Hp)) (a0 : Int32) (a1 : Int32) (a2 : Int32) (a3 : Int32) (H : Hp) : Option (Int32 × Hp) :=
  if (a1 ≤ a3 : Prop) then
    some (a2, H)
  else
    bd2 (FX6_at a0 a3 H) fun x1 H2 =>
    bd2 (FX6_put a2 x1 a3 H2) fun x3 H4 =>
    K4 a0 a1 x3 (a3 + 1) H4
set_option maxHeartbeats 4000000 in
set_option maxRecDepth 100000 in
theorem tbX6_back_4 {G : GG} {r : Int32} {H' : Hp} {K4 : Int32 → Int32 → Int32 → Int32 → Hp → Option (Int32 × Hp)} (hK4 : ∀ (a0 : Int32) (a1 : Int32) (a2 : Int32) (a3 : Int32) (H : Hp), K4 a0 a1 a2 a3 H = some (r, H') → Sn G (T0 G (some (.int r)) H') mX6_back 4 [some (.int a0), some (.int a1), some (.int a2), some (.int a3)] [] H) {a0 : Int32} {a1 : Int32} {a2 : Int32} {a3 : Int32} {H : Hp} (h : bX6_back_4 K4 a0 a1 a2 a3 H = some (r, H')) : Sn G (T0 G (some (.int r)) H') mX6_back 4 [some (.int a0), some (.int a1), some (.int a2), some (.int a3)] [] H := by
  unfold bX6_back_4 at h
  refine sn_blk _ kX6_back_4_0 (pc' := 6) (L' := [some (.int a0), some (.int a1), some (.int a2), some (.int a3)]) (st' := [.int a1, .int a3]) rfl rfl ?_
  refine sn_icmp_ge (tgt := 26) dX6_back_6 (by decide) (fun c => ?_) (fun c => ?_)
  · rw [if_pos c] at h
    refine sn_blk _ kX6_back_4_1 (pc' := 27) (L' := [some (.int a0), some (.int a1), some (.int a2), some (.int a3)]) (st' := [.int a2]) rfl rfl ?_
    cases h
    exact sn_iret (ty := .int) dX6_back_27 rfl rfl
  · rw [if_neg c] at h
    refine sn_blk _ kX6_back_4_2 (pc' := 12) (L' := [some (.int a0), some (.int a1), some (.int a2), some (.int a3)]) (st' := [.int a3, .int a0, .int a2]) rfl rfl ?_
    obtain ⟨x1, H2, hx1, h⟩ := bd2_inv h
    refine sn_calls (av := [.int a0, .int a3]) (st := [.int a2]) (M2 := mX6_at) dX6_back_12 msX6_at mlX6_13 rfl rfl rfl rfl rfl (sX6_at hx1) ?_
    refine sn_blk _ kX6_back_4_3 (pc' := 16) (L' := [some (.int a0), some (.int a1), some (.int a2), some (.int a3)]) (st' := [.int a3, .int x1, .int a2]) rfl rfl ?_
    obtain ⟨x3, H4, hx3, h⟩ := bd2_inv h
    refine sn_calls (av := [.int a2, .int x1, .int a3]) (st := []) (M2 := mX6_put) dX6_back_16 msX6_put mlX6_7 rfl rfl rfl rfl rfl (sX6_put hx3) ?_
    refine sn_blk _ kX6_back_4_4 (pc' := 4) (L' := [some (.int a0), some (.int a1), some (.int x3), some (.int (a3 + 1))]) (st' := []) rfl rfl ?_
    exact hK4 _ _ _ _ _ h
def fX6_back_4  : Nat → Int32 → Int32 → Int32 → Int32 → Hp → Option (Int32 × Hp)
  | 0, _, _, _, _, _ => none
  | d + 1, a0, a1, a2, a3, H => bX6_back_4 (fX6_back_4  d) a0 a1 a2 a3 H
theorem tfX6_back_4 {G : GG} {r : Int32} {H' : Hp}   : ∀ (d : Nat) {a0 : Int32} {a1 : Int32} {a2 : Int32} {a3 : Int32} {H : Hp}, fX6_back_4  d a0 a1 a2 a3 H = some (r, H') → Sn G (T0 G (some (.int r)) H') mX6_back 4 [some (.int a0), some (.int a1), some (.int a2), some (.int a3)] [] H := by
  intro d
  induction d with
  | zero => intro a0 a1 a2 a3 H h; cases h
  | succ d ih => intro a0 a1 a2 a3 H h; exact tbX6_back_4 (fun a0 a1 a2 a3 H h => ih h) h
def FX6_back  (a0 : Int32) (a1 : Int32) (H : Hp) : Option (Int32 × Hp) :=
  fX6_back_4  4096 a0 a1 0 0 H
set_option maxHeartbeats 4000000 in
set_option maxRecDepth 100000 in
theorem tFX6_back {G : GG} {r : Int32} {H' : Hp}   {a0 : Int32} {a1 : Int32} {H : Hp} (h : FX6_back  a0 a1 H = some (r, H')) : Sn G (T0 G (some (.int r)) H') mX6_back 0 [some (.int a0), some (.int a1), none, none] [] H := by
  unfold FX6_back at h
  refine sn_blk _ kX6_back_0_0 (pc' := 4) (L' := [some (.int a0), some (.int a1), some (.int 0), some (.int 0)]) (st' := []) rfl rfl ?_
  exact tfX6_back_4  4096 h
theorem sX6_back {G : GG} {r : Int32} {H' : Hp} {a0 : Int32} {a1 : Int32} {H : Hp} (h : FX6_back a0 a1 H = some (r, H')) : SM G mX6_back [.int a0, .int a1] H (some (.int r)) H' := tFX6_back h
/-! SquareFolds$Row.ring(III)I -/
theorem kX6_ring_0_0 : decB cX6_ring 0 [(.iconst 0, .int 0), (.istore_n 3, .null), (.iload_n 1, .null), (.istore 4, .null), (.iconst 0, .int 0), (.istore 5, .null)] = true := by decide +kernel
theorem kX6_ring_8_0 : decB cX6_ring 8 [(.iload 5, .null), (.iload_n 2, .null)] = true := by decide +kernel
theorem kX6_ring_8_1 : decB cX6_ring 35 [(.iload_n 3, .null)] = true := by decide +kernel
theorem kX6_ring_8_2 : decB cX6_ring 14 [(.iload_n 3, .null), (.iconst 1, .int 1), (.iload 4, .null), (.ishl, .null), (.ior, .null), (.istore_n 3, .null), (.iload_n 0, .null), (.iload 4, .null)] = true := by decide +kernel
theorem kX6_ring_8_3 : decB cX6_ring 27 [(.istore 4, .null), (.iinc 5 1, .int 1), (.goto (-24), .retAddr 8)] = true := by decide +kernel
theorem dX6_ring_11 : decode cX6_ring 11 = .ok (.if_icmp .ge 24, 3) := by decide +kernel
theorem dX6_ring_24 : decode cX6_ring 24 = .ok (.invokestatic 13, 3) := by decide +kernel
theorem dX6_ring_36 : decode cX6_ring 36 = .ok (.ireturn, 1) := by decide +kernel
def bX6_ring_8 (K8 : Int32 → Int32 → Int32 → Int32 → Int32 → Hp → Option (Int32 × Hp)) (a0 : Int32) (a2 : Int32) (a3 : Int32) (a4 : Int32) (a5 : Int32) (H : Hp) : Option (Int32 × Hp) :=
  if (a2 ≤ a5 : Prop) then
    some (a3, H)
  else
    bd2 (FX6_at a0 a4 H) fun x1 H2 =>
    K8 a0 a2 (a3 ||| (1 <<< (a4 &&& 31))) x1 (a5 + 1) H2
set_option maxHeartbeats 4000000 in
set_option maxRecDepth 100000 in
theorem tbX6_ring_8 {G : GG} {r : Int32} {H' : Hp} {K8 : Int32 → Int32 → Int32 → Int32 → Int32 → Hp → Option (Int32 × Hp)} (hK8 : ∀ (a0 : Int32) (a2 : Int32) (a3 : Int32) (a4 : Int32) (a5 : Int32) (H : Hp), K8 a0 a2 a3 a4 a5 H = some (r, H') → Sn G (T0 G (some (.int r)) H') mX6_ring 8 [some (.int a0), none, some (.int a2), some (.int a3), some (.int a4), some (.int a5)] [] H) {a0 : Int32} {a2 : Int32} {a3 : Int32} {a4 : Int32} {a5 : Int32} {H : Hp} (h : bX6_ring_8 K8 a0 a2 a3 a4 a5 H = some (r, H')) : Sn G (T0 G (some (.int r)) H') mX6_ring 8 [some (.int a0), none, some (.int a2), some (.int a3), some (.int a4), some (.int a5)] [] H := by
  unfold bX6_ring_8 at h
  refine sn_blk _ kX6_ring_8_0 (pc' := 11) (L' := [some (.int a0), none, some (.int a2), some (.int a3), some (.int a4), some (.int a5)]) (st' := [.int a2, .int a5]) rfl rfl ?_
  refine sn_icmp_ge (tgt := 35) dX6_ring_11 (by decide) (fun c => ?_) (fun c => ?_)
  · rw [if_pos c] at h
    refine sn_blk _ kX6_ring_8_1 (pc' := 36) (L' := [some (.int a0), none, some (.int a2), some (.int a3), some (.int a4), some (.int a5)]) (st' := [.int a3]) rfl rfl ?_
    cases h
    exact sn_iret (ty := .int) dX6_ring_36 rfl rfl
  · rw [if_neg c] at h
    refine sn_blk _ kX6_ring_8_2 (pc' := 24) (L' := [some (.int a0), none, some (.int a2), some (.int (a3 ||| (1 <<< (a4 &&& 31)))), some (.int a4), some (.int a5)]) (st' := [.int a4, .int a0]) rfl rfl ?_
    obtain ⟨x1, H2, hx1, h⟩ := bd2_inv h
    refine sn_calls (av := [.int a0, .int a4]) (st := []) (M2 := mX6_at) dX6_ring_24 msX6_at mlX6_13 rfl rfl rfl rfl rfl (sX6_at hx1) ?_
    refine sn_blk _ kX6_ring_8_3 (pc' := 8) (L' := [some (.int a0), none, some (.int a2), some (.int (a3 ||| (1 <<< (a4 &&& 31)))), some (.int x1), some (.int (a5 + 1))]) (st' := []) rfl rfl ?_
    exact hK8 _ _ _ _ _ _ h
def fX6_ring_8  : Nat → Int32 → Int32 → Int32 → Int32 → Int32 → Hp → Option (Int32 × Hp)
  | 0, _, _, _, _, _, _ => none
  | d + 1, a0, a2, a3, a4, a5, H => bX6_ring_8 (fX6_ring_8  d) a0 a2 a3 a4 a5 H
theorem tfX6_ring_8 {G : GG} {r : Int32} {H' : Hp}   : ∀ (d : Nat) {a0 : Int32} {a2 : Int32} {a3 : Int32} {a4 : Int32} {a5 : Int32} {H : Hp}, fX6_ring_8  d a0 a2 a3 a4 a5 H = some (r, H') → Sn G (T0 G (some (.int r)) H') mX6_ring 8 [some (.int a0), none, some (.int a2), some (.int a3), some (.int a4), some (.int a5)] [] H := by
  intro d
  induction d with
  | zero => intro a0 a2 a3 a4 a5 H h; cases h
  | succ d ih => intro a0 a2 a3 a4 a5 H h; exact tbX6_ring_8 (fun a0 a2 a3 a4 a5 H h => ih h) h
def FX6_ring  (a0 : Int32) (a1 : Int32) (a2 : Int32) (H : Hp) : Option (Int32 × Hp) :=
  fX6_ring_8  4096 a0 a2 0 a1 0 H
set_option maxHeartbeats 4000000 in
set_option maxRecDepth 100000 in
theorem tFX6_ring {G : GG} {r : Int32} {H' : Hp}   {a0 : Int32} {a1 : Int32} {a2 : Int32} {H : Hp} (h : FX6_ring  a0 a1 a2 H = some (r, H')) : Sn G (T0 G (some (.int r)) H') mX6_ring 0 [some (.int a0), some (.int a1), some (.int a2), none, none, none] [] H := by
  unfold FX6_ring at h
  refine sn_blk _ kX6_ring_0_0 (pc' := 8) (L' := [some (.int a0), some (.int a1), some (.int a2), some (.int 0), some (.int a1), some (.int 0)]) (st' := []) rfl rfl ?_
  refine sn_msk [true, false, true, true, true, true] (L2 := [some (.int a0), none, some (.int a2), some (.int 0), some (.int a1), some (.int 0)]) rfl ?_
  exact tfX6_ring_8  4096 h
theorem sX6_ring {G : GG} {r : Int32} {H' : Hp} {a0 : Int32} {a1 : Int32} {a2 : Int32} {H : Hp} (h : FX6_ring a0 a1 a2 H = some (r, H')) : SM G mX6_ring [.int a0, .int a1, .int a2] H (some (.int r)) H' := tFX6_ring h
/-! SquareFolds$Row.rings(II)I -/
theorem kX6_rings_0_0 : decB cX6_rings 0 [(.iconst 0, .int 0), (.istore_n 2, .null), (.iconst 0, .int 0), (.istore_n 3, .null), (.iconst 0, .int 0), (.istore 4, .null)] = true := by decide +kernel
theorem kX6_rings_7_0 : decB cX6_rings 7 [(.iload 4, .null), (.iload_n 1, .null)] = true := by decide +kernel
theorem kX6_rings_7_1 : decB cX6_rings 41 [(.iload_n 3, .null)] = true := by decide +kernel
theorem kX6_rings_7_2 : decB cX6_rings 13 [(.iload_n 2, .null), (.iload 4, .null)] = true := by decide +kernel
theorem kX6_rings_7_3 : decB cX6_rings 35 [(.iinc 4 1, .int 1), (.goto (-31), .retAddr 7)] = true := by decide +kernel
theorem kX6_rings_7_4 : decB cX6_rings 22 [(.iload_n 2, .null), (.iload_n 0, .null), (.iload 4, .null), (.iload_n 1, .null)] = true := by decide +kernel
theorem kX6_rings_7_5 : decB cX6_rings 30 [(.ior, .null), (.istore_n 2, .null), (.iinc 3 1, .int 1), (.iinc 4 1, .int 1), (.goto (-31), .retAddr 7)] = true := by decide +kernel
theorem dX6_rings_10 : decode cX6_rings 10 = .ok (.if_icmp .ge 31, 3) := by decide +kernel
theorem dX6_rings_16 : decode cX6_rings 16 = .ok (.invokestatic 17, 3) := by decide +kernel
theorem dX6_rings_19 : decode cX6_rings 19 = .ok (.ifCond .ne 16, 3) := by decide +kernel
theorem dX6_rings_27 : decode cX6_rings 27 = .ok (.invokestatic 21, 3) := by decide +kernel
theorem dX6_rings_42 : decode cX6_rings 42 = .ok (.ireturn, 1) := by decide +kernel
def bX6_rings_7 (K7 : Int32 → Int32 → Int32 → Int32 → Int32 → Hp → Option (Int32 × Hp)) (a0 : Int32) (a1 : Int32) (a2 : Int32) (a3 : Int32) (a4 : Int32) (H : Hp) : Option (Int32 × Hp) :=
  if (a1 ≤ a4 : Prop) then
    some (a3, H)
  else
    bd2 (FX6_isIn a2 a4 H) fun x1 H2 =>
    if (x1 = 0 : Prop) then
      bd2 (FX6_ring a0 a4 a1 H2) fun x3 H4 =>
      K7 a0 a1 (a2 ||| x3) (a3 + 1) (a4 + 1) H4
    else
      K7 a0 a1 a2 a3 (a4 + 1) H2
set_option maxHeartbeats 4000000 in
set_option maxRecDepth 100000 in
theorem tbX6_rings_7 {G : GG} {r : Int32} {H' : Hp} {K7 : Int32 → Int32 → Int32 → Int32 → Int32 → Hp → Option (Int32 × Hp)} (hK7 : ∀ (a0 : Int32) (a1 : Int32) (a2 : Int32) (a3 : Int32) (a4 : Int32) (H : Hp), K7 a0 a1 a2 a3 a4 H = some (r, H') → Sn G (T0 G (some (.int r)) H') mX6_rings 7 [some (.int a0), some (.int a1), some (.int a2), some (.int a3), some (.int a4)] [] H) {a0 : Int32} {a1 : Int32} {a2 : Int32} {a3 : Int32} {a4 : Int32} {H : Hp} (h : bX6_rings_7 K7 a0 a1 a2 a3 a4 H = some (r, H')) : Sn G (T0 G (some (.int r)) H') mX6_rings 7 [some (.int a0), some (.int a1), some (.int a2), some (.int a3), some (.int a4)] [] H := by
  unfold bX6_rings_7 at h
  refine sn_blk _ kX6_rings_7_0 (pc' := 10) (L' := [some (.int a0), some (.int a1), some (.int a2), some (.int a3), some (.int a4)]) (st' := [.int a1, .int a4]) rfl rfl ?_
  refine sn_icmp_ge (tgt := 41) dX6_rings_10 (by decide) (fun c => ?_) (fun c => ?_)
  · rw [if_pos c] at h
    refine sn_blk _ kX6_rings_7_1 (pc' := 42) (L' := [some (.int a0), some (.int a1), some (.int a2), some (.int a3), some (.int a4)]) (st' := [.int a3]) rfl rfl ?_
    cases h
    exact sn_iret (ty := .int) dX6_rings_42 rfl rfl
  · rw [if_neg c] at h
    refine sn_blk _ kX6_rings_7_2 (pc' := 16) (L' := [some (.int a0), some (.int a1), some (.int a2), some (.int a3), some (.int a4)]) (st' := [.int a4, .int a2]) rfl rfl ?_
    obtain ⟨x1, H2, hx1, h⟩ := bd2_inv h
    refine sn_calls (av := [.int a2, .int a4]) (st := []) (M2 := mX6_isIn) dX6_rings_16 msX6_isIn mlX6_17 rfl rfl rfl rfl rfl (sX6_isIn hx1) ?_
    refine sn_if_ne (tgt := 35) dX6_rings_19 (by decide) (fun c => ?_) (fun c => ?_)
    · rw [if_neg c] at h
      refine sn_blk _ kX6_rings_7_3 (pc' := 7) (L' := [some (.int a0), some (.int a1), some (.int a2), some (.int a3), some (.int (a4 + 1))]) (st' := []) rfl rfl ?_
      exact hK7 _ _ _ _ _ _ h
    · rw [if_pos c] at h
      refine sn_blk _ kX6_rings_7_4 (pc' := 27) (L' := [some (.int a0), some (.int a1), some (.int a2), some (.int a3), some (.int a4)]) (st' := [.int a1, .int a4, .int a0, .int a2]) rfl rfl ?_
      obtain ⟨x3, H4, hx3, h⟩ := bd2_inv h
      refine sn_calls (av := [.int a0, .int a4, .int a1]) (st := [.int a2]) (M2 := mX6_ring) dX6_rings_27 msX6_ring mlX6_21 rfl rfl rfl rfl rfl (sX6_ring hx3) ?_
      refine sn_blk _ kX6_rings_7_5 (pc' := 7) (L' := [some (.int a0), some (.int a1), some (.int (a2 ||| x3)), some (.int (a3 + 1)), some (.int (a4 + 1))]) (st' := []) rfl rfl ?_
      exact hK7 _ _ _ _ _ _ h
def fX6_rings_7  : Nat → Int32 → Int32 → Int32 → Int32 → Int32 → Hp → Option (Int32 × Hp)
  | 0, _, _, _, _, _, _ => none
  | d + 1, a0, a1, a2, a3, a4, H => bX6_rings_7 (fX6_rings_7  d) a0 a1 a2 a3 a4 H
theorem tfX6_rings_7 {G : GG} {r : Int32} {H' : Hp}   : ∀ (d : Nat) {a0 : Int32} {a1 : Int32} {a2 : Int32} {a3 : Int32} {a4 : Int32} {H : Hp}, fX6_rings_7  d a0 a1 a2 a3 a4 H = some (r, H') → Sn G (T0 G (some (.int r)) H') mX6_rings 7 [some (.int a0), some (.int a1), some (.int a2), some (.int a3), some (.int a4)] [] H := by
  intro d
  induction d with
  | zero => intro a0 a1 a2 a3 a4 H h; cases h
  | succ d ih => intro a0 a1 a2 a3 a4 H h; exact tbX6_rings_7 (fun a0 a1 a2 a3 a4 H h => ih h) h
def FX6_rings  (a0 : Int32) (a1 : Int32) (H : Hp) : Option (Int32 × Hp) :=
  fX6_rings_7  4096 a0 a1 0 0 0 H
set_option maxHeartbeats 4000000 in
set_option maxRecDepth 100000 in
theorem tFX6_rings {G : GG} {r : Int32} {H' : Hp}   {a0 : Int32} {a1 : Int32} {H : Hp} (h : FX6_rings  a0 a1 H = some (r, H')) : Sn G (T0 G (some (.int r)) H') mX6_rings 0 [some (.int a0), some (.int a1), none, none, none] [] H := by
  unfold FX6_rings at h
  refine sn_blk _ kX6_rings_0_0 (pc' := 7) (L' := [some (.int a0), some (.int a1), some (.int 0), some (.int 0), some (.int 0)]) (st' := []) rfl rfl ?_
  exact tfX6_rings_7  4096 h
theorem sX6_rings {G : GG} {r : Int32} {H' : Hp} {a0 : Int32} {a1 : Int32} {H : Hp} (h : FX6_rings a0 a1 H = some (r, H')) : SM G mX6_rings [.int a0, .int a1] H (some (.int r)) H' := tFX6_rings h
/-! java/lang/Integer.bitCount(I)I -/
theorem kJ6_bitCount_0f7a4_0_0 : decB cJ6_bitCount_0f7a4 0 [(.iload_n 0, .null), (.iload_n 0, .null), (.iconst 1, .int 1), (.iushr, .null)] = true := by decide +kernel
theorem kJ6_bitCount_0f7a4_0_1 : decB cJ6_bitCount_0f7a4 7 [(.iand, .null), (.isub, .null), (.istore_n 0, .null), (.iload_n 0, .null)] = true := by decide +kernel
theorem kJ6_bitCount_0f7a4_0_2 : decB cJ6_bitCount_0f7a4 14 [(.iand, .null), (.iload_n 0, .null), (.iconst 2, .int 2), (.iushr, .null)] = true := by decide +kernel
theorem kJ6_bitCount_0f7a4_0_3 : decB cJ6_bitCount_0f7a4 21 [(.iand, .null), (.iadd, .null), (.istore_n 0, .null), (.iload_n 0, .null), (.iload_n 0, .null), (.iconst 4, .int 4), (.iushr, .null), (.iadd, .null)] = true := by decide +kernel
theorem kJ6_bitCount_0f7a4_0_4 : decB cJ6_bitCount_0f7a4 32 [(.iand, .null), (.istore_n 0, .null), (.iload_n 0, .null), (.iload_n 0, .null), (.bipush 8, .int 8), (.iushr, .null), (.iadd, .null), (.istore_n 0, .null), (.iload_n 0, .null), (.iload_n 0, .null), (.bipush 16, .int 16), (.iushr, .null), (.iadd, .null), (.istore_n 0, .null), (.iload_n 0, .null), (.bipush 63, .int 63), (.iand, .null)] = true := by decide +kernel
theorem dJ6_bitCount_0f7a4_4 : decode cJ6_bitCount_0f7a4 4 = .ok (.ldc_w 265, 3) := by decide +kernel
theorem dJ6_bitCount_0f7a4_11 : decode cJ6_bitCount_0f7a4 11 = .ok (.ldc_w 266, 3) := by decide +kernel
theorem dJ6_bitCount_0f7a4_18 : decode cJ6_bitCount_0f7a4 18 = .ok (.ldc_w 266, 3) := by decide +kernel
theorem dJ6_bitCount_0f7a4_29 : decode cJ6_bitCount_0f7a4 29 = .ok (.ldc_w 267, 3) := by decide +kernel
theorem dJ6_bitCount_0f7a4_52 : decode cJ6_bitCount_0f7a4 52 = .ok (.ireturn, 1) := by decide +kernel
def FJ6_bitCount_0f7a4  (a0 : Int32) (H : Hp) : Option (Int32 × Hp) :=
  some (((((((((a0 - ((iushrF a0 1) &&& 1431655765)) &&& 858993459) + ((iushrF (a0 - ((iushrF a0 1) &&& 1431655765)) 2) &&& 858993459)) + (iushrF (((a0 - ((iushrF a0 1) &&& 1431655765)) &&& 858993459) + ((iushrF (a0 - ((iushrF a0 1) &&& 1431655765)) 2) &&& 858993459)) 4)) &&& 252645135) + (iushrF (((((a0 - ((iushrF a0 1) &&& 1431655765)) &&& 858993459) + ((iushrF (a0 - ((iushrF a0 1) &&& 1431655765)) 2) &&& 858993459)) + (iushrF (((a0 - ((iushrF a0 1) &&& 1431655765)) &&& 858993459) + ((iushrF (a0 - ((iushrF a0 1) &&& 1431655765)) 2) &&& 858993459)) 4)) &&& 252645135) 8)) + (iushrF ((((((a0 - ((iushrF a0 1) &&& 1431655765)) &&& 858993459) + ((iushrF (a0 - ((iushrF a0 1) &&& 1431655765)) 2) &&& 858993459)) + (iushrF (((a0 - ((iushrF a0 1) &&& 1431655765)) &&& 858993459) + ((iushrF (a0 - ((iushrF a0 1) &&& 1431655765)) 2) &&& 858993459)) 4)) &&& 252645135) + (iushrF (((((a0 - ((iushrF a0 1) &&& 1431655765)) &&& 858993459) + ((iushrF (a0 - ((iushrF a0 1) &&& 1431655765)) 2) &&& 858993459)) + (iushrF (((a0 - ((iushrF a0 1) &&& 1431655765)) &&& 858993459) + ((iushrF (a0 - ((iushrF a0 1) &&& 1431655765)) 2) &&& 858993459)) 4)) &&& 252645135) 8)) 16)) &&& 63), H)
set_option maxHeartbeats 4000000 in
set_option maxRecDepth 100000 in
theorem tFJ6_bitCount_0f7a4 {G : GG} {r : Int32} {H' : Hp}   {a0 : Int32} {H : Hp} (h : FJ6_bitCount_0f7a4  a0 H = some (r, H')) : Sn G (T0 G (some (.int r)) H') mJ6_bitCount_0f7a4 0 [some (.int a0)] [] H := by
  unfold FJ6_bitCount_0f7a4 at h
  refine sn_blk _ kJ6_bitCount_0f7a4_0_0 (pc' := 4) (L' := [some (.int a0)]) (st' := [.int (iushrF a0 1), .int a0]) rfl rfl ?_
  refine sn_ldcw dJ6_bitCount_0f7a4_4 kcJ6_265 ?_
  refine sn_blk _ kJ6_bitCount_0f7a4_0_1 (pc' := 11) (L' := [some (.int (a0 - ((iushrF a0 1) &&& 1431655765)))]) (st' := [.int (a0 - ((iushrF a0 1) &&& 1431655765))]) rfl rfl ?_
  refine sn_ldcw dJ6_bitCount_0f7a4_11 kcJ6_266 ?_
  refine sn_blk _ kJ6_bitCount_0f7a4_0_2 (pc' := 18) (L' := [some (.int (a0 - ((iushrF a0 1) &&& 1431655765)))]) (st' := [.int (iushrF (a0 - ((iushrF a0 1) &&& 1431655765)) 2), .int ((a0 - ((iushrF a0 1) &&& 1431655765)) &&& 858993459)]) rfl rfl ?_
  refine sn_ldcw dJ6_bitCount_0f7a4_18 kcJ6_266 ?_
  refine sn_blk _ kJ6_bitCount_0f7a4_0_3 (pc' := 29) (L' := [some (.int (((a0 - ((iushrF a0 1) &&& 1431655765)) &&& 858993459) + ((iushrF (a0 - ((iushrF a0 1) &&& 1431655765)) 2) &&& 858993459)))]) (st' := [.int ((((a0 - ((iushrF a0 1) &&& 1431655765)) &&& 858993459) + ((iushrF (a0 - ((iushrF a0 1) &&& 1431655765)) 2) &&& 858993459)) + (iushrF (((a0 - ((iushrF a0 1) &&& 1431655765)) &&& 858993459) + ((iushrF (a0 - ((iushrF a0 1) &&& 1431655765)) 2) &&& 858993459)) 4))]) rfl rfl ?_
  refine sn_ldcw dJ6_bitCount_0f7a4_29 kcJ6_267 ?_
  refine sn_blk _ kJ6_bitCount_0f7a4_0_4 (pc' := 52) (L' := [some (.int (((((((a0 - ((iushrF a0 1) &&& 1431655765)) &&& 858993459) + ((iushrF (a0 - ((iushrF a0 1) &&& 1431655765)) 2) &&& 858993459)) + (iushrF (((a0 - ((iushrF a0 1) &&& 1431655765)) &&& 858993459) + ((iushrF (a0 - ((iushrF a0 1) &&& 1431655765)) 2) &&& 858993459)) 4)) &&& 252645135) + (iushrF (((((a0 - ((iushrF a0 1) &&& 1431655765)) &&& 858993459) + ((iushrF (a0 - ((iushrF a0 1) &&& 1431655765)) 2) &&& 858993459)) + (iushrF (((a0 - ((iushrF a0 1) &&& 1431655765)) &&& 858993459) + ((iushrF (a0 - ((iushrF a0 1) &&& 1431655765)) 2) &&& 858993459)) 4)) &&& 252645135) 8)) + (iushrF ((((((a0 - ((iushrF a0 1) &&& 1431655765)) &&& 858993459) + ((iushrF (a0 - ((iushrF a0 1) &&& 1431655765)) 2) &&& 858993459)) + (iushrF (((a0 - ((iushrF a0 1) &&& 1431655765)) &&& 858993459) + ((iushrF (a0 - ((iushrF a0 1) &&& 1431655765)) 2) &&& 858993459)) 4)) &&& 252645135) + (iushrF (((((a0 - ((iushrF a0 1) &&& 1431655765)) &&& 858993459) + ((iushrF (a0 - ((iushrF a0 1) &&& 1431655765)) 2) &&& 858993459)) + (iushrF (((a0 - ((iushrF a0 1) &&& 1431655765)) &&& 858993459) + ((iushrF (a0 - ((iushrF a0 1) &&& 1431655765)) 2) &&& 858993459)) 4)) &&& 252645135) 8)) 16)))]) (st' := [.int ((((((((a0 - ((iushrF a0 1) &&& 1431655765)) &&& 858993459) + ((iushrF (a0 - ((iushrF a0 1) &&& 1431655765)) 2) &&& 858993459)) + (iushrF (((a0 - ((iushrF a0 1) &&& 1431655765)) &&& 858993459) + ((iushrF (a0 - ((iushrF a0 1) &&& 1431655765)) 2) &&& 858993459)) 4)) &&& 252645135) + (iushrF (((((a0 - ((iushrF a0 1) &&& 1431655765)) &&& 858993459) + ((iushrF (a0 - ((iushrF a0 1) &&& 1431655765)) 2) &&& 858993459)) + (iushrF (((a0 - ((iushrF a0 1) &&& 1431655765)) &&& 858993459) + ((iushrF (a0 - ((iushrF a0 1) &&& 1431655765)) 2) &&& 858993459)) 4)) &&& 252645135) 8)) + (iushrF ((((((a0 - ((iushrF a0 1) &&& 1431655765)) &&& 858993459) + ((iushrF (a0 - ((iushrF a0 1) &&& 1431655765)) 2) &&& 858993459)) + (iushrF (((a0 - ((iushrF a0 1) &&& 1431655765)) &&& 858993459) + ((iushrF (a0 - ((iushrF a0 1) &&& 1431655765)) 2) &&& 858993459)) 4)) &&& 252645135) + (iushrF (((((a0 - ((iushrF a0 1) &&& 1431655765)) &&& 858993459) + ((iushrF (a0 - ((iushrF a0 1) &&& 1431655765)) 2) &&& 858993459)) + (iushrF (((a0 - ((iushrF a0 1) &&& 1431655765)) &&& 858993459) + ((iushrF (a0 - ((iushrF a0 1) &&& 1431655765)) 2) &&& 858993459)) 4)) &&& 252645135) 8)) 16)) &&& 63)]) rfl rfl ?_
  cases h
  exact sn_iret (ty := .int) dJ6_bitCount_0f7a4_52 rfl rfl
theorem sJ6_bitCount_0f7a4 {G : GG} {r : Int32} {H' : Hp} {a0 : Int32} {H : Hp} (h : FJ6_bitCount_0f7a4 a0 H = some (r, H')) : SM G mJ6_bitCount_0f7a4 [.int a0] H (some (.int r)) H' := tFJ6_bitCount_0f7a4 h
/-! SquareFolds$Row.staying(I)I -/
theorem kX6_staying_0_0 : decB cX6_staying 0 [(.iconst 0, .int 0), (.istore_n 1, .null), (.iconst 0, .int 0), (.istore_n 2, .null)] = true := by decide +kernel
theorem kX6_staying_4_0 : decB cX6_staying 4 [(.iload_n 2, .null), (.iload_n 0, .null)] = true := by decide +kernel
theorem kX6_staying_4_1 : decB cX6_staying 22 [(.iload_n 1, .null)] = true := by decide +kernel
theorem kX6_staying_4_2 : decB cX6_staying 9 [(.iload_n 1, .null), (.iload_n 2, .null), (.iload_n 2, .null)] = true := by decide +kernel
theorem kX6_staying_4_3 : decB cX6_staying 15 [(.istore_n 1, .null), (.iinc 2 1, .int 1), (.goto (-15), .retAddr 4)] = true := by decide +kernel
theorem dX6_staying_6 : decode cX6_staying 6 = .ok (.if_icmp .ge 16, 3) := by decide +kernel
theorem dX6_staying_12 : decode cX6_staying 12 = .ok (.invokestatic 7, 3) := by decide +kernel
theorem dX6_staying_23 : decode cX6_staying 23 = .ok (.ireturn, 1) := by decide +kernel
def bX6_staying_4 (K4 : Int32 → Int32 → Int32 → Hp → Option (Int32 × Hp)) (a0 : Int32) (a1 : Int32) (a2 : Int32) (H : Hp) : Option (Int32 × Hp) :=
  if (a0 ≤ a2 : Prop) then
    some (a1, H)
  else
    bd2 (FX6_put a1 a2 a2 H) fun x1 H2 =>
    K4 a0 x1 (a2 + 1) H2
set_option maxHeartbeats 4000000 in
set_option maxRecDepth 100000 in
theorem tbX6_staying_4 {G : GG} {r : Int32} {H' : Hp} {K4 : Int32 → Int32 → Int32 → Hp → Option (Int32 × Hp)} (hK4 : ∀ (a0 : Int32) (a1 : Int32) (a2 : Int32) (H : Hp), K4 a0 a1 a2 H = some (r, H') → Sn G (T0 G (some (.int r)) H') mX6_staying 4 [some (.int a0), some (.int a1), some (.int a2)] [] H) {a0 : Int32} {a1 : Int32} {a2 : Int32} {H : Hp} (h : bX6_staying_4 K4 a0 a1 a2 H = some (r, H')) : Sn G (T0 G (some (.int r)) H') mX6_staying 4 [some (.int a0), some (.int a1), some (.int a2)] [] H := by
  unfold bX6_staying_4 at h
  refine sn_blk _ kX6_staying_4_0 (pc' := 6) (L' := [some (.int a0), some (.int a1), some (.int a2)]) (st' := [.int a0, .int a2]) rfl rfl ?_
  refine sn_icmp_ge (tgt := 22) dX6_staying_6 (by decide) (fun c => ?_) (fun c => ?_)
  · rw [if_pos c] at h
    refine sn_blk _ kX6_staying_4_1 (pc' := 23) (L' := [some (.int a0), some (.int a1), some (.int a2)]) (st' := [.int a1]) rfl rfl ?_
    cases h
    exact sn_iret (ty := .int) dX6_staying_23 rfl rfl
  · rw [if_neg c] at h
    refine sn_blk _ kX6_staying_4_2 (pc' := 12) (L' := [some (.int a0), some (.int a1), some (.int a2)]) (st' := [.int a2, .int a2, .int a1]) rfl rfl ?_
    obtain ⟨x1, H2, hx1, h⟩ := bd2_inv h
    refine sn_calls (av := [.int a1, .int a2, .int a2]) (st := []) (M2 := mX6_put) dX6_staying_12 msX6_put mlX6_7 rfl rfl rfl rfl rfl (sX6_put hx1) ?_
    refine sn_blk _ kX6_staying_4_3 (pc' := 4) (L' := [some (.int a0), some (.int x1), some (.int (a2 + 1))]) (st' := []) rfl rfl ?_
    exact hK4 _ _ _ _ h
def fX6_staying_4  : Nat → Int32 → Int32 → Int32 → Hp → Option (Int32 × Hp)
  | 0, _, _, _, _ => none
  | d + 1, a0, a1, a2, H => bX6_staying_4 (fX6_staying_4  d) a0 a1 a2 H
theorem tfX6_staying_4 {G : GG} {r : Int32} {H' : Hp}   : ∀ (d : Nat) {a0 : Int32} {a1 : Int32} {a2 : Int32} {H : Hp}, fX6_staying_4  d a0 a1 a2 H = some (r, H') → Sn G (T0 G (some (.int r)) H') mX6_staying 4 [some (.int a0), some (.int a1), some (.int a2)] [] H := by
  intro d
  induction d with
  | zero => intro a0 a1 a2 H h; cases h
  | succ d ih => intro a0 a1 a2 H h; exact tbX6_staying_4 (fun a0 a1 a2 H h => ih h) h
def FX6_staying  (a0 : Int32) (H : Hp) : Option (Int32 × Hp) :=
  fX6_staying_4  4096 a0 0 0 H
set_option maxHeartbeats 4000000 in
set_option maxRecDepth 100000 in
theorem tFX6_staying {G : GG} {r : Int32} {H' : Hp}   {a0 : Int32} {H : Hp} (h : FX6_staying  a0 H = some (r, H')) : Sn G (T0 G (some (.int r)) H') mX6_staying 0 [some (.int a0), none, none] [] H := by
  unfold FX6_staying at h
  refine sn_blk _ kX6_staying_0_0 (pc' := 4) (L' := [some (.int a0), some (.int 0), some (.int 0)]) (st' := []) rfl rfl ?_
  exact tfX6_staying_4  4096 h
theorem sX6_staying {G : GG} {r : Int32} {H' : Hp} {a0 : Int32} {H : Hp} (h : FX6_staying a0 H = some (r, H')) : SM G mX6_staying [.int a0] H (some (.int r)) H' := tFX6_staying h
