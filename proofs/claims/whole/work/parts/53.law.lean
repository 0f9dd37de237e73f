/-! The law's loop. -/
theorem lg_rf (x : Int64) : lg_cmp x x = 0 := (lg_cmp_eq x x).mpr rfl
theorem law_step (G : GG) (hL : G.2.2.2.1 ≤ 2048) {i : Nat} (hi : i + 4 ≤ G.2.2.2.1) {c : CS} {m : MS} (h : OK c m) (K : Int32 → Hp → Option (Int32 × Hp)) (hK : ∀ c m, OK c m → ∃ H', K (nI (i + 4)) (hp c m) = some (1, H')) : ∃ H', bL_law_18 G K (nI i) (hp c m) = some (1, H') := by
  have g0 : ¬ (nI i < 0 ∨ G.2.2.2.1 ≤ (nI i).toNatClampNeg) := by
    rw [nI_clamp (by omega)]
    rintro (q | q)
    · exact nI_pos (by omega) q
    · omega
  have g1 : ¬ ((nI i + 1) < 0 ∨ G.2.2.2.1 ≤ (nI i + 1).toNatClampNeg) := by
    rw [nI_1, nI_clamp (by omega)]
    rintro (q | q)
    · exact nI_pos (by omega) q
    · omega
  have g2 : ¬ ((nI i + 2) < 0 ∨ G.2.2.2.1 ≤ (nI i + 2).toNatClampNeg) := by
    rw [show nI i + 2 = nI (i + 2) from nI_add i 2, nI_clamp (by omega)]
    rintro (q | q)
    · exact nI_pos (by omega) q
    · omega
  have g3 : ¬ ((nI i + 3) < 0 ∨ G.2.2.2.1 ≤ (nI i + 3).toNatClampNeg) := by
    rw [show nI i + 3 = nI (i + 3) from nI_add i 3, nI_clamp (by omega)]
    rintro (q | q)
    · exact nI_pos (by omega) q
    · omega
  have hlt : ¬ (Int32.ofNat G.2.2.2.1 - 4 < nI i) := by
    rw [show Int32.ofNat G.2.2.2.1 - 4 = nI (G.2.2.2.1 - 4) from pk_sub (b := 4) (by omega)]
    exact nI_nlt (by omega) (by omega)
  have h4 : nI i + 4 = nI (i + 4) := nI_add i 4
  unfold bL_law_18 fL_law_589 fL_law_697 fL_law_611 fL_law_719
  rw [if_neg hlt, gp_pos g0, h4]
  generalize (G.2.2.2.2 (Int32.toNatClampNeg (nI i))) &&& 31 = op
  generalize ex : G.2.2.2.2 (Int32.toNatClampNeg (nI i + 1)) = x
  generalize ey : G.2.2.2.2 (Int32.toNatClampNeg (nI i + 2)) = y
  generalize ez : G.2.2.2.2 (Int32.toNatClampNeg (nI i + 3)) = z
  by_cases e0 : op = (0 : Int32)
  · obtain ⟨r, c2, m2, q1, q2, q3⟩ := c_write x c m h
    rw [if_pos e0, gp_pos g1, gp_pos hO0, show FX9_write 0 x (hp c m) = _ from q1, bd2_some, gp_pos g1, gp_pos hO22, show FX10_write 22 x (hp c2 m) = _ from q2, bd2_some, if_pos rfl]
    exact hK c2 m2 q3
  rw [if_neg e0]
  by_cases e1 : op = (1 : Int32)
  · obtain ⟨r, c2, m2, q1, q2, q3⟩ := c_wipe  c m h
    rw [if_pos e1, gp_pos hO0, show FX9_wipe 0  (hp c m) = _ from q1, bd2_some, gp_pos hO22, show FX10_wipe 22  (hp c2 m) = _ from q2, bd2_some, if_pos rfl]
    exact hK c2 m2 q3
  rw [if_neg e1]
  by_cases e2 : op = (2 : Int32)
  · obtain ⟨r, c2, m2, q1, q2, q3⟩ := c_fault  c m h
    rw [if_pos e2, gp_pos hO0, show FX9_fault 0  (hp c m) = _ from q1, bd2_some, gp_pos hO22, show FX10_fault 22  (hp c2 m) = _ from q2, bd2_some, if_pos rfl]
    exact hK c2 m2 q3
  rw [if_neg e2]
  by_cases e3 : op = (3 : Int32)
  · obtain ⟨r, c2, m2, q1, q2, q3⟩ := c_surface  c m h
    rw [if_pos e3, gp_pos hO0, show FX9_surface 0  (hp c m) = _ from q1, bd2_some, gp_pos hO22, show FX10_surface 22  (hp c2 m) = _ from q2, bd2_some, if_pos rfl]
    exact hK c2 m2 q3
  rw [if_neg e3]
  by_cases e4 : op = (4 : Int32)
  · obtain ⟨r, c2, m2, q1, q2, q3⟩ := c_about x c m h
    rw [if_pos e4, gp_pos g1, gp_pos hO0, show FX9_about 0 x (hp c m) = _ from q1, bd2_some, gp_pos g1, gp_pos hO22, show FX10_about 22 x (hp c2 m) = _ from q2, bd2_some, if_pos rfl]
    exact hK c2 m2 q3
  rw [if_neg e4]
  by_cases e5 : op = (5 : Int32)
  · obtain ⟨r, c2, m2, q1, q2, q3⟩ := c_go x y c m h
    rw [if_pos e5, gp_pos g1, gp_pos g2, gp_pos hO0, show FX9_go 0 x y (hp c m) = _ from q1, bd2_some, gp_pos g1, gp_pos g2, gp_pos hO22, show FX10_go 22 x y (hp c2 m) = _ from q2, bd2_some, if_pos rfl]
    exact hK c2 m2 q3
  rw [if_neg e5]
  by_cases e6 : op = (6 : Int32)
  · obtain ⟨r, c2, m2, q1, q2, q3⟩ := c_walk x y c m h
    rw [if_pos e6, gp_pos g1, gp_pos g2, gp_pos hO0, show FX9_walk 0 x y (hp c m) = _ from q1, bd2_some, gp_pos g1, gp_pos g2, gp_pos hO22, show FX10_walk 22 x y (hp c2 m) = _ from q2, bd2_some, if_pos rfl]
    exact hK c2 m2 q3
  rw [if_neg e6]
  by_cases e7 : op = (7 : Int32)
  · obtain ⟨r, c2, m2, q1, q2, q3⟩ := c_square x y c m h
    rw [if_pos e7, gp_pos g1, gp_pos g2, gp_pos hO0, show FX9_square 0 x y (hp c m) = _ from q1, bd2_some, gp_pos g1, gp_pos g2, gp_pos hO22, show FX10_square 22 x y (hp c2 m) = _ from q2, bd2_some, if_pos rfl]
    exact hK c2 m2 q3
  rw [if_neg e7]
  by_cases e8 : op = (8 : Int32)
  · obtain ⟨r, c2, m2, q1, q2, q3⟩ := c_name x y c m h
    rw [if_pos e8, gp_pos g1, gp_pos g2, gp_pos hO0, show FX9_name 0 x y (hp c m) = _ from q1, bd2_some, gp_pos g1, gp_pos g2, gp_pos hO22, show FX10_name 22 x y (hp c2 m) = _ from q2, bd2_some, if_pos (lg_rf r)]
    exact hK c2 m2 q3
  rw [if_neg e8]
  by_cases e9 : op = (9 : Int32)
  · obtain ⟨r, c2, m2, q1, q2, q3⟩ := c_shear x c m h
    rw [if_pos e9, gp_pos g1, gp_pos hO0, show FX9_shear 0 x (hp c m) = _ from q1, bd2_some, gp_pos g1, gp_pos hO22, show FX10_shear 22 x (hp c2 m) = _ from q2, bd2_some, if_pos rfl]
    exact hK c2 m2 q3
  rw [if_neg e9]
  by_cases e10 : op = (10 : Int32)
  · obtain ⟨r, c2, m2, q1, q2, q3⟩ := c_trade x y c m h
    rw [if_pos e10, gp_pos g1, gp_pos g2, gp_pos hO0, show FX9_trade 0 x y (hp c m) = _ from q1, bd2_some, gp_pos g1, gp_pos g2, gp_pos hO22, show FX10_trade 22 x y (hp c2 m) = _ from q2, bd2_some, if_pos rfl]
    exact hK c2 m2 q3
  rw [if_neg e10]
  by_cases e11 : op = (11 : Int32)
  · obtain ⟨r, c2, m2, q1, q2, q3⟩ := c_undo  c m h
    rw [if_pos e11, gp_pos hO0, show FX9_undo 0  (hp c m) = _ from q1, bd2_some, gp_pos hO22, show FX10_undo 22  (hp c2 m) = _ from q2, bd2_some, if_pos rfl]
    exact hK c2 m2 q3
  rw [if_neg e11]
  by_cases e12 : op = (12 : Int32)
  · obtain ⟨r, c2, m2, q1, q2, q3⟩ := c_orbit x y c m h
    rw [if_pos e12, gp_pos g1, gp_pos g2, gp_pos hO0, show FX9_orbit 0 x y (hp c m) = _ from q1, bd2_some, gp_pos g1, gp_pos g2, gp_pos hO22, show FX10_orbit 22 x y (hp c2 m) = _ from q2, bd2_some, if_pos rfl]
    exact hK c2 m2 q3
  rw [if_neg e12]
  by_cases e13 : op = (13 : Int32)
  · obtain ⟨r, c2, m2, q1, q2, q3⟩ := c_alike x y z c m h
    rw [if_pos e13, gp_pos g1, gp_pos g2, gp_pos g3, gp_pos hO0, show FX9_alike 0 x y z (hp c m) = _ from q1, bd2_some, gp_pos g1, gp_pos g2, gp_pos g3, gp_pos hO22, show FX10_alike 22 x y z (hp c2 m) = _ from q2, bd2_some, if_pos rfl]
    exact hK c2 m2 q3
  rw [if_neg e13]
  by_cases e14 : op = (14 : Int32)
  · obtain ⟨r, c2, m2, q1, q2, q3⟩ := c_judge x (((Int32.toInt64 y) <<< (Int32.toInt64 32 &&& 63)) ||| ((Int32.toInt64 z) &&& 4294967295)) c m h
    rw [if_pos e14, gp_pos g1, gp_pos g2, gp_pos g3, gp_pos hO0, show FX9_judge 0 x (((Int32.toInt64 y) <<< (Int32.toInt64 32 &&& 63)) ||| ((Int32.toInt64 z) &&& 4294967295)) (hp c m) = _ from q1, bd2_some, gp_pos g1, gp_pos g2, gp_pos g3, gp_pos hO22, show FX10_judge 22 x (((Int32.toInt64 y) <<< (Int32.toInt64 32 &&& 63)) ||| ((Int32.toInt64 z) &&& 4294967295)) (hp c2 m) = _ from q2, bd2_some, if_pos rfl]
    exact hK c2 m2 q3
  rw [if_neg e14]
  by_cases e15 : op = (15 : Int32)
  · by_cases hy : y = 0
    · obtain ⟨r, c2, m2, q1, q2, q3⟩ := c_share x 0 c m h
      rw [if_pos e15, gp_pos g1, gp_pos g2, if_pos hy, gp_pos hO0, show FX9_share 0 x 0 (hp c m) = _ from q1, bd2_some, gp_pos g1, gp_pos g2, if_pos hy, gp_pos hO22, show FX10_share 22 x 0 (hp c2 m) = _ from q2, bd2_some, if_pos rfl]
      exact hK c2 m2 q3
    · obtain ⟨r, c2, m2, q1, q2, q3⟩ := c_share x 1 c m h
      rw [if_pos e15, gp_pos g1, gp_pos g2, if_neg hy, gp_pos hO0, show FX9_share 0 x 1 (hp c m) = _ from q1, bd2_some, gp_pos g1, gp_pos g2, if_neg hy, gp_pos hO22, show FX10_share 22 x 1 (hp c2 m) = _ from q2, bd2_some, if_pos rfl]
      exact hK c2 m2 q3
  rw [if_neg e15]
  by_cases e16 : op = (16 : Int32)
  · obtain ⟨r, c2, m2, q1, q2, q3⟩ := c_see x y c m h
    rw [if_pos e16, gp_pos g1, gp_pos g2, gp_pos hO0, show FX9_see 0 x y (hp c m) = _ from q1, bd2_some, gp_pos g1, gp_pos g2, gp_pos hO22, show FX10_see 22 x y (hp c2 m) = _ from q2, bd2_some, if_pos rfl]
    exact hK c2 m2 q3
  rw [if_neg e16]
  by_cases e17 : op = (17 : Int32)
  · obtain ⟨r, c2, m2, q1, q2, q3⟩ := c_unsee  c m h
    rw [if_pos e17, gp_pos hO0, show FX9_unsee 0  (hp c m) = _ from q1, bd2_some, gp_pos hO22, show FX10_unsee 22  (hp c2 m) = _ from q2, bd2_some, if_pos rfl]
    exact hK c2 m2 q3
  rw [if_neg e17]
  by_cases e18 : op = (18 : Int32)
  · obtain ⟨r, c2, m2, q1, q2, q3⟩ := c_which  c m h
    rw [if_pos e18, gp_pos hO0, show FX9_which 0  (hp c m) = _ from q1, bd2_some, gp_pos hO22, show FX10_which 22  (hp c2 m) = _ from q2, bd2_some, if_pos rfl]
    exact hK c2 m2 q3
  rw [if_neg e18]
  by_cases e19 : op = (19 : Int32)
  · by_cases hy : y = 0
    · obtain ⟨r, c2, m2, q1, q2, q3⟩ := c_opens x 0 c m h
      rw [if_pos e19, gp_pos g1, gp_pos g2, if_pos hy, gp_pos hO0, show FX9_opens 0 x 0 (hp c m) = _ from q1, bd2_some, gp_pos g1, gp_pos g2, if_pos hy, gp_pos hO22, show FX10_opens 22 x 0 (hp c2 m) = _ from q2, bd2_some, if_pos rfl]
      exact hK c2 m2 q3
    · obtain ⟨r, c2, m2, q1, q2, q3⟩ := c_opens x 1 c m h
      rw [if_pos e19, gp_pos g1, gp_pos g2, if_neg hy, gp_pos hO0, show FX9_opens 0 x 1 (hp c m) = _ from q1, bd2_some, gp_pos g1, gp_pos g2, if_neg hy, gp_pos hO22, show FX10_opens 22 x 1 (hp c2 m) = _ from q2, bd2_some, if_pos rfl]
      exact hK c2 m2 q3
  rw [if_neg e19]
  by_cases e20 : op = (20 : Int32)
  · obtain ⟨r, c2, m2, q1, q2, q3⟩ := c_seed (((Int32.toInt64 x) <<< (Int32.toInt64 32 &&& 63)) ||| ((Int32.toInt64 y) &&& 4294967295)) c m h
    rw [if_pos e20, gp_pos g1, gp_pos g2, gp_pos hO0, show FX9_seed 0 (((Int32.toInt64 x) <<< (Int32.toInt64 32 &&& 63)) ||| ((Int32.toInt64 y) &&& 4294967295)) (hp c m) = _ from q1, bd2_some, gp_pos g1, gp_pos g2, gp_pos hO22, show FX10_seed 22 (((Int32.toInt64 x) <<< (Int32.toInt64 32 &&& 63)) ||| ((Int32.toInt64 y) &&& 4294967295)) (hp c2 m) = _ from q2, bd2_some, if_pos (lg_rf r)]
    exact hK c2 m2 q3
  rw [if_neg e20]
  by_cases e21 : op = (21 : Int32)
  · obtain ⟨r, c2, m2, q1, q2, q3⟩ := c_drawn x c m h
    rw [if_pos e21, gp_pos g1, gp_pos hO0, show FX9_drawn 0 x (hp c m) = _ from q1, bd2_some, gp_pos g1, gp_pos hO22, show FX10_drawn 22 x (hp c2 m) = _ from q2, bd2_some, if_pos rfl]
    exact hK c2 m2 q3
  rw [if_neg e21]
  by_cases e22 : op = (22 : Int32)
  · obtain ⟨r, c2, m2, q1, q2, q3⟩ := c_keep x c m h
    rw [if_pos e22, gp_pos g1, gp_pos hO0, show FX9_keep 0 x (hp c m) = _ from q1, bd2_some, gp_pos g1, gp_pos hO22, show FX10_keep 22 x (hp c2 m) = _ from q2, bd2_some, if_pos rfl]
    exact hK c2 m2 q3
  rw [if_neg e22]
  by_cases e23 : op = (23 : Int32)
  · obtain ⟨r, c2, m2, q1, q2, q3⟩ := c_again x c m h
    rw [if_pos e23, gp_pos g1, gp_pos hO0, show FX9_again 0 x (hp c m) = _ from q1, bd2_some, gp_pos g1, gp_pos hO22, show FX10_again 22 x (hp c2 m) = _ from q2, bd2_some, if_pos rfl]
    exact hK c2 m2 q3
  rw [if_neg e23]
  exact hK c m h
theorem law_loop (G : GG) (hL : G.2.2.2.1 ≤ 2048) : ∀ (d i : Nat) (c : CS) (m : MS), OK c m → i ≤ G.2.2.2.1 → G.2.2.2.1 + 1 ≤ i + 4 * d → ∃ H', fL_law_18 G d (nI i) (hp c m) = some (1, H')
  | 0, i, _, _, _, h1, h2 => by omega
  | d + 1, i, c, m, h, h1, h2 => by
    show ∃ H', bL_law_18 G (fL_law_18 G d) (nI i) (hp c m) = some (1, H')
    by_cases hi : i + 4 ≤ G.2.2.2.1
    · exact law_step G hL hi h _ (fun c m h => law_loop G hL d (i + 4) c m h hi (by omega))
    · refine ⟨hp c m, ?_⟩
      unfold bL_law_18
      rw [if_pos]
      rw [fa_lt, show (Int32.ofNat G.2.2.2.1 - 4).toInt = (G.2.2.2.1 : Int) - (4 : Nat) from pk_sub_toInt (b := 4) (by omega) (by decide), show (nI i).toInt = (i : Int) from by rw [← Int32.sub_zero (nI i)]; exact (pk_sub_toInt (a := i) (b := 0) (by omega) (by decide)).trans (by omega)]
      omega
def c0 : CS := (((((fun _ => 0), (0, 1)), ((0, 0), (1, 0))), ((0, (0, fun _ => 0)), (((fun _ => 0), (fun _ => 0)), ((fun _ => 0), 0)))), ((((fun _ => 0), ((fun _ => 0), 0)), (((fun _ => 0), 0), ((fun _ => 0), 1))), ((0, (0, fun _ => 0)), ((0, 0), (1, 0)))))
def m0 : MS := (((((fun _ => 0), 0), (upd (fun _ => 0) (Int32.toNatClampNeg 0) 1, ((fun _ => 0), (fun _ => 0)))), (((fun _ => 0), ((fun _ => 0), 0)), (0, ((fun _ => 0), (fun _ => 0))))), ((((fun _ => 0), ((fun _ => 0), 0)), (0, ((fun _ => 0), (fun _ => 0)))), (((fun _ => 0), ((fun _ => 0), 0)), ((fun _ => 0), ((fun _ => 0), 0)))))
theorem Hini_hp : Hini = hp c0 m0 := rfl
theorem ok0 : OK c0 m0 := by
  refine ⟨⟨rfl, rfl, by decide, fun i hi => absurd hi (Nat.not_lt_zero i)⟩, ⟨by decide, by decide, rfl, fun i hi => ?_, fun i hi => ?_⟩, ⟨rfl, by decide, by decide, fun j hj => absurd hj (Nat.not_lt_zero j)⟩, ⟨by decide, fun s hs => ⟨?_, fun q => ?_⟩⟩, ⟨rfl, rfl, rfl, by decide, fun k hk => absurd hk (Nat.not_lt_zero k)⟩, rfl, .inl rfl⟩
  · have : i = 0 := by have : i < 1 := hi; omega
    subst this
    rfl
  · have : i = 0 := by have : i < 1 := hi; omega
    subst this
    rfl
  · show (0 : Int32) = bit01 0 s
    unfold bit01
    rw [Nat.zero_testBit]
    rfl
  · have q : (0 : Nat).testBit s = true := q
    rw [Nat.zero_testBit] at q
    cases q
theorem pure_main : ∀ G : GG, G.2.2.2.1 ≤ 2048 → ∃ H', fL_law_18 G 4096 0 Hini = some (1, H') := by
  intro G hL
  rw [Hini_hp]
  exact law_loop G hL 4096 0 c0 m0 ok0 (Nat.zero_le _) (by omega)
