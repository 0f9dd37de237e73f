/-! Calls: orbit, alike. -/
theorem ok_orb {c : CS} {M M' : MS} (h : OK c M) (hk : Kp M M') {a b e m x1 : Nat} {f : Nat → Int64} {p : Nat → Int32} (h1 : x1 ∈ T m) (hf : DL f (orbN m x1)) (hpp : ∀ j, j < (orbN m x1).length → p j = nI ((orbN m x1).idxOf (shN 0 m ((orbN m x1).getD j 0)))) : OK (gC c a b e f (orbN m x1).length p) M' := by
  have h' := hk.ok h
  exact ⟨h'.1, h'.2.1, h'.2.2.1, h'.2.2.2.1, h'.2.2.2.2.1, h'.2.2.2.2.2.1, .inr ⟨m, x1, h1, rfl, fun i hi => ⟨hf i hi, hpp i hi⟩⟩⟩
theorem c_orbit (x v : Int32) : Eqv (fun H => FX9_orbit 0 x v H) (fun H => FX10_orbit 22 x v H) := by
  intro c M h
  have hn := h.n5
  have hr := h.2.1.1
  have hu := h.2.1.2.1
  show ∃ r c' m', FX9_orbit 0 x v (hp c M) = _ ∧ FX10_orbit 22 x v (hp c' M) = _ ∧ _
  unfold FX9_orbit FX10_orbit
  cases hs : isS c.n x with
  | false =>
    refine ⟨-1, c, M, ?_, ?_, h⟩
    · rw [hA0_1, bd_some, gp_pos hO3, cHas h, bd2_some, hs, if_pos b01_f]
    · rw [gp_pos hO22, mSq h, bd2_some, hs, if_pos b01_f]
  | true =>
    obtain ⟨s, hs1, rfl⟩ := isS_of h hs
    rw [hA0_1, bd_some, gp_pos hO3, cHas h, bd2_some, hs, if_neg b01_1, rg_clsL (l := 0) (h := 2) (a := 0) (b := 2) rfl rfl]
    by_cases hg : rg 0 2 v = true
    · obtain ⟨w, _, hw, rfl⟩ := (rg_t (by decide) (by decide)).mp hg
      have hx := least_T hr hu hs1
      have hpl := lt32 hn (pieceN_lt hr hu hs1)
      obtain ⟨a, b, e, f, p, x1, g1, g2, g3, g4, g5⟩ := eGather (c := c) (M := M) hx h.2.2.2.2.2.2
      obtain ⟨M', k1, k2, k3, k4⟩ := mFo (c := gC c a b e f (orbN (popc (pieceN c.n c.r c.u s)) x1).length p) (M := M) hr hu h.2.1.2.2 hs1
      obtain ⟨o1, o2, o3, _⟩ := orb_same g2 g3
      have hl1 := orbN_len g2
      have hl2 := orbN_len hx
      have hF1 : ∀ j, j < (orbN (popc (pieceN c.n c.r c.u s)) x1).length → p j = nI ((FN (popc (pieceN c.n c.r c.u s)) x1).getD j 0) ∧ (FN (popc (pieceN c.n c.r c.u s)) x1).getD j 0 < (orbN (popc (pieceN c.n c.r c.u s)) x1).length := fun j hj => ⟨by rw [FN_at hj]; exact g5 j hj, FN_lt g2 hj⟩
      have hm := mOrb (c := gC c a b e f (orbN (popc (pieceN c.n c.r c.u s)) x1).length p) (M := M') k3.2 hl2.1 (fun j hj => ⟨k4 j hj, FN_lt hx hj⟩) (v := nI w) _ 0 4096 0 0 (Nat.zero_add _) (by omega) (by omega)
      refine ⟨if nI w = 0 then nI (orbN (popc (pieceN c.n c.r c.u s)) x1).length else if nI w = 1 then nI (cuC (FN (popc (pieceN c.n c.r c.u s)) x1) (orbN (popc (pieceN c.n c.r c.u s)) x1).length (orbN (popc (pieceN c.n c.r c.u s)) x1).length 0 0) else nI (wiC (FN (popc (pieceN c.n c.r c.u s)) x1) (orbN (popc (pieceN c.n c.r c.u s)) x1).length (orbN (popc (pieceN c.n c.r c.u s)) x1).length 0 0), gC c a b e f (orbN (popc (pieceN c.n c.r c.u s)) x1).length p, M', ?_, ?_, ok_orb h k2 g2 g4 g5⟩
      · rw [if_pos hg, hA0_6, bd_some, hA0_1, bd_some, gp_pos hO3, eLeast hg3 hr hu hs1, bd2_some, hA0_1, bd_some, gp_pos hO3, ePiece hg3 hr hu (by omega), bd2_some, eBits (by omega), bd2_some, gp_pos hO14, g1, bd2_some]
        by_cases e0 : nI w = 0
        · rw [if_pos e0, if_pos e0, hA0_6, bd_some, hA14_0, bd_some, hI15_1, bd_some]
          rfl
        · rw [if_neg e0, if_neg e0]
          by_cases e1 : nI w = 1
          · rw [if_pos e1, if_pos e1, hA0_6, bd_some, gp_pos hO14]
            unfold FX4_cusps
            rw [show (0 : Int32) = nI 0 from rfl, eCu (c := gC c a b e f (orbN (popc (pieceN c.n c.r c.u s)) x1).length p) (n := (orbN (popc (pieceN c.n c.r c.u s)) x1).length) rfl hl1.1 hF1 _ 0 4096 0 (Nat.zero_add _) (by omega), bd2_some]
          · rw [if_neg e1, if_neg e1, hA0_6, bd_some, gp_pos hO14]
            unfold FX4_widest
            rw [show (0 : Int32) = nI 0 from rfl, eWi (c := gC c a b e f (orbN (popc (pieceN c.n c.r c.u s)) x1).length p) (n := (orbN (popc (pieceN c.n c.r c.u s)) x1).length) rfl hl1.1 hF1 _ 0 4096 0 (Nat.zero_add _) (by omega) (Nat.zero_le _), bd2_some]
      · rw [gp_pos hO22, show FX10_isSquare 22 (nI s) (hp (gC c a b e f (orbN (popc (pieceN c.n c.r c.u s)) x1).length p) M) = _ from mSq h _ _, bd2_some, hs, if_neg b01_1, rg_inL (l := 0) (h := 2) (a := 0) (b := 2) rfl rfl (by decide) (by decide), bd2_some, hg, if_neg b01_1, gp_pos hO22, k1, bd2_some, o2, o3]
        refine hm.trans ?_
        rw [o1]
    · refine ⟨-2, c, M, ?_, ?_, h⟩
      · rw [if_neg hg]
      · rw [gp_pos hO22, mSq h, bd2_some, hs, if_neg b01_1, rg_inL (l := 0) (h := 2) (a := 0) (b := 2) rfl rfl (by decide) (by decide), bd2_some, rgF hg, if_pos b01_f]
theorem lgz {a b : Nat} (ha : a < 2 ^ 62) (hb : b < 2 ^ 62) : lg_cmp (lN a) (lN b) = 0 ↔ a = b := by
  rw [lg_cmp_eq]
  exact pk_lEQ (by omega) (by omega)
theorem c_alike (x y v : Int32) : Eqv (fun H => FX9_alike 0 x y v H) (fun H => FX10_alike 22 x y v H) := by
  intro c M h
  have hn := h.n5
  have hr := h.2.1.1
  have hu := h.2.1.2.1
  show ∃ r c' m', FX9_alike 0 x y v (hp c M) = _ ∧ FX10_alike 22 x y v (hp c' M) = _ ∧ _
  unfold FX9_alike FX10_alike
  cases hs : isS c.n x with
  | false =>
    refine ⟨-1, c, M, ?_, ?_, h⟩
    · rw [hA0_1, bd_some, gp_pos hO3, cHas h, bd2_some, hs, if_pos b01_f]
    · rw [gp_pos hO22, mSq h, bd2_some, hs, if_pos b01_f]
  | true =>
    obtain ⟨s, hs1, rfl⟩ := isS_of h hs
    cases ht : isS c.n y with
    | false =>
      refine ⟨-1, c, M, ?_, ?_, h⟩
      · rw [hA0_1, bd_some, gp_pos hO3, cHas h, bd2_some, hs, if_neg b01_1, hA0_1, bd_some, gp_pos hO3, cHas h, bd2_some, ht, if_pos b01_f]
      · rw [gp_pos hO22, mSq h, bd2_some, hs, if_neg b01_1, gp_pos hO22, mSq h, bd2_some, ht, if_pos b01_f]
    | true =>
      obtain ⟨t, ht1, rfl⟩ := isS_of h ht
      rw [hA0_1, bd_some, gp_pos hO3, cHas h, bd2_some, hs, if_neg b01_1, hA0_1, bd_some, gp_pos hO3, cHas h, bd2_some, ht, if_neg b01_1, rg_clsL (l := 0) (h := 1) (a := 0) (b := 1) rfl rfl]
      by_cases hg : rg 0 1 v = true
      · have hx := least_T hr hu hs1
        have hy := least_T hr hu ht1
        have hxl := (T_dec hx).2.2.1
        have hyl := (T_dec hy).2.2.1
        have hpl := lt32 hn (pieceN_lt hr hu hs1)
        obtain ⟨a1, b1, d1, q1⟩ := mLs24 (c := c) (M := M) hr hu h.2.1.2.2 ht1
        by_cases e0 : v = 0
        · obtain ⟨a2, b2, d2, q2⟩ := mLs24 (c := c) (M := ((M.zf33 a1).zf34 b1).zsz d1) hr hu h.2.1.2.2 hs1
          refine ⟨if leastN c.n c.r c.u t = leastN c.n c.r c.u s then 1 else 0, c, ((((((M.zf33 a1).zf34 b1).zsz d1).zf33 a2).zf34 b2).zsz d2), ?_, ?_, h⟩
          · rw [if_pos hg, hA0_1, bd_some, gp_pos hO3, eLeast hg3 hr hu ht1, bd2_some, if_pos e0, hA0_1, bd_some, gp_pos hO3, eLeast hg3 hr hu hs1, bd2_some]
            by_cases e : leastN c.n c.r c.u t = leastN c.n c.r c.u s
            · rw [if_pos ((lgz (by omega) (by omega)).mpr e), if_pos e]
            · rw [if_neg (fun q => e ((lgz (by omega) (by omega)).mp q)), if_neg e]
          · rw [gp_pos hO22, mSq h, bd2_some, hs, if_neg b01_1, gp_pos hO22, mSq h, bd2_some, ht, if_neg b01_1, rg_inL (l := 0) (h := 1) (a := 0) (b := 1) rfl rfl (by decide) (by decide), bd2_some, hg, if_neg b01_1, hA22_2, bd_some, gp_pos hO22, q1, bd2_some, if_pos e0, hA22_2, bd_some, gp_pos hO22, q2, bd2_some]
            by_cases e : leastN c.n c.r c.u t = leastN c.n c.r c.u s
            · rw [if_pos ((lgz (by omega) (by omega)).mpr e), if_pos e]
            · rw [if_neg (fun q => e ((lgz (by omega) (by omega)).mp q)), if_neg e]
        · obtain ⟨a, b, e, f, p, x1, g1, g2, g3, g4, g5⟩ := eGather (c := c) (M := M) hx h.2.2.2.2.2.2
          obtain ⟨a3, b3, d3, q3⟩ := mLs24 (c := gC c a b e f (orbN (popc (pieceN c.n c.r c.u s)) x1).length p) (M := M) hr hu h.2.1.2.2 ht1
          obtain ⟨M', k1, k2, k3, k4⟩ := mFo (c := gC c a b e f (orbN (popc (pieceN c.n c.r c.u s)) x1).length p) (M := ((M.zf33 a3).zf34 b3).zsz d3) hr hu h.2.1.2.2 hs1
          obtain ⟨_, _, _, o4⟩ := orb_same g2 g3
          have hl1 := orbN_len g2
          have hl2 := orbN_len hx
          have hM1 := orbN_LM g2
          have hM2 := orbN_LM hx
          have f1 := eFind15 (c := gC c a b e f (orbN (popc (pieceN c.n c.r c.u s)) x1).length p) (m := M) (L := orbN (popc (pieceN c.n c.r c.u s)) x1) (x := leastN c.n c.r c.u t) hM1.1 (by omega) (fun y hy => by have := (T_dec (hM1.2 y hy)).2.2.1; omega) (by omega) g4 rfl
          have f2 := mPo (c := gC c a b e f (orbN (popc (pieceN c.n c.r c.u s)) x1).length p) (M := M') (L := orbN (popc (pieceN c.n c.r c.u s)) (leastN c.n c.r c.u s)) (y := leastN c.n c.r c.u t) hM2.1 (by omega) (fun y hy => by have := (T_dec (hM2.2 y hy)).2.2.1; omega) (by omega) k3.1 k3.2
          refine ⟨if leastN c.n c.r c.u t ∈ orbN (popc (pieceN c.n c.r c.u s)) x1 then 1 else 0, gC c a b e f (orbN (popc (pieceN c.n c.r c.u s)) x1).length p, M', ?_, ?_, ok_orb h ((kp334 M a3 b3 d3).tr k2) g2 g4 g5⟩
          · rw [if_pos hg, hA0_1, bd_some, gp_pos hO3, eLeast hg3 hr hu ht1, bd2_some, if_neg e0, hA0_6, bd_some, hA0_1, bd_some, gp_pos hO3, eLeast hg3 hr hu hs1, bd2_some, hA0_1, bd_some, gp_pos hO3, ePiece hg3 hr hu (by omega), bd2_some, eBits (by omega), bd2_some, gp_pos hO14, g1, bd2_some, hA0_6, bd_some, hA14_0, bd_some, gp_pos hO15, f1, bd2_some]
            by_cases e : leastN c.n c.r c.u t ∈ orbN (popc (pieceN c.n c.r c.u s)) x1
            · have := idx_lt e
              rw [if_pos e, if_neg (nI_pos (by omega)), if_pos e]
            · rw [if_neg e, if_pos (by decide), if_neg e]
          · rw [gp_pos hO22, show FX10_isSquare 22 (nI s) (hp (gC c a b _ f (orbN (popc (pieceN c.n c.r c.u s)) x1).length p) M) = _ from mSq h _ _, bd2_some, hs, if_neg b01_1, gp_pos hO22, show FX10_isSquare 22 (nI t) (hp (gC c a b _ f (orbN (popc (pieceN c.n c.r c.u s)) x1).length p) M) = _ from mSq h _ _, bd2_some, ht, if_neg b01_1, rg_inL (l := 0) (h := 1) (a := 0) (b := 1) rfl rfl (by decide) (by decide), bd2_some, hg, if_neg b01_1, hA22_2, bd_some, gp_pos hO22, q3, bd2_some, if_neg e0, gp_pos hO22, k1, bd2_some, gp_pos hO22, f2, bd2_some]
            by_cases e : leastN c.n c.r c.u t ∈ orbN (popc (pieceN c.n c.r c.u s)) x1
            · have e' := (o4 _).mp e
              have := idx_lt e'
              rw [if_pos e', if_neg (nI_ne9 (by omega)), if_pos e]
            · rw [if_neg (fun q => e ((o4 _).mpr q)), if_pos rfl, if_neg e]
      · refine ⟨-2, c, M, ?_, ?_, h⟩
        · rw [if_neg hg]
        · rw [gp_pos hO22, mSq h, bd2_some, hs, if_neg b01_1, gp_pos hO22, mSq h, bd2_some, ht, if_neg b01_1, rg_inL (l := 0) (h := 1) (a := 0) (b := 1) rfl rfl (by decide) (by decide), bd2_some, rgF hg, if_pos b01_f]
