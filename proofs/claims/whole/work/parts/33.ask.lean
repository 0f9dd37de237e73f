/-! Calls that ask: go, walk, square, name. -/
section CL
variable {c : CS} {m : MS}
theorem cHas (h : OK c m) (x : Int32) : FX2_has 3 x (hp c m) = some (b01 (isS c.n x), hp c m) := eHas hg3 h.n5 x
theorem mSq (h : OK c m) (c' : CS) (x : Int32) : FX10_isSquare 22 x (hp c' m) = some (b01 (isS c.n x), hp c' m) := mIsSquare hA22_2 (ok_ml h c') h.n1 h.n5 x
theorem isS_of (h : OK c m) {x : Int32} (hs : isS c.n x = true) : ∃ s, s < c.n ∧ x = nI s := (isS_t (by have := h.n5; omega)).mp hs
end CL
theorem nI_eqL {a b : Nat} {l : Int32} (e : l = nI b) (ha : a < 2 ^ 31) (hb : b < 2 ^ 31) : nI a = l ↔ a = b := by rw [e]; exact nI_eq ha hb
theorem c_go (x y : Int32) : Eqv (fun H => FX9_go 0 x y H) (fun H => FX10_go 22 x y H) := by
  intro c m h
  have hn := h.n5
  show ∃ r c' m', FX9_go 0 x y (hp c m) = _ ∧ FX10_go 22 x y (hp c' m) = _ ∧ _
  unfold FX9_go FX10_go
  cases hs : isS c.n x with
  | false =>
    refine ⟨-1, c, m, ?_, ?_, h⟩
    · rw [hA0_1, bd_some, gp_pos hO3, cHas h, bd2_some, hs, if_pos b01_f]
    · rw [gp_pos hO22, mSq h, bd2_some, hs, if_pos b01_f]
  | true =>
    obtain ⟨s, hs1, rfl⟩ := isS_of h hs
    by_cases hr : rg 1 4 y = true
    · obtain ⟨w, hw1, hw, rfl⟩ := (rg_t (by decide) (by decide)).mp hr
      refine ⟨nI (movN c.n c.r c.u s w), c, m, ?_, ?_, h⟩
      · rw [hA0_1, bd_some, gp_pos hO3, cHas h, bd2_some, hs, if_neg b01_1, rg_clsL (l := 1) (h := 4) (a := 1) (b := 4) rfl rfl, if_pos hr, hA0_1, bd_some, gp_pos hO3, eMoved hg3 h.2.1.1 h.2.1.2.1 hs1 (by omega), bd2_some]
      · rw [gp_pos hO22, mSq h, bd2_some, hs, if_neg b01_1, rg_inL (l := 1) (h := 4) (a := 1) (b := 4) rfl rfl (by decide) (by decide), bd2_some, hr, if_neg b01_1, hA22_2, bd_some, mMoved (ok_ml h c) h.2.1.1 h.2.1.2.1 hs1 (by omega), bd2_some]
    · refine ⟨-2, c, m, ?_, ?_, h⟩
      · rw [hA0_1, bd_some, gp_pos hO3, cHas h, bd2_some, hs, if_neg b01_1, rg_clsL (l := 1) (h := 4) (a := 1) (b := 4) rfl rfl, if_neg hr]
      · rw [gp_pos hO22, mSq h, bd2_some, hs, if_neg b01_1, rg_inL (l := 1) (h := 4) (a := 1) (b := 4) rfl rfl (by decide) (by decide), bd2_some, rgF hr, if_pos b01_f]
theorem c_walk (x y : Int32) : Eqv (fun H => FX9_walk 0 x y H) (fun H => FX10_walk 22 x y H) := by
  intro c m h
  have hn := h.n5
  show ∃ r c' m', FX9_walk 0 x y (hp c m) = _ ∧ FX10_walk 22 x y (hp c' m) = _ ∧ _
  unfold FX9_walk FX10_walk
  cases hs : isS c.n x with
  | false =>
    refine ⟨-1, c, m, ?_, ?_, h⟩
    · rw [hA0_1, bd_some, gp_pos hO3, cHas h, bd2_some, hs, if_pos b01_f]
    · rw [gp_pos hO22, mSq h, bd2_some, hs, if_pos b01_f]
  | true =>
    obtain ⟨s, hs1, rfl⟩ := isS_of h hs
    obtain ⟨b, hb1, hb2, hb3⟩ := isWay_both y
    cases b with
    | false =>
      refine ⟨-2, c, m, ?_, ?_, h⟩
      · rw [hA0_1, bd_some, gp_pos hO3, cHas h, bd2_some, hs, if_neg b01_1, hb1, bd2_some, if_pos b01_f]
      · rw [gp_pos hO22, mSq h, bd2_some, hs, if_neg b01_1, hb2, bd2_some, if_pos b01_f]
    | true =>
      obtain ⟨w, rfl, w1, w2, w3⟩ := hb3 rfl
      refine ⟨nI (walkL c.n c.r c.u w 4 s), c, m, ?_, ?_, h⟩
      · rw [hA0_1, bd_some, gp_pos hO3, cHas h, bd2_some, hs, if_neg b01_1, hb1, bd2_some, if_neg b01_1, hA0_1, bd_some, gp_pos hO3, eWalked hg3 h.2.1.1 h.2.1.2.1 (by omega) hs1, bd2_some]
      · rw [gp_pos hO22, mSq h, bd2_some, hs, if_neg b01_1, hb2, bd2_some, if_neg b01_1, hA22_2, bd_some, mEnd (ok_ml h c) h.2.1.1 h.2.1.2.1 w2 w3 hs1, bd2_some]
theorem c_square (x y : Int32) : Eqv (fun H => FX9_square 0 x y H) (fun H => FX10_square 22 x y H) := by
  intro c m h
  have hn := h.n5
  have hr := h.2.1.1
  have hu := h.2.1.2.1
  have hc : cN c.n c.r c.u < 65536 := by have := P_lt (P_c hr hu); omega
  have hrl : c.r < 65536 := by have := P_lt hr; omega
  show ∃ r c' m', FX9_square 0 x y (hp c m) = _ ∧ FX10_square 22 x y (hp c' m) = _ ∧ _
  unfold FX9_square FX10_square
  cases hs : isS c.n x with
  | false =>
    refine ⟨-1, c, m, ?_, ?_, h⟩
    · rw [hA0_1, bd_some, gp_pos hO3, cHas h, bd2_some, hs, if_pos b01_f]
    · rw [gp_pos hO22, mSq h, bd2_some, hs, if_pos b01_f]
  | true =>
    obtain ⟨s, hs1, rfl⟩ := isS_of h hs
    rw [hA0_1, bd_some, gp_pos hO3, cHas h, bd2_some, hs, if_neg b01_1]
    by_cases e0 : y = (0 : Int32)
    · refine ⟨nI (pieceN c.n c.r c.u s), c, m, ?_, ?_, h⟩
      · rw [if_pos e0, hA0_1, bd_some, gp_pos hO3, ePiece hg3 hr hu (by omega), bd2_some]
      · rw [gp_pos hO22, mSq h, bd2_some, hs, if_neg b01_1, if_pos e0, hA22_2, bd_some, mPieceOf (ok_ml h c) hr hu hs1, bd2_some]
    by_cases e1 : y = (1 : Int32)
    · refine ⟨nI (dg (cN c.n c.r c.u) s), c, m, ?_, ?_, h⟩
      · rw [if_neg e0, if_pos e1, hA0_1, bd_some, gp_pos hO3, eTurned hg3 hr hu, bd2_some, eAt hc (by omega), bd2_some]
      · rw [gp_pos hO22, mSq h, bd2_some, hs, if_neg b01_1, if_neg e0, if_pos e1, hA22_2, bd_some, mAround (ok_ml h c) hr hu hs1, bd2_some]
    by_cases e2 : y = (2 : Int32)
    · refine ⟨nI (popc (ringN (cN c.n c.r c.u) c.n s 0)), c, m, ?_, ?_, h⟩
      · rw [if_neg e0, if_neg e1, if_pos e2, hA0_1, bd_some, gp_pos hO3, eTurned hg3 hr hu, bd2_some, hA0_1, bd_some, hI3_0, bd_some, eRing hc (by omega) (by omega), bd2_some, eBits (ring_lt _ _ _ _ (by omega) (by omega)), bd2_some]
      · rw [gp_pos hO22, mSq h, bd2_some, hs, if_neg b01_1, if_neg e0, if_neg e1, if_pos e2, hA22_2, bd_some, mTurns (ok_ml h c) hr hu hs1, bd2_some]
    by_cases e3 : y = (3 : Int32)
    · refine ⟨nI (ringN c.r c.n s 0), c, m, ?_, ?_, h⟩
      · rw [if_neg e0, if_neg e1, if_neg e2, if_pos e3, hA0_1, bd_some, hI3_1, bd_some, bd_some, hI3_0, bd_some, eRing hrl (by omega) (by omega), bd2_some]
      · rw [gp_pos hO22, mSq h, bd2_some, hs, if_neg b01_1, if_neg e0, if_neg e1, if_neg e2, if_pos e3, hA22_2, bd_some, mRowOf (ok_ml h c) hr hs1, bd2_some]
    by_cases e4 : y = (4 : Int32)
    · refine ⟨nI (bandN c.n c.r c.u s), c, m, ?_, ?_, h⟩
      · rw [if_neg e0, if_neg e1, if_neg e2, if_neg e3, if_pos e4, hA0_1, bd_some, gp_pos hO3, eBand hg3 hr hu hs1, bd2_some]
      · rw [gp_pos hO22, mSq h, bd2_some, hs, if_neg b01_1, if_neg e0, if_neg e1, if_neg e2, if_neg e3, if_pos e4, hA22_2, bd_some, mBandOf (ok_ml h c) hr hu hs1, bd2_some]
    by_cases e5 : y = (5 : Int32)
    · refine ⟨nI (holesN c.n c.r c.u s), c, m, ?_, ?_, h⟩
      · rw [if_neg e0, if_neg e1, if_neg e2, if_neg e3, if_neg e4, if_pos e5, hA0_1, bd_some, gp_pos hO3, eHoles hg3 hr hu hs1, bd2_some]
      · rw [gp_pos hO22, mSq h, bd2_some, hs, if_neg b01_1, if_neg e0, if_neg e1, if_neg e2, if_neg e3, if_neg e4, if_pos e5, hA22_2, bd_some, mHoles (ok_ml h c) hr hu hs1, bd2_some]
    refine ⟨-2, c, m, ?_, ?_, h⟩
    · rw [if_neg e0, if_neg e1, if_neg e2, if_neg e3, if_neg e4, if_neg e5]
    · rw [gp_pos hO22, mSq h, bd2_some, hs, if_neg b01_1, if_neg e0, if_neg e1, if_neg e2, if_neg e3, if_neg e4, if_neg e5]
theorem shp_hp {c : CS} {m : MS} : Shp (nI m.ln) (nI m.dn) (nI m.nx) (nI m.sn) m.sd m.mn (hp c m) := ⟨m.f33, m.f34, m.sz, hc22, hc33, hc34⟩
/-- what naming leaves behind -/
theorem shp_back {c : CS} {m : MS} {H' : Hp} (hf : Fr [22, 33, 34] (hp c m) H') (hs : Shp (nI m.ln) (nI m.dn) (nI m.nx) (nI m.sn) m.sd m.mn H') : ∃ a b d, H' = hp c (((m.zf33 a).zf34 b).zsz d) := by
  obtain ⟨fn, fm, sz, h1, h2, h3⟩ := hs
  exact ⟨fn, fm, sz, fr3 hf h1 h2 h3 (by decide)⟩
theorem c_name (x y : Int32) : EqvJ (fun H => FX9_name 0 x y H) (fun H => FX10_name 22 x y H) := by
  intro c m h
  have hn := h.n5
  have hr := h.2.1.1
  have hu := h.2.1.2.1
  show ∃ r c' m', FX9_name 0 x y (hp c m) = _ ∧ FX10_name 22 x y (hp c' m) = _ ∧ _
  unfold FX9_name FX10_name
  cases hs : isS c.n x with
  | false =>
    refine ⟨-1, c, m, ?_, ?_, h⟩
    · rw [hA0_1, bd_some, gp_pos hO3, cHas h, bd2_some, hs, if_pos b01_f]
    · rw [gp_pos hO22, mSq h, bd2_some, hs, if_pos b01_f]
  | true =>
    obtain ⟨s, hs1, rfl⟩ := isS_of h hs
    rw [hA0_1, bd_some, gp_pos hO3, cHas h, bd2_some, hs, if_neg b01_1]
    by_cases e0 : y = (0 : Int32)
    · obtain ⟨H', g1, g2, g3⟩ := mNameFrom hr hu (by decide) (ok_ml h c) (shp_hp (c := c)) hs1
      obtain ⟨a, b, d, rfl⟩ := shp_back g2 g3
      refine ⟨lN (nameN c.n c.r c.u s), c, ((m.zf33 a).zf34 b).zsz d, ?_, ?_, ?_⟩
      · rw [if_pos e0, hA0_1, bd_some, gp_pos hO3, eNameFrom hg3 hr hu hs1, bd2_some]
      · rw [gp_pos hO22, mSq h, bd2_some, hs, if_neg b01_1, rg_inL (l := 0) (h := 1) (a := 0) (b := 1) rfl rfl (by decide) (by decide), bd2_some, e0, show rg 0 1 0 = true from by decide, if_neg b01_1, if_pos rfl, hA22_2, bd_some, gp_pos hO22, g1, bd2_some]
      · exact h
    · rw [if_neg e0]
      by_cases e1 : y = (1 : Int32)
      · obtain ⟨H', g1, g2, g3⟩ := mLeast' hr hu (by decide) (ok_ml h c) (shp_hp (c := c)) hs1
        obtain ⟨a, b, d, rfl⟩ := shp_back g2 g3
        refine ⟨lN (leastN c.n c.r c.u s), c, ((m.zf33 a).zf34 b).zsz d, ?_, ?_, ?_⟩
        · rw [if_pos e1, hA0_1, bd_some, gp_pos hO3, eLeast hg3 hr hu hs1, bd2_some]
        · rw [gp_pos hO22, mSq h, bd2_some, hs, if_neg b01_1, rg_inL (l := 0) (h := 1) (a := 0) (b := 1) rfl rfl (by decide) (by decide), bd2_some, e1, show rg 0 1 1 = true from by decide, if_neg b01_1, if_neg (by decide), hA22_2, bd_some, gp_pos hO22, g1, bd2_some]
        · exact h
      · have hrg : rg 0 1 y = false := by
          apply rgF
          intro q
          obtain ⟨w, _, hw, rfl⟩ := (rg_t (by decide) (by decide)).mp q
          have : w = 0 ∨ w = 1 := by omega
          rcases this with rfl | rfl
          · exact e0 rfl
          · exact e1 rfl
        refine ⟨-2, c, m, ?_, ?_, h⟩
        · rw [if_neg e1]
        · rw [gp_pos hO22, mSq h, bd2_some, hs, if_neg b01_1, rg_inL (l := 0) (h := 1) (a := 0) (b := 1) rfl rfl (by decide) (by decide), bd2_some, hrg, if_pos b01_f]
