/-! By a seed. -/
def drN (n r u V : Nat) : Nat × Nat := if V % 4 < 3 then (shR n r u (V % 4), shU n r u (V % 4)) else if V / 8 % n = V / 64 % n then (r, u) else (tdN n r (V / 8 % n) (V / 64 % n), tdN n u (V / 8 % n) (V / 64 % n))
theorem dr_P {n r u : Nat} (hr : r ∈ P n) (hu : u ∈ P n) (V : Nat) : (drN n r u V).1 ∈ P n ∧ (drN n r u V).2 ∈ P n := by
  have hn := P_n hr
  unfold drN
  split
  · exact ⟨P_shR hr hu _, P_shU hr hu _⟩
  · split
    · exact ⟨hr, hu⟩
    · exact ⟨P_td hr (Nat.mod_lt _ (by omega)) (Nat.mod_lt _ (by omega)), P_td hu (Nat.mod_lt _ (by omega)) (Nat.mod_lt _ (by omega))⟩
def vOf (x : Int64) : Nat := x.toBitVec.toNat / 2 ^ 33
theorem v_lt (x : Int64) : vOf x < 2 ^ 31 := by
  have := x.toBitVec.isLt
  unfold vOf
  omega
theorem v_of (x : Int64) : lushrF x 33 = lN (vOf x) := by
  obtain ⟨k, hk, rfl⟩ := wb_of x
  have h := wb_shr (n := k) (k := 33) hk (by decide)
  unfold vOf
  rw [wb_tn hk]
  exact h
section DR
variable {c : CS} {m : MS} {n r u : Nat}
theorem eLb (hn : 1 ≤ n ∧ n ≤ 5) {Y : Nat} (hY : Y < 2 ^ 63) : FX2_leftBy 4 (lN Y) (hp (triC c n r u) m) = some (nI (Y % n), hp (triC c n r u) m) := by
  unfold FX2_leftBy
  rw [gl0 triG, bd_some, if_neg (nI_nle (by omega) (by omega)), bd_some, nI_l (by omega), gp_pos (show ¬ lN n = 0 from fun q => by
    have := (pk_lEQ (b := 0) (by omega) (by decide)).mp q
    omega), rJ_lN hY (by omega) (by omega), lN_i]
theorem eDrawn (hr : r ∈ P n) (hu : u ∈ P n) {V : Nat} (hV : V < 2 ^ 31) : FX2_doDrawn 4 (lN V) (hp (triC c n r u) m) = some ((), hp (triC c n (drN n r u V).1 (drN n r u V).2) m) := by
  have hn := P_n hr
  unfold FX2_doDrawn drN
  rw [show rJ (lN V) 4 = lN (V % 4) from rJ_lN (d := 4) (by omega) (by decide) (by decide), lN_i]
  by_cases e : V % 4 < 3
  · rw [if_neg (show ¬ (2 : Int32) < nI (V % 4) from nI_nlt (b := V % 4) (a := 2) (by omega) (by decide)), gp_pos triO, eShear triG hr hu e, bd2_some, if_pos e, triS]
  · rw [if_pos (show (2 : Int32) < nI (V % 4) from nI_lt (a := 2) (by omega) (by omega)), gp_pos triO, show lN V / 8 = lN (V / 8) from pk_lDiv (b := 8) (by omega) (by decide) (by decide), show lN V / 64 = lN (V / 64) from pk_lDiv (b := 64) (by omega) (by decide) (by decide), eLb hn (by omega), bd2_some, gp_pos triO, eLb hn (by omega), bd2_some, if_neg e]
    have h1 : V / 8 % n < n := Nat.mod_lt _ (by omega)
    have h2 : V / 64 % n < n := Nat.mod_lt _ (by omega)
    by_cases e2 : V / 8 % n = V / 64 % n
    · rw [if_pos (by rw [e2]), if_pos e2]
    · rw [if_neg (fun q => e2 ((nI_eq (by omega) (by omega)).mp q)), gp_pos triO, eTrade triG hr hu h1 h2, bd2_some, if_neg e2, triS]
def cnt3 (n r u : Nat) : Int32 := (nI (ringsN (cN n r u) n n 0 0 0) + nI (ringsN r n n 0 0 0)) + nI (bandsN n r u)
def nxS (s : Int64) : Int64 := s * 6364136223846793005 + 1442695040888963407
def dwL (n : Nat) : Nat → Int64 → Nat → Nat → Int32 → Int32 × Int64
  | 0, s, _, _, a => (a, s)
  | q + 1, s, r, u, a => dwL n q (nxS s) (drN n r u (vOf (nxS s))).1 (drN n r u (vOf (nxS s))).2 (a + cnt3 n (drN n r u (vOf (nxS s))).1 (drN n r u (vOf (nxS s))).2)
theorem eDwL {M : Nat} (hM : M ≤ 20) : ∀ (q k d r u : Nat) (s : Int64) (a : Int32), k + q = M → q < d → r ∈ P n → u ∈ P n → ∃ r' u', fX9_drawn_46 d 0 (nI M) a (nI k) (hp (triC (c.zsd s) n r u) m) = some ((dwL n q s r u a).1, hp (triC (c.zsd (dwL n q s r u a).2) n r' u') m) := by
  intro q
  induction q with
  | zero =>
    intro k d r u s a hk hd hr hu
    obtain ⟨d, rfl⟩ : ∃ e, d = e + 1 := ⟨d - 1, by omega⟩
    refine ⟨r, u, ?_⟩
    show bX9_drawn_46 (fX9_drawn_46 d) _ _ _ _ _ = _
    unfold bX9_drawn_46
    rw [if_pos (nI_le (by omega) (by omega))]
    rfl
  | succ q ih =>
    intro k d r u s a hk hd hr hu
    obtain ⟨d, rfl⟩ : ∃ e, d = e + 1 := ⟨d - 1, by omega⟩
    have hP := dr_P hr hu (vOf (nxS s))
    have hs : bX9_drawn_46 (fX9_drawn_46 d) 0 (nI M) a (nI k) (hp (triC (c.zsd s) n r u) m) = fX9_drawn_46 d 0 (nI M) (a + cnt3 n (drN n r u (vOf (nxS s))).1 (drN n r u (vOf (nxS s))).2) (nI (k + 1)) (hp (triC (c.zsd (nxS s)) n (drN n r u (vOf (nxS s))).1 (drN n r u (vOf (nxS s))).2) m) := by
      unfold bX9_drawn_46
      rw [if_neg (nI_ge (by omega) (by omega)), hJ0_9, bd_some, hp0_9, bd_some]
      rw [show (triC (c.zsd s) n r u).zsd ((triC (c.zsd s) n r u).sd * 6364136223846793005 + 1442695040888963407) = triC (c.zsd (nxS s)) n r u from rfl, hA0_2, bd_some, hJ0_9, bd_some, gp_pos triO, show lushrF (triC (c.zsd (nxS s)) n r u).sd 33 = lN (vOf (nxS s)) from v_of _, eDrawn hr hu (v_lt _), bd2_some, hA0_2, bd_some, gp_pos triO, eCorners triG hP.1 hP.2, bd2_some, hA0_2, bd_some, gp_pos triO, eRowsC triG hP.1, bd2_some, hA0_2, bd_some, gp_pos triO, eBands triG hP.1 hP.2, bd2_some, nI_1]
      rfl
    show ∃ r' u', bX9_drawn_46 (fX9_drawn_46 d) 0 (nI M) a (nI k) (hp (triC (c.zsd s) n r u) m) = _
    rw [hs]
    exact ih (k + 1) d _ _ _ _ (by omega) (by omega) hP.1 hP.2
theorem mD130 {d M k : Nat} {a : Int32} {s : Int64} : ∀ (r2 u2 : Nat) (f2 g2 : Nat → Int32), r2 ∈ P n → u2 ∈ P n → NW f2 n r2 u2 → fX10_drawn_130 (fX10_drawn_38 d) 22 (nI M) (nI n) a (nI k) (hp c (((m.zsd s).zf25 f2).zf27 g2)) = fX10_drawn_38 d 22 (nI M) (nI n) (a + cnt3 n r2 u2) (nI (k + 1)) (hp c (((m.zsd s).zf25 f2).zf27 g2)) := by
  intro r2 u2 f2 g2 hr2 hu2 hf2
  have hml := nw_ml25 (c := c) (m := ((m.zsd s).zf25 f2).zf27 g2) hf2
  unfold fX10_drawn_130
  rw [hA22_3, bd_some, mAllCorners hml hr2 hu2, bd2_some, hA22_3, bd_some, mRows hml hr2, bd2_some, hA22_3, bd_some, mBands hml hr2 hu2, bd2_some, nI_1]
  rfl
theorem zz1 (m : MS) (s v : Int64) (f g : Nat → Int32) : (((m.zsd s).zf25 f).zf27 g).zsd v = ((m.zsd v).zf25 f).zf27 g := rfl
theorem zz2 (m : MS) (s : Int64) (f g f2 g2 : Nat → Int32) : ((((m.zsd s).zf25 f).zf27 g).zf25 f2).zf27 g2 = ((m.zsd s).zf25 f2).zf27 g2 := rfl
theorem zz3 (m : MS) (s : Int64) (f g : Nat → Int32) : MS.sd (((m.zsd s).zf25 f).zf27 g) = s := rfl
theorem mDst {d M k V : Nat} {a : Int32} {s : Int64} (hV : V < 2 ^ 31) (f g : Nat → Int32) (hr : r ∈ P n) (hu : u ∈ P n) (hf : NW f n r u) : ∃ f2 g2, (if (3 : Int32) ≤ nI (V % 4) then (if nI (V / 8 % n) = nI (V / 64 % n) then fX10_drawn_130 (fX10_drawn_38 d) 22 (nI M) (nI n) a (nI k) (hp c (((m.zsd s).zf25 f).zf27 g)) else bd (gA (hp c (((m.zsd s).zf25 f).zf27 g)) 22 9 3) fun x4 => gp (isO (hp c (((m.zsd s).zf25 f).zf27 g)) 22 9 = true) (bd2 (FX10_change 22 x4 (nI (V / 8 % n)) (nI (V / 64 % n)) (hp c (((m.zsd s).zf25 f).zf27 g))) fun _ H6 => fX10_drawn_130 (fX10_drawn_38 d) 22 (nI M) (nI n) a (nI k) H6)) else bd (gA (hp c (((m.zsd s).zf25 f).zf27 g)) 22 9 3) fun x7 => gp (isO (hp c (((m.zsd s).zf25 f).zf27 g)) 22 9 = true) (bd2 (FX10_shearOn 22 x7 (nI (V % 4)) (hp c (((m.zsd s).zf25 f).zf27 g))) fun _ H9 => fX10_drawn_130 (fX10_drawn_38 d) 22 (nI M) (nI n) a (nI k) H9)) = fX10_drawn_38 d 22 (nI M) (nI n) (a + cnt3 n (drN n r u V).1 (drN n r u V).2) (nI (k + 1)) (hp c (((m.zsd s).zf25 f2).zf27 g2)) ∧ NW f2 n (drN n r u V).1 (drN n r u V).2 := by
  have hn := P_n hr
  have hP := dr_P hr hu V
  have h1 : V / 8 % n < n := Nat.mod_lt _ (by omega)
  have h2 : V / 64 % n < n := Nat.mod_lt _ (by omega)
  by_cases e : V % 4 < 3
  · obtain ⟨f2, g2, q1, q2⟩ := sh25 (c := c) (m := ((m.zsd s).zf25 f).zf27 g) hr hu e hf
    rw [zz2] at q1
    rw [show drN n r u V = (shR n r u (V % 4), shU n r u (V % 4)) from if_pos e] at hP ⊢
    refine ⟨f2, g2, ?_, q2⟩
    rw [if_neg (show ¬ (3 : Int32) ≤ nI (V % 4) from nI_ge (b := 3) e (by decide)), hA22_3, bd_some, gp_pos hO22, q1, bd2_some]
    exact mD130 _ _ f2 g2 hP.1 hP.2 q2
  · rw [if_pos (show (3 : Int32) ≤ nI (V % 4) from nI_le (a := 3) (by omega) (by omega))]
    by_cases e2 : V / 8 % n = V / 64 % n
    · rw [show drN n r u V = (r, u) from (if_neg e).trans (if_pos e2)]
      refine ⟨f, g, ?_, hf⟩
      rw [if_pos (by rw [e2])]
      exact mD130 _ _ f g hr hu hf
    · obtain ⟨f2, g2, q1, q2⟩ := ch25 (c := c) (m := ((m.zsd s).zf25 f).zf27 g) hr hu h1 h2 hf
      rw [zz2] at q1
      rw [show drN n r u V = (tdN n r (V / 8 % n) (V / 64 % n), tdN n u (V / 8 % n) (V / 64 % n)) from (if_neg e).trans (if_neg e2)] at hP ⊢
      refine ⟨f2, g2, ?_, q2⟩
      rw [if_neg (fun q => e2 ((nI_eq (by omega) (by omega)).mp q)), hA22_3, bd_some, gp_pos hO22, q1, bd2_some]
      exact mD130 _ _ f2 g2 hP.1 hP.2 q2
theorem mDs2 {d M k : Nat} {a : Int32} {s : Int64} (hk : k < M) (hM : M ≤ 20) (f g : Nat → Int32) (hr : r ∈ P n) (hu : u ∈ P n) (hf : NW f n r u) : ∃ f2 g2, bX10_drawn_38 (fX10_drawn_38 d) 22 (nI M) (nI n) a (nI k) (hp c (((m.zsd s).zf25 f).zf27 g)) = fX10_drawn_38 d 22 (nI M) (nI n) (a + cnt3 n (drN n r u (vOf (nxS s))).1 (drN n r u (vOf (nxS s))).2) (nI (k + 1)) (hp c (((m.zsd (nxS s)).zf25 f2).zf27 g2)) ∧ NW f2 n (drN n r u (vOf (nxS s))).1 (drN n r u (vOf (nxS s))).2 := by
  have hn := P_n hr
  have hV := v_lt (nxS s)
  have hv := v_of (nxS s)
  have hx : s * 6364136223846793005 + 1442695040888963407 = nxS s := rfl
  unfold bX10_drawn_38
  rw [if_neg (nI_ge (by omega) (by omega)), hJ22_14, bd_some, hp22_14, bd_some, hJ22_14, bd_some, zz3, hx, zz1, hv]
  revert hV
  generalize vOf (nxS s) = V
  generalize nxS s = s2
  intro hV
  rw [lN_i, gp_pos (nI_ne0 (by omega) (by omega)), gp_pos (nI_ne0 (by omega) (by omega)), show rI (nI V) 4 = nI (V % 4) from rI_nI (d := 4) (by omega) (by decide) (by decide), show nI V / 8 = nI (V / 8) from pk_div (d := 8) (by omega) (by decide) (by decide), show nI V / 64 = nI (V / 64) from pk_div (d := 64) (by omega) (by decide) (by decide), rI_nI (by omega) (by omega) (by omega), rI_nI (by omega) (by omega) (by omega)]
  exact mDst hV f g hr hu hf
theorem mDwL {M : Nat} (hM : M ≤ 20) : ∀ (q k d r u : Nat) (s : Int64) (a : Int32) (f g : Nat → Int32), k + q = M → q < d → r ∈ P n → u ∈ P n → NW f n r u → ∃ f' g', fX10_drawn_38 d 22 (nI M) (nI n) a (nI k) (hp c (((m.zsd s).zf25 f).zf27 g)) = some ((dwL n q s r u a).1, hp c (((m.zsd (dwL n q s r u a).2).zf25 f').zf27 g')) := by
  intro q
  induction q with
  | zero =>
    intro k d r u s a f g hk hd hr hu hf
    obtain ⟨d, rfl⟩ : ∃ e, d = e + 1 := ⟨d - 1, by omega⟩
    refine ⟨f, g, ?_⟩
    show bX10_drawn_38 (fX10_drawn_38 d) _ _ _ _ _ _ = _
    unfold bX10_drawn_38
    rw [if_pos (nI_le (by omega) (by omega))]
    rfl
  | succ q ih =>
    intro k d r u s a f g hk hd hr hu hf
    obtain ⟨d, rfl⟩ : ∃ e, d = e + 1 := ⟨d - 1, by omega⟩
    have hn := P_n hr
    have hP := dr_P hr hu (vOf (nxS s))
    have hs := mDs2 (c := c) (m := m) (d := d) (M := M) (k := k) (a := a) (s := s) (by omega) hM f g hr hu hf
    obtain ⟨f2, g2, hs1, hs2⟩ := hs
    show ∃ f' g', bX10_drawn_38 (fX10_drawn_38 d) 22 (nI M) (nI n) a (nI k) (hp c (((m.zsd s).zf25 f).zf27 g)) = _
    rw [hs1]
    exact ih (k + 1) d _ _ _ _ f2 g2 (by omega) (by omega) hP.1 hP.2 hs2
end DR
theorem c_drawn (x : Int32) : Eqv (fun H => FX9_drawn 0 x H) (fun H => FX10_drawn 22 x H) := by
  intro c m h
  have hn := h.n5
  have hr := h.2.1.1
  have hu := h.2.1.2.1
  show ∃ r c' m', FX9_drawn 0 x (hp c m) = _ ∧ FX10_drawn 22 x (hp c' m) = _ ∧ _
  unfold FX9_drawn FX10_drawn
  rw [rg_clsL (l := 1) (h := 20) (a := 1) (b := 20) rfl rfl]
  by_cases hg : rg 1 20 x = true
  · obtain ⟨M, hM1, hM, rfl⟩ := (rg_t (by decide) (by decide)).mp hg
    obtain ⟨r', u', e1⟩ := eDwL (c := c) (m := m) (n := c.n) hM M 0 4096 c.r c.u c.sd 0 (by omega) (by omega) hr hu
    obtain ⟨f, q1, q2⟩ := mLay (c := triC (c.zsd (dwL c.n M c.sd c.r c.u 0).2) c.n r' u') hn h.2.1.2.2
    obtain ⟨f', g', e2⟩ := mDwL (c := triC (c.zsd (dwL c.n M c.sd c.r c.u 0).2) c.n r' u') (m := m) (n := c.n) hM M 0 4096 c.r c.u m.sd 0 f m.f27 (by omega) (by omega) hr hu q2
    have hsd := h.2.2.2.2.2.1
    refine ⟨(dwL c.n M c.sd c.r c.u 0).1, triC (c.zsd (dwL c.n M c.sd c.r c.u 0).2) c.n r' u', ((m.zsd (dwL c.n M m.sd c.r c.u 0).2).zf25 f').zf27 g', ?_, ?_, ⟨h.1, h.2.1, h.2.2.1, h.2.2.2.1, h.2.2.2.2.1, ?_, h.2.2.2.2.2.2⟩⟩
    · rw [if_pos hg, hA0_2, bd_some, hA0_1, bd_some, hI3_0, bd_some, bd_some, hI3_1, bd_some, bd_some, hI3_2, bd_some, gp_pos hO4, eBecome hg4, bd2_some, hs4]
      exact e1
    · rw [rg_inL (l := 1) (h := 20) (a := 1) (b := 20) rfl rfl (by decide) (by decide), bd2_some, hg, if_neg b01_1, hA22_3, bd_some, hA22_2, bd_some, q1, bd2_some, hA22_3, bd_some, ml0 (nw_ml25 (m := m.zf25 f) q2), bd_some, ← hsd]
      rw [← hsd] at e2
      exact e2
    · show (dwL c.n M m.sd c.r c.u 0).2 = (dwL c.n M c.sd c.r c.u 0).2
      rw [hsd]
  · refine ⟨-2, c, m, ?_, ?_, h⟩
    · rw [if_neg hg]
    · rw [rg_inL (l := 1) (h := 20) (a := 1) (b := 20) rfl rfl (by decide) (by decide), bd2_some, rgF hg, if_pos b01_f]
