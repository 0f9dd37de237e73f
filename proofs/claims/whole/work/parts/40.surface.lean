/-! A surface out of the text. -/
section SF
variable {c : CS} {m : MS}
theorem eRowFrL (h : OKt c m) {p n : Nat} (hn : n ≤ 5) (hpn : p + n ≤ c.L) (hv : ∀ i, i < n → 48 ≤ vt c (p + i) ∧ vt c (p + i) < 48 + n) : ∀ (q i d w : Nat), i + q = n → q < d → fX3_rowFrom_5 d 1 (nI p) (nI n) (nI w) (nI i) (hp c m) = some (nI (up (fun i w => putN w i (vt c (p + i) - 48)) i q w), hp c m) := by
  have hL := h.2.2.1
  intro q
  induction q with
  | zero =>
    intro i d w hk hd
    obtain ⟨d, rfl⟩ : ∃ e, d = e + 1 := ⟨d - 1, by omega⟩
    show bX3_rowFrom_5 (fX3_rowFrom_5 d) _ _ _ _ _ _ = _
    unfold bX3_rowFrom_5
    rw [if_pos (nI_le (by omega) (by omega))]
    rfl
  | succ q ih =>
    intro i d w hk hd
    obtain ⟨d, rfl⟩ : ∃ e, d = e + 1 := ⟨d - 1, by omega⟩
    show bX3_rowFrom_5 (fX3_rowFrom_5 d) _ _ _ _ _ _ = _
    unfold bX3_rowFrom_5
    have hvi := hv i (by omega)
    rw [if_neg (nI_ge (by omega) (by omega)), gp_pos hO1, nI_add, eFig h (by omega), bd2_some, s48 hvi.1, ePut (by omega) (by omega), bd2_some, nI_1, ih (i + 1) d _ (by omega) (by omega)]
    rfl
theorem eRowFr (h : OKt c m) {p n : Nat} (hn : n ≤ 5) (hpn : p + n ≤ c.L) (hv : ∀ i, i < n → 48 ≤ vt c (p + i) ∧ vt c (p + i) < 48 + n) : FX3_rowFrom 1 (nI p) (nI n) (hp c m) = some (nI (rowOf (fun i => vt c (p + i) - 48) n), hp c m) := by
  unfold FX3_rowFrom
  exact eRowFrL h hn hpn hv n 0 4096 0 (by omega) (by omega)
theorem mSu24 {n : Nat} : ∀ (q i d : Nat) (g : Nat → Int32), i + q = 11 → q < d → ∃ g', fX10_surface_24 d 22 (nI n) (nI i) (hp c (m.zf24 g)) = fX10_surface_52 4096 22 (nI n) 0 (hp c (m.zf24 (upd g' 0 (nI n)))) := by
  intro q
  induction q with
  | zero =>
    intro i d g hk hd
    obtain ⟨d, rfl⟩ : ∃ e, d = e + 1 := ⟨d - 1, by omega⟩
    refine ⟨g, ?_⟩
    show bX10_surface_24 (fX10_surface_24 d) _ _ _ _ = _
    unfold bX10_surface_24
    rw [if_pos (show (11 : Int32) ≤ nI i from nI_le (a := 11) (by omega) (by omega)), hA22_2, bd_some, show sI (hp c (m.zf24 g)) 24 0 0 (nI n) = some (hp c (m.zf24 (upd g 0 (nI n)))) from hw24 (i := 0) (by decide) _, bd_some]
  | succ q ih =>
    intro i d g hk hd
    obtain ⟨d, rfl⟩ : ∃ e, d = e + 1 := ⟨d - 1, by omega⟩
    have e : fX10_surface_24 (d + 1) 22 (nI n) (nI i) (hp c (m.zf24 g)) = fX10_surface_24 d 22 (nI n) (nI (i + 1)) (hp c (m.zf24 (upd g i 0))) := by
      show bX10_surface_24 (fX10_surface_24 d) _ _ _ _ = _
      unfold bX10_surface_24
      rw [if_neg (nI11n (by omega)), hA22_2, bd_some, hw24 (by omega), bd_some, nI_1]
    rw [e]
    exact ih (i + 1) d _ (by omega) (by omega)
theorem mSu52 (h : OKt c m) {n : Nat} (hn : 1 ≤ n ∧ n ≤ 5) (hL2 : c.L = 2 + 2 * n) (hv : ∀ i, 2 ≤ i → i < 2 + 2 * n → 48 ≤ vt c i ∧ vt c i < 48 + n) {c' : CS} : ∀ (q i d : Nat) (g : Nat → Int32), i + q = n → q < d → g 0 = nI n → (∀ j, j < i → g (1 + j) = nI (vt c (2 + j) - 48) ∧ g (6 + j) = nI (vt c (2 + n + j) - 48)) → ∃ (g' : Nat → Int32) (K : _), fX10_surface_52 d 22 (nI n) (nI i) (hp c' (m.zf24 g)) = bX10_surface_52 K 22 (nI n) (nI n) (hp c' (m.zf24 g')) ∧ g' 0 = nI n ∧ (∀ j, j < n → g' (1 + j) = nI (vt c (2 + j) - 48) ∧ g' (6 + j) = nI (vt c (2 + n + j) - 48)) := by
  have hL := h.2.2.1
  intro q
  induction q with
  | zero =>
    intro i d g hk hd h0 h1
    obtain ⟨d, rfl⟩ : ∃ e, d = e + 1 := ⟨d - 1, by omega⟩
    have hi : i = n := by omega
    subst hi
    exact ⟨g, fX10_surface_52 d, rfl, h0, h1⟩
  | succ q ih =>
    intro i d g hk hd h0 h1
    obtain ⟨d, rfl⟩ : ∃ e, d = e + 1 := ⟨d - 1, by omega⟩
    have e : fX10_surface_52 (d + 1) 22 (nI n) (nI i) (hp c' (m.zf24 g)) = fX10_surface_52 d 22 (nI n) (nI (i + 1)) (hp c' (m.zf24 (upd (upd g (1 + i) (nI (vt c (2 + i) - 48))) (6 + i) (nI (vt c (2 + n + i) - 48))))) := by
      show bX10_surface_52 (fX10_surface_52 d) _ _ _ _ = _
      unfold bX10_surface_52
      have v1 := vt_of h (i := 2 + i) (by omega)
      have v2 := vt_of h (i := 2 + n + i) (by omega)
      have w1 := hv (2 + i) (by omega) (by omega)
      have w2 := hv (2 + n + i) (by omega) (by omega)
      rw [if_neg (nI_ge (by omega) (by omega)), hA22_2, bd_some, hA22_0, bd_some, show (2 : Int32) + nI i = nI (2 + i) from nI_add 2 i, hr23 (by omega), bd_some, show (1 : Int32) + nI i = nI (1 + i) from nI_add 1 i, hw24 (by omega), bd_some, hA22_2, bd_some, hA22_0, bd_some, show (2 : Int32) + nI n = nI (2 + n) from nI_add 2 n, nI_add, hr23 (by omega), bd_some, show (6 : Int32) + nI i = nI (6 + i) from nI_add 6 i, hw24 (by omega), bd_some, nI_1]
      show fX10_surface_52 d 22 (nI n) (nI (i + 1)) (hp c' (m.zf24 (upd (upd g (1 + i) (m.t (2 + i) - 48)) (6 + i) (m.t (2 + n + i) - 48)))) = _
      rw [h.1, v1.1, v2.1, s48 w1.1, s48 w2.1]
    rw [e]
    refine ih (i + 1) d _ (by omega) (by omega) (by rw [upd_ne (by omega), upd_ne (by omega)]; exact h0) (fun j hj => ?_)
    by_cases ej : j = i
    · subst ej
      exact ⟨by rw [upd_ne (by omega), upd_at], by rw [upd_at]⟩
    · exact ⟨by rw [upd_ne (by omega), upd_ne (by omega)]; exact (h1 j (by omega)).1, by rw [upd_ne (by omega), upd_ne (by omega)]; exact (h1 j (by omega)).2⟩
end SF
theorem up_cong {α : Type} {f g : Nat → α → α} : ∀ (m i : Nat) (a : α), (∀ j a, i ≤ j → j < i + m → f j a = g j a) → up f i m a = up g i m a
  | 0, _, _, _ => rfl
  | m + 1, i, a, h => by
    show up f (i + 1) m (f i a) = up g (i + 1) m (g i a)
    rw [h i a (by omega) (by omega)]
    exact up_cong m (i + 1) (g i a) (fun j a h1 h2 => h j a (by omega) (by omega))
theorem c_surface : Eqv (fun H => FX9_surface 0 H) (fun H => FX10_surface 22 H) := by
  intro c m h
  have hL := h.1.2.2.1
  have hfb : ∀ c' : CS, ∃ r, FX3_firstFault 1 (hp c m) = some (r, hp c m) ∧ FX10_fault 22 (hp c' m) = some (r, hp c' m) ∧ (r = -9 → ∃ n, 1 ≤ n ∧ n ≤ 5 ∧ vt c 1 = 48 + n ∧ c.L = 2 + 2 * n ∧ Good c n (2 + 2 * n)) := fun c' => fault_both h.1
  obtain ⟨r, q1, q2, q3⟩ := hfb c
  show ∃ r c' m', FX9_surface 0 (hp c m) = _ ∧ FX10_surface 22 (hp c' m) = _ ∧ _
  unfold FX9_surface FX10_surface
  rw [hA0_0, bd_some, gp_pos hO1, q1, bd2_some]
  by_cases hr : r = -9
  · obtain ⟨n, n1, n5, hv1, hL2, hG⟩ := q3 hr
    have hv : ∀ i, 2 ≤ i → i < 2 + 2 * n → 48 ≤ vt c i ∧ vt c i < 48 + n := fun i g1 g2 => ⟨(hG i g1 g2).1, (hG i g1 g2).2.1⟩
    have hR : rowOf (fun i => vt c (2 + i) - 48) n ∈ P n := by
      refine P_of n1 n5 (fun i hi => ?_) (fun i j hij hj q => ?_)
      · have := hv (2 + i) (by omega) (by omega)
        show vt c (2 + i) - 48 < n
        omega
      · have g1 := hv (2 + i) (by omega) (by omega)
        have g2 := hv (2 + j) (by omega) (by omega)
        have q : vt c (2 + i) - 48 = vt c (2 + j) - 48 := q
        refine (hG (2 + j) (by omega) (by omega)).2.2 (2 + i) ?_ (by omega) (by omega)
        unfold bk
        rw [if_neg (by omega)]
        omega
    have hU : rowOf (fun i => vt c (2 + n + i) - 48) n ∈ P n := by
      refine P_of n1 n5 (fun i hi => ?_) (fun i j hij hj q => ?_)
      · have := hv (2 + n + i) (by omega) (by omega)
        show vt c (2 + n + i) - 48 < n
        omega
      · have g1 := hv (2 + n + i) (by omega) (by omega)
        have g2 := hv (2 + n + j) (by omega) (by omega)
        have q : vt c (2 + n + i) - 48 = vt c (2 + n + j) - 48 := q
        refine (hG (2 + n + j) (by omega) (by omega)).2.2 (2 + n + i) ?_ (by omega) (by omega)
        unfold bk
        rw [if_pos (by omega)]
        omega
    have dR : ∀ i, i < n → dg (rowOf (fun i => vt c (2 + i) - 48) n) i = vt c (2 + i) - 48 := by
      intro i hi
      have e : rowOf (fun i => vt c (2 + i) - 48) n = rowOf (fun i => (vt c (2 + i) - 48) % 8) n := up_cong n 0 0 (fun j w _ hj => by
        have := hv (2 + j) (by omega) (by omega)
        show putN w j (vt c (2 + j) - 48) = putN w j ((vt c (2 + j) - 48) % 8)
        rw [Nat.mod_eq_of_lt (by omega)])
      rw [e, dg_rowOf (fun i => Nat.mod_lt _ (by decide)) (by omega) hi]
      have := hv (2 + i) (by omega) (by omega)
      exact Nat.mod_eq_of_lt (by omega)
    have dU : ∀ i, i < n → dg (rowOf (fun i => vt c (2 + n + i) - 48) n) i = vt c (2 + n + i) - 48 := by
      intro i hi
      have e : rowOf (fun i => vt c (2 + n + i) - 48) n = rowOf (fun i => (vt c (2 + n + i) - 48) % 8) n := up_cong n 0 0 (fun j w _ hj => by
        have := hv (2 + n + j) (by omega) (by omega)
        show putN w j (vt c (2 + n + j) - 48) = putN w j ((vt c (2 + n + j) - 48) % 8)
        rw [Nat.mod_eq_of_lt (by omega)])
      rw [e, dg_rowOf (fun i => Nat.mod_lt _ (by decide)) (by omega) hi]
      have := hv (2 + n + i) (by omega) (by omega)
      exact Nat.mod_eq_of_lt (by omega)
    revert hR hU dR dU
    generalize hRe : rowOf (fun i => vt c (2 + i) - 48) n = R
    generalize hUe : rowOf (fun i => vt c (2 + n + i) - 48) n = U
    intro hR hU dR dU
    have hv1' := vt_of h.1 (i := 1) (by omega)
    obtain ⟨g1, e1⟩ := mSu24 (c := ((((c.zn n).zr R).zu U).zcnt 0).zkb 0) (m := m) (n := n) 11 0 4096 m.f24 (by omega) (by omega)
    obtain ⟨g2, K, e2, a0, a1⟩ := mSu52 h.1 (c' := ((((c.zn n).zr R).zu U).zcnt 0).zkb 0) ⟨n1, n5⟩ hL2 hv n 0 4096 (upd g1 0 (nI n)) (by omega) (by omega) (upd_at _ _ _) (fun j hj => by omega)
    have hN : NW g2 n R U := ⟨a0, fun i hi => by rw [(a1 i hi).1, dR i hi], fun i hi => by rw [(a1 i hi).2, dU i hi]⟩
    refine ⟨nI (piecesN n R U (2 ^ n - 1)), ((((c.zn n).zr R).zu U).zcnt 0).zkb 0, ((m.zf24 g2).zdn 0).zf30 (upd (upd m.f30 0 0) 1 0), ?_, ?_, ?_⟩
    · rw [if_pos hr, hA0_0, bd_some, gp_pos hO1, show FX3_figure 1 1 (hp c m) = some (nI (vt c 1) - 48, hp c m) from eFig h.1 (k := 1) (by omega), bd2_some, hv1, s48 (by omega), show 48 + n - 48 = n by omega, hA0_1, bd_some, hA0_0, bd_some, gp_pos hO1, show FX3_rowFrom 1 2 (nI n) (hp c m) = some (nI R, hp c m) from (eRowFr h.1 n5 (by omega) (fun i hi => hv (2 + i) (by omega) (by omega))).trans (by rw [hRe]), bd2_some, hA0_0, bd_some, gp_pos hO1, show (2 : Int32) + nI n = nI (2 + n) from nI_add 2 n, show FX3_rowFrom 1 (nI (2 + n)) (nI n) (hp c m) = some (nI U, hp c m) from (eRowFr h.1 n5 (by omega) (fun i hi => hv (2 + n + i) (by omega) (by omega))).trans (by rw [hUe]), bd2_some, gp_pos hO3, eBecome hg3, bd2_some, hs3, hA0_3, bd_some, hp5_2 (v := 0) 0 rfl, bd_some, hA0_4, bd_some, gp_pos hO8]
      unfold FX8_clear
      have hpl : 2 ^ n - 1 < 65536 := by
        have : 2 ^ n ≤ 2 ^ 5 := Nat.pow_le_pow_right (by decide) n5
        omega
      rw [hp8_2 (v := 0) 0 rfl, bd_some, bd2_some, hA0_1, bd_some, bd_some, gp_pos hO3, eAll hg3 n5, bd2_some, gp_pos hO3, ePieces hg3 hR hU hpl, bd2_some]
    · rw [gp_pos hO22]
      have q2' : FX10_fault 22 (hp (((((c.zn n).zr R).zu U).zcnt 0).zkb 0) m) = some (r, hp (((((c.zn n).zr R).zu U).zcnt 0).zkb 0) m) := by
        obtain ⟨r', p1, p2, _⟩ := hfb (((((c.zn n).zr R).zu U).zcnt 0).zkb 0)
        rw [q1] at p1
        cases p1
        exact p2
      rw [q2', bd2_some, if_pos hr, hA22_0, bd_some, show aI (hp (((((c.zn n).zr R).zu U).zcnt 0).zkb 0) m) 23 0 1 = some (m.t 1) from hr23 (i := 1) (by omega), bd_some, h.1.1, hv1'.1, hv1, s48 (by omega), show 48 + n - 48 = n by omega]
      refine Eq.trans e1 (Eq.trans e2 ?_)
      unfold bX10_surface_52
      rw [if_pos (nI_le (Nat.le_refl n) (by omega)), hp22_7 (v := 0) 0 rfl, bd_some, hA22_10, bd_some, show sI (hp (((((c.zn n).zr R).zu U).zcnt 0).zkb 0) ((m.zf24 g2).zdn 0)) 30 2 0 (vp_nar .boolean 0) = some (hp (((((c.zn n).zr R).zu U).zcnt 0).zkb 0) (((m.zf24 g2).zdn 0).zf30 (upd m.f30 0 0))) from hw30 (i := 0) (by decide) _, bd_some, hA22_10, bd_some, show sI (hp (((((c.zn n).zr R).zu U).zcnt 0).zkb 0) (((m.zf24 g2).zdn 0).zf30 (upd m.f30 0 0))) 30 2 1 (vp_nar .boolean 0) = some (hp (((((c.zn n).zr R).zu U).zcnt 0).zkb 0) (((m.zf24 g2).zdn 0).zf30 (upd (upd m.f30 0 0) 1 0))) from hw30 (i := 1) (by decide) _, bd_some, hA22_2, bd_some, mPieces (nw_ml24 (m := ((m.zf24 g2).zdn 0).zf30 (upd (upd m.f30 0 0) 1 0)) hN) hR hU, bd2_some]
    · refine ⟨h.1, ⟨hR, hU, hN⟩, ⟨rfl, Nat.zero_le _, h.2.2.1.2.2.1, fun j hj => absurd hj (Nat.not_lt_zero j)⟩, ⟨show 0 < 4 by decide, fun s hs => ?_⟩, h.2.2.2.2⟩
      have e0 : (0 : Nat).testBit s = false := Nat.zero_testBit s
      refine ⟨?_, fun q => by
        have q : (0 : Nat).testBit s = true := q
        rw [e0] at q; cases q⟩
      show upd (upd m.f30 0 0) 1 0 s = bit01 0 s
      rw [bit01_f (by rw [e0]; decide)]
      have : s = 0 ∨ s = 1 := by omega
      rcases this with rfl | rfl
      · rw [upd_ne (by decide), upd_at]
      · rw [upd_at]
  · refine ⟨-3, c, m, ?_, ?_, h⟩
    · rw [if_neg hr]
    · rw [gp_pos hO22, q2, bd2_some, if_neg hr]
