/-! Told doings judged (the reference), and by a seed. -/
theorem eqM (m : MS) : (m.zf25 m.f25).zf27 m.f27 = m := rfl
section JM
variable {c : CS} {m : MS} {n r u r0 u0 : Nat}
theorem mSh3 (hr : r ∈ P n) (hu : u ∈ P n) (hN : NW m.f25 n r u) {t k : Nat} (hk : t / 1000 = k + 1) (hk3 : k < 3) : ∃ f g, fX10_judged_44 22 (nI (t / 1000)) (nI (t / 100 % 10)) (nI (t / 10 % 10)) (nI (t % 10)) (hp c m) = some (b01 (shT n r u t k).1, hp c ((m.zf25 f).zf27 g)) ∧ NW f n (shT n r u t k).2.1 (shT n r u t k).2.2 := by
  unfold fX10_judged_44 shT
  rw [nI_add, nI_add]
  by_cases e : t / 100 % 10 = 0 ∧ t / 10 % 10 = 0 ∧ t % 10 = 0
  · obtain ⟨f, g, q1, q2⟩ := sh25 (c := c) hr hu hk3 hN
    refine ⟨f, g, ?_, ?_⟩
    · rw [if_pos ((nz (by omega)).mpr (by omega)), hA22_3, bd_some, gp_pos hO22, hk, nI_pred, q1, bd2_some, if_pos e]
      rfl
    · rw [if_pos e]; exact q2
  · refine ⟨m.f25, m.f27, ?_, ?_⟩
    · rw [if_neg (fun q => e (by have := (nz (by omega)).mp q; omega)), if_neg e]
      rfl
    · rw [if_neg e]; exact hN
theorem mTry (hr0 : r0 ∈ P n) (h24 : NW m.f24 n r0 u0) (hr : r ∈ P n) (hu : u ∈ P n) (hN : NW m.f25 n r u) {t : Nat} (ht : t < 10000) : ∃ f g, FX10_judged 22 (nI (t / 1000)) (nI (t / 100 % 10)) (nI (t / 10 % 10)) (nI (t % 10)) (hp c m) = some (b01 (tryN n r u t).1, hp c ((m.zf25 f).zf27 g)) ∧ NW f n (tryN n r u t).2.1 (tryN n r u t).2.2 := by
  have hn := P_n hr
  have hsq : ∀ x, FX10_isSquare 22 x (hp c m) = some (b01 (isS n x), hp c m) := fun x => mIsSquare hA22_2 (nw_ml24 h24) hn.1 hn.2 x
  have hml := nw_ml25 (c := c) hN
  unfold FX10_judged tryN
  by_cases e1 : t / 1000 = 1
  · rw [if_pos (lit_eq (l := 1) rfl e1), if_pos e1]; exact mSh3 hr hu hN e1 (by decide)
  rw [if_neg (lit_ne (l := 1) (b := 1) rfl (by omega) (by decide) e1), if_neg e1]
  by_cases e2 : t / 1000 = 2
  · rw [if_pos (lit_eq (l := 2) rfl e2), if_pos e2]; exact mSh3 hr hu hN e2 (by decide)
  rw [if_neg (lit_ne (l := 2) (b := 2) rfl (by omega) (by decide) e2), if_neg e2]
  by_cases e3 : t / 1000 = 3
  · rw [if_pos (lit_eq (l := 3) rfl e3), if_pos e3]; exact mSh3 hr hu hN e3 (by decide)
  rw [if_neg (lit_ne (l := 3) (b := 3) rfl (by omega) (by decide) e3), if_neg e3]
  by_cases e4 : t / 1000 = 4
  · rw [if_pos (lit_eq (l := 4) rfl e4), if_pos e4]
    by_cases e : t / 100 % 10 = 0 ∧ t / 10 % 10 < n ∧ t % 10 < n ∧ ¬ t / 10 % 10 = t % 10
    · obtain ⟨f, g, q1, q2⟩ := ch25 (c := c) hr hu e.2.1 e.2.2.1 hN
      refine ⟨f, g, ?_, ?_⟩
      · rw [if_pos ((nz (by omega)).mpr e.1), if_neg (fun q => e.2.2.2 ((nI_eq (by omega) (by omega)).mp q)), gp_pos hO22, hsq, bd2_some, isS_nI hn.2 (by omega), decide_eq_true e.2.1, if_neg b01_1, gp_pos hO22, hsq, bd2_some, isS_nI hn.2 (by omega), decide_eq_true e.2.2.1, if_neg b01_1, hA22_3, bd_some, gp_pos hO22, q1, bd2_some, if_pos e]
        rfl
      · rw [if_pos e]; exact q2
    · refine ⟨m.f25, m.f27, ?_, by rw [if_neg e]; exact hN⟩
      rw [if_neg e]
      by_cases b0 : t / 100 % 10 = 0
      · rw [if_pos ((nz (by omega)).mpr b0)]
        by_cases b3 : t / 10 % 10 = t % 10
        · rw [if_pos (by rw [b3])]
          rfl
        · rw [if_neg (fun q => b3 ((nI_eq (by omega) (by omega)).mp q)), gp_pos hO22, hsq, bd2_some, isS_nI hn.2 (by omega)]
          by_cases b1 : t / 10 % 10 < n
          · rw [decide_eq_true b1, if_neg b01_1, gp_pos hO22, hsq, bd2_some, isS_nI hn.2 (by omega), decide_eq_false (fun q => e ⟨b0, b1, q, b3⟩), if_pos b01_f]
            rfl
          · rw [decide_eq_false b1, if_pos b01_f]
            rfl
      · rw [if_neg (fun q => b0 ((nz (by omega)).mp q))]
        rfl
  rw [if_neg (lit_ne (l := 4) (b := 4) rfl (by omega) (by decide) e4), if_neg e4]
  by_cases e5 : t / 1000 = 5
  · rw [if_pos (lit_eq (l := 5) rfl e5), if_pos e5]
    refine ⟨m.f25, m.f27, ?_, hN⟩
    by_cases b0 : t % 10 = 0
    · rw [if_pos ((nz (by omega)).mpr b0), gp_pos hO22, hsq, bd2_some, isS_nI hn.2 (by omega)]
      by_cases b1 : t / 100 % 10 < n
      · rw [decide_eq_true b1, if_neg b01_1, gp_pos hO22, hsq, bd2_some, isS_nI hn.2 (by omega)]
        by_cases b2 : t / 10 % 10 < n
        · have hpl : pieceN n r u (t / 100 % 10) < 256 := reach_lt hn.2 (by omega)
          rw [decide_eq_true b2, if_neg b01_1, hA22_3, bd_some, mPieceOf hml hr hu b1, bd2_some, mHas (by omega) (by omega), bd2_some]
          cases b3 : (pieceN n r u (t / 100 % 10)).testBit (t / 10 % 10) with
          | true =>
            rw [bit01_t b3, if_neg (by decide), decide_eq_true ⟨b0, b1, b2, rfl⟩]
            rfl
          | false =>
            rw [bit01_f (by rw [b3]; decide), if_pos rfl, decide_eq_false (fun q => by cases q.2.2.2)]
            rfl
        · rw [decide_eq_false b2, if_pos b01_f, decide_eq_false (fun q => b2 q.2.2.1)]
          rfl
      · rw [decide_eq_false b1, if_pos b01_f, decide_eq_false (fun q => b1 q.2.1)]
        rfl
    · rw [if_neg (fun q => b0 ((nz (by omega)).mp q)), decide_eq_false (fun q => b0 q.1)]
      rfl
  rw [if_neg (lit_ne (l := 5) (b := 5) rfl (by omega) (by decide) e5), if_neg e5]
  by_cases e6 : t / 1000 = 6
  · rw [if_pos (lit_eq (l := 6) rfl e6), if_pos e6]
    refine ⟨m.f25, m.f27, ?_, hN⟩
    by_cases b0 : t / 100 % 10 = 0
    · rw [if_pos ((nz (by omega)).mpr b0)]
      by_cases b1 : t / 10 % 10 = 0
      · have hol := ord_le (cN n r u) n 0 0
        rw [if_pos ((nz (by omega)).mpr b1), hA22_3, bd_some, mOrdinary hml hr hu, bd2_some]
        by_cases b2 : t % 10 ≤ ordN (cN n r u) n 0 0
        · rw [if_neg (nI_nlt b2 (by omega)), decide_eq_true ⟨b0, b1, b2⟩]
          rfl
        · rw [if_pos (nI_lt (by omega) (by omega)), decide_eq_false (fun q => b2 q.2.2)]
          rfl
      · rw [if_neg (fun q => b1 ((nz (by omega)).mp q)), decide_eq_false (fun q => b1 q.2.1)]
        rfl
    · rw [if_neg (fun q => b0 ((nz (by omega)).mp q)), decide_eq_false (fun q => b0 q.1)]
      rfl
  rw [if_neg (lit_ne (l := 6) (b := 6) rfl (by omega) (by decide) e6), if_neg e6]
  by_cases e7 : t / 1000 = 7
  · rw [if_pos (lit_eq (l := 7) rfl e7), if_pos e7]
    refine ⟨m.f25, m.f27, ?_, hN⟩
    by_cases b0 : t / 10 % 10 = 0
    · rw [if_pos ((nz (by omega)).mpr b0), gp_pos hO22, hsq, bd2_some, isS_nI hn.2 (by omega)]
      by_cases b1 : t / 100 % 10 < n
      · have hh := holes_lt hr hu b1
        rw [decide_eq_true b1, if_neg b01_1, hA22_3, bd_some, mHoles hml hr hu b1, bd2_some]
        by_cases b2 : holesN n r u (t / 100 % 10) = t % 10
        · rw [if_pos (by rw [b2]), decide_eq_true ⟨b0, b1, b2⟩]
          rfl
        · rw [if_neg (fun q => b2 ((nI_eq (by omega) (by omega)).mp q)), decide_eq_false (fun q => b2 q.2.2)]
          rfl
      · rw [decide_eq_false b1, if_pos b01_f, decide_eq_false (fun q => b1 q.2.1)]
        rfl
    · rw [if_neg (fun q => b0 ((nz (by omega)).mp q)), decide_eq_false (fun q => b0 q.1)]
      rfl
  rw [if_neg (lit_ne (l := 7) (b := 7) rfl (by omega) (by decide) e7), if_neg e7]
  exact ⟨m.f25, m.f27, rfl, hN⟩
end JM
theorem rJ_lN {a d : Nat} (ha : a < 2 ^ 63) (h0 : 0 < d) (hd : d < 2 ^ 63) : rJ (lN a) (lN d) = lN (a % d) := by
  unfold rJ
  have h := Nat.div_mul_le_self a d
  rw [pk_lDiv ha h0 hd, lN_mul, lN_sub h]
  congr 1
  have := Nat.div_add_mod a d
  rw [Nat.mul_comm] at this
  omega
theorem p4_lt : ∀ j, j < 5 → 0 < 10000 ^ j ∧ 10000 ^ j < 2 ^ 62 := by decide
theorem eWoL (H : Hp) {j : Nat} (hj : j < 5) : ∀ (q i d X : Nat), i + q = j → q < d → X < 2 ^ 63 → fX9_withoutLast_5 d (nI j) (lN X) (nI i) H = some (lN (X / 10000 ^ q), H) := by
  intro q
  induction q with
  | zero =>
    intro i d X hk hd hX
    obtain ⟨d, rfl⟩ : ∃ e, d = e + 1 := ⟨d - 1, by omega⟩
    show bX9_withoutLast_5 (fX9_withoutLast_5 d) _ _ _ H = _
    unfold bX9_withoutLast_5
    rw [if_pos (nI_le (by omega) (by omega)), Nat.pow_zero, Nat.div_one]
  | succ q ih =>
    intro i d X hk hd hX
    obtain ⟨d, rfl⟩ : ∃ e, d = e + 1 := ⟨d - 1, by omega⟩
    show bX9_withoutLast_5 (fX9_withoutLast_5 d) _ _ _ H = _
    unfold bX9_withoutLast_5
    rw [if_neg (nI_ge (by omega) (by omega)), show lN X / 10000 = lN (X / 10000) from pk_lDiv (b := 10000) hX (by decide) (by decide), nI_1, ih (i + 1) d (X / 10000) (by omega) (by omega) (by omega), Nat.div_div_eq_div_mul, Nat.mul_comm, ← Nat.pow_succ]
theorem eWo (H : Hp) {j X : Nat} (hj : j < 5) (hX : X < 2 ^ 63) : FX9_withoutLast (lN X) (nI j) H = some (lN (X / 10000 ^ j), H) := by
  unfold FX9_withoutLast
  exact eWoL H hj j 0 4096 X (by omega) (by omega) hX
theorem mTtL (H : Hp) {j : Nat} (hj : j < 5) : ∀ (q i d a : Nat), i + q = j → q < d → fX10_tenThousands_4 d (nI j) (lN a) (nI i) H = some (lN (a * 10000 ^ q), H) := by
  intro q
  induction q with
  | zero =>
    intro i d a hk hd
    obtain ⟨d, rfl⟩ : ∃ e, d = e + 1 := ⟨d - 1, by omega⟩
    show bX10_tenThousands_4 (fX10_tenThousands_4 d) _ _ _ H = _
    unfold bX10_tenThousands_4
    rw [if_pos (nI_le (by omega) (by omega)), Nat.pow_zero, Nat.mul_one]
  | succ q ih =>
    intro i d a hk hd
    obtain ⟨d, rfl⟩ : ∃ e, d = e + 1 := ⟨d - 1, by omega⟩
    show bX10_tenThousands_4 (fX10_tenThousands_4 d) _ _ _ H = _
    unfold bX10_tenThousands_4
    rw [if_neg (nI_ge (by omega) (by omega)), show lN a * 10000 = lN (a * 10000) from lN_mul a 10000, nI_1, ih (i + 1) d (a * 10000) (by omega) (by omega), Nat.mul_assoc, Nat.mul_comm 10000, ← Nat.pow_succ]
theorem mTt (H : Hp) {j : Nat} (hj : j < 5) : FX10_tenThousands (nI j) H = some (lN (10000 ^ j), H) := by
  unfold FX10_tenThousands
  refine (mTtL H hj j 0 4096 1 (by omega) (by omega)).trans ?_
  rw [Nat.one_mul]
def jL (n N X : Nat) : Nat → Nat → Nat → Nat → Int32
  | 0, _, _, _ => -9
  | q + 1, k, r, u => if (tryN n r u (X / 10000 ^ (N - 1 - k) % 10000)).1 = true then jL n N X q (k + 1) (tryN n r u (X / 10000 ^ (N - 1 - k) % 10000)).2.1 (tryN n r u (X / 10000 ^ (N - 1 - k) % 10000)).2.2 else nI k
theorem b01_nz {b : Bool} (h : b = true) : ¬ b01 b = 0 := by rw [h]; decide
theorem eJL {c : CS} {m : MS} {n N X : Nat} (hN : N < 5) (hX : X < 2 ^ 63) : ∀ (q k d r u : Nat), k + q = N → q < d → r ∈ P n → u ∈ P n → ∃ r' u', fX9_judge_60 d 0 (nI N) (lN X) (nI k) (hp (triC c n r u) m) = some (jL n N X q k r u, hp (triC c n r' u') m) := by
  intro q
  induction q with
  | zero =>
    intro k d r u hk hd hr hu
    obtain ⟨d, rfl⟩ : ∃ e, d = e + 1 := ⟨d - 1, by omega⟩
    refine ⟨r, u, ?_⟩
    show bX9_judge_60 (fX9_judge_60 d) _ _ _ _ _ = _
    unfold bX9_judge_60
    rw [if_pos (nI_le (by omega) (by omega))]
    rfl
  | succ q ih =>
    intro k d r u hk hd hr hu
    obtain ⟨d, rfl⟩ : ∃ e, d = e + 1 := ⟨d - 1, by omega⟩
    have hT := eTry (c := c) (m := m) hr hu (t := X / 10000 ^ (N - 1 - k) % 10000) (Nat.mod_lt _ (by decide))
    have hP := try_P hr hu (X / 10000 ^ (N - 1 - k) % 10000)
    have hs : bX9_judge_60 (fX9_judge_60 d) 0 (nI N) (lN X) (nI k) (hp (triC c n r u) m) = if b01 (tryN n r u (X / 10000 ^ (N - 1 - k) % 10000)).1 = 0 then some (nI k, hp (triC c n (tryN n r u (X / 10000 ^ (N - 1 - k) % 10000)).2.1 (tryN n r u (X / 10000 ^ (N - 1 - k) % 10000)).2.2) m) else fX9_judge_60 d 0 (nI N) (lN X) (nI (k + 1)) (hp (triC c n (tryN n r u (X / 10000 ^ (N - 1 - k) % 10000)).2.1 (tryN n r u (X / 10000 ^ (N - 1 - k) % 10000)).2.2) m) := by
      unfold bX9_judge_60
      rw [if_neg (nI_ge (by omega) (by omega)), show nI N - 1 = nI (N - 1) from pk_sub (b := 1) (by omega), pk_sub (by omega), eWo _ (by omega) hX, bd2_some, hA0_2, bd_some, gp_pos triO, show rJ (lN (X / 10000 ^ (N - 1 - k))) 10000 = lN (X / 10000 ^ (N - 1 - k) % 10000) from rJ_lN (d := 10000) (Nat.lt_of_le_of_lt (Nat.div_le_self _ _) hX) (by decide) (by decide), lN_i, hT, bd2_some, nI_1]
    show ∃ r' u', bX9_judge_60 (fX9_judge_60 d) 0 (nI N) (lN X) (nI k) (hp (triC c n r u) m) = some (if (tryN n r u (X / 10000 ^ (N - 1 - k) % 10000)).1 = true then jL n N X q (k + 1) (tryN n r u (X / 10000 ^ (N - 1 - k) % 10000)).2.1 (tryN n r u (X / 10000 ^ (N - 1 - k) % 10000)).2.2 else nI k, _)
    rw [hs]
    cases e : (tryN n r u (X / 10000 ^ (N - 1 - k) % 10000)).1 with
    | false => exact ⟨_, _, by rw [if_pos b01_f, if_neg (by decide)]⟩
    | true =>
      rw [if_neg b01_1, if_pos rfl]
      exact ih (k + 1) d _ _ (by omega) (by omega) hP.1 hP.2
theorem mJL {c : CS} {m : MS} {n N X r0 u0 : Nat} (hN : N < 5) (hX : X < 2 ^ 63) (hr0 : r0 ∈ P n) (h24 : NW m.f24 n r0 u0) : ∀ (q k d r u : Nat) (f g : Nat → Int32), k + q = N → q < d → r ∈ P n → u ∈ P n → NW f n r u → ∃ f' g', fX10_judge_43 d 22 (nI N) (lN X) (nI k) (hp c ((m.zf25 f).zf27 g)) = some (jL n N X q k r u, hp c ((m.zf25 f').zf27 g')) := by
  intro q
  induction q with
  | zero =>
    intro k d r u f g hk hd hr hu hf
    obtain ⟨d, rfl⟩ : ∃ e, d = e + 1 := ⟨d - 1, by omega⟩
    refine ⟨f, g, ?_⟩
    show bX10_judge_43 (fX10_judge_43 d) _ _ _ _ _ = _
    unfold bX10_judge_43
    rw [if_pos (nI_le (by omega) (by omega))]
    rfl
  | succ q ih =>
    intro k d r u f g hk hd hr hu hf
    obtain ⟨d, rfl⟩ : ∃ e, d = e + 1 := ⟨d - 1, by omega⟩
    obtain ⟨f2, g2, hT, hf2⟩ := mTry (c := c) (m := (m.zf25 f).zf27 g) hr0 h24 hr hu hf (t := X / 10000 ^ (N - 1 - k) % 10000) (Nat.mod_lt _ (by decide))
    have hP := try_P hr hu (X / 10000 ^ (N - 1 - k) % 10000)
    have hp4 := p4_lt (N - 1 - k) (by omega)
    have hXl : X / 10000 ^ (N - 1 - k) < 2 ^ 63 := Nat.lt_of_le_of_lt (Nat.div_le_self _ _) hX
    have hs : bX10_judge_43 (fX10_judge_43 d) 22 (nI N) (lN X) (nI k) (hp c ((m.zf25 f).zf27 g)) = if b01 (tryN n r u (X / 10000 ^ (N - 1 - k) % 10000)).1 = 0 then some (nI k, hp c ((m.zf25 f2).zf27 g2)) else fX10_judge_43 d 22 (nI N) (lN X) (nI (k + 1)) (hp c ((m.zf25 f2).zf27 g2)) := by
      unfold bX10_judge_43
      rw [if_neg (nI_ge (by omega) (by omega)), show nI N - 1 = nI (N - 1) from pk_sub (b := 1) (by omega), pk_sub (by omega), mTt _ (by omega), bd2_some, gp_pos (show ¬ lN (10000 ^ (N - 1 - k)) = 0 from fun q => by
        have := (pk_lEQ (b := 0) (by omega) (by decide)).mp q
        omega), gp_pos hO22, pk_lDiv hX hp4.1 (by omega), show rJ (lN (X / 10000 ^ (N - 1 - k))) 10000 = lN (X / 10000 ^ (N - 1 - k) % 10000) from rJ_lN (d := 10000) hXl (by decide) (by decide), lN_i]
      have ht : X / 10000 ^ (N - 1 - k) % 10000 < 10000 := Nat.mod_lt _ (by decide)
      revert hT ht
      generalize X / 10000 ^ (N - 1 - k) % 10000 = t
      intro hT ht
      rw [show nI t / 1000 = nI (t / 1000) from pk_div (d := 1000) (by omega) (by decide) (by decide), show nI t / 100 = nI (t / 100) from pk_div (d := 100) (by omega) (by decide) (by decide), show nI t / 10 = nI (t / 10) from pk_div (d := 10) (by omega) (by decide) (by decide), show rI (nI (t / 100)) 10 = nI (t / 100 % 10) from rI_nI (d := 10) (by omega) (by decide) (by decide), show rI (nI (t / 10)) 10 = nI (t / 10 % 10) from rI_nI (d := 10) (by omega) (by decide) (by decide), show rI (nI t) 10 = nI (t % 10) from rI_nI (d := 10) (by omega) (by decide) (by decide), hT, bd2_some, nI_1]
    show ∃ f' g', bX10_judge_43 (fX10_judge_43 d) 22 (nI N) (lN X) (nI k) (hp c ((m.zf25 f).zf27 g)) = some (if (tryN n r u (X / 10000 ^ (N - 1 - k) % 10000)).1 = true then jL n N X q (k + 1) (tryN n r u (X / 10000 ^ (N - 1 - k) % 10000)).2.1 (tryN n r u (X / 10000 ^ (N - 1 - k) % 10000)).2.2 else nI k, _)
    rw [hs]
    cases e : (tryN n r u (X / 10000 ^ (N - 1 - k) % 10000)).1 with
    | false => exact ⟨_, _, by rw [if_pos b01_f, if_neg (by decide)]⟩
    | true =>
      rw [if_neg b01_1, if_pos rfl]
      exact ih (k + 1) d _ _ f2 g2 (by omega) (by omega) hP.1 hP.2 hf2
theorem mLay {c : CS} {m : MS} {n r u : Nat} (hn : n ≤ 5) (h : NW m.f24 n r u) : ∃ f, FX10_lay 25 24 (hp c m) = some ((), hp c (m.zf25 f)) ∧ NW f n r u := by
  obtain ⟨g, K, e, e1⟩ := layL (c := c) (m := m) (by omega) 11 0 4096 m.f25 (by omega) (by omega) (fun j hj => by omega)
  refine ⟨g, ?_, nw_at hn h (fun j hj => by rw [e1 j hj, Nat.zero_add])⟩
  have e2 : FX10_lay 25 24 (hp c m) = bX10_lay_2 K 25 24 (nI 11) (hp c (m.zf25 g)) := e
  rw [e2]
  unfold bX10_lay_2
  rw [if_pos (show (11 : Int32) ≤ nI 11 from by decide)]
theorem rg_cls2 {α : Type} {l h x : Int32} {a b : Nat} {A B : α} (e1 : l = nI a) (e2 : h = nI b) : (if x < l then A else if h < x then A else B) = if rg a b x = true then B else A := by
  rw [← rg_clsL e1 e2]
  by_cases h1 : x < l
  · rw [if_pos h1, if_pos h1]
  · rw [if_neg h1, if_neg h1]
    by_cases h2 : h < x
    · rw [if_pos h2, if_neg (fun q => by rw [fa_le] at q; rw [fa_lt] at h2; omega)]
    · rw [if_neg h2, if_pos (fa_of_nlt h2)]
theorem lN_nonneg {x : Int64} (h : ¬ x < 0) : ∃ X, X < 2 ^ 63 ∧ x = lN X := by
  rw [fa_lt64] at h
  have h0 : ¬ x.toInt < 0 := h
  have h1 : x.toInt < 2 ^ 63 := Int64.toInt_lt x
  refine ⟨x.toInt.toNat, by omega, ?_⟩
  rw [fa_eq64]
  show x.toInt = (Int64.ofNat x.toInt.toNat).toInt
  rw [lg_ofNat_toInt (by omega)]
  omega
theorem c_judge (x : Int32) (y : Int64) : Eqv (fun H => FX9_judge 0 x y H) (fun H => FX10_judge 22 x y H) := by
  intro c m h
  have hn := h.n5
  have hr := h.2.1.1
  have hu := h.2.1.2.1
  show ∃ r c' m', FX9_judge 0 x y (hp c m) = _ ∧ FX10_judge 22 x y (hp c' m) = _ ∧ _
  unfold FX9_judge FX10_judge
  rw [rg_cls2 (l := 1) (h := 4) (a := 1) (b := 4) rfl rfl]
  by_cases hg : rg 1 4 x = true
  · obtain ⟨N, hN1, hN4, rfl⟩ := (rg_t (by decide) (by decide)).mp hg
    have hp4 := p4_lt N (by omega)
    rw [if_pos hg]
    by_cases hy : y < 0
    · refine ⟨-2, c, m, ?_, ?_, h⟩
      · rw [if_pos ((lg_cmp_lt _ _).mpr hy)]
      · rw [rg_inL (l := 1) (h := 4) (a := 1) (b := 4) rfl rfl (by decide) (by decide), bd2_some, hg, if_neg b01_1, mTt _ (by omega), bd2_some, eIn, bd2_some, decide_eq_false (fun q => by rw [fa_lt64] at hy; rw [fa_le64] at q; omega), if_pos b01_f]
    · obtain ⟨X, hX, rfl⟩ := lN_nonneg hy
      have hXl : X / 10000 ^ N < 2 ^ 63 := Nat.lt_of_le_of_lt (Nat.div_le_self _ _) hX
      rw [if_neg (fun q => hy ((lg_cmp_lt _ _).mp q)), eWo _ (by omega) hX, bd2_some]
      have hin : decide ((0 : Int64) ≤ lN X ∧ lN X ≤ lN (10000 ^ N) - 1) = decide (X < 10000 ^ N) := by
        rw [show lN (10000 ^ N) - 1 = lN (10000 ^ N - 1) from lN_sub (b := 1) (by omega)]
        apply decide_eq_decide.mpr
        rw [show ((0 : Int64) ≤ lN X) ↔ 0 ≤ X from pk_lLE (a := 0) (by decide) hX, pk_lLE hX (by omega)]
        omega
      have h0 : (lg_cmp (lN (X / 10000 ^ N)) 0 = 0) ↔ X < 10000 ^ N := by
        rw [lg_cmp_eq, show (lN (X / 10000 ^ N) = 0) ↔ X / 10000 ^ N = 0 from pk_lEQ (b := 0) hXl (by decide), Nat.div_eq_zero_iff]
        omega
      by_cases hlt : X < 10000 ^ N
      · obtain ⟨f, q1, q2⟩ := mLay (c := c) hn h.2.1.2.2
        obtain ⟨r', u', e1⟩ := eJL (c := c) (m := m) (n := c.n) (N := N) (by omega) hX N 0 4096 c.r c.u (by omega) (by omega) hr hu
        obtain ⟨f', g', e2⟩ := mJL (c := triC c c.n r' u') (m := m) (n := c.n) (N := N) (by omega) hX hr h.2.1.2.2 N 0 4096 c.r c.u f m.f27 (by omega) (by omega) hr hu q2
        obtain ⟨f, q1, q2⟩ := mLay (c := triC c c.n r' u') hn h.2.1.2.2
        obtain ⟨f', g', e2⟩ := mJL (c := triC c c.n r' u') (m := m) (n := c.n) (N := N) (by omega) hX hr h.2.1.2.2 N 0 4096 c.r c.u f m.f27 (by omega) (by omega) hr hu q2
        refine ⟨jL c.n N X N 0 c.r c.u, triC c c.n r' u', (m.zf25 f').zf27 g', ?_, ?_, h⟩
        · rw [if_pos (h0.mpr hlt), hA0_2, bd_some, hA0_1, bd_some, hI3_0, bd_some, bd_some, hI3_1, bd_some, bd_some, hI3_2, bd_some, gp_pos hO4, eBecome hg4, bd2_some, hs4]
          exact e1
        · rw [rg_inL (l := 1) (h := 4) (a := 1) (b := 4) rfl rfl (by decide) (by decide), bd2_some, hg, if_neg b01_1, mTt _ (by omega), bd2_some, eIn, bd2_some, hin, decide_eq_true hlt, if_neg b01_1, hA22_3, bd_some, hA22_2, bd_some, q1, bd2_some]
          exact e2
      · refine ⟨-2, c, m, ?_, ?_, h⟩
        · rw [if_neg (fun q => hlt (h0.mp q))]
        · rw [rg_inL (l := 1) (h := 4) (a := 1) (b := 4) rfl rfl (by decide) (by decide), bd2_some, hg, if_neg b01_1, mTt _ (by omega), bd2_some, eIn, bd2_some, hin, decide_eq_false hlt, if_pos b01_f]
  · refine ⟨-2, c, m, ?_, ?_, h⟩
    · rw [if_neg hg]
    · rw [rg_inL (l := 1) (h := 4) (a := 1) (b := 4) rfl rfl (by decide) (by decide), bd2_some, rgF hg, if_pos b01_f]
