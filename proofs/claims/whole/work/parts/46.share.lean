/-! Shares of squares in pieces. -/
theorem pieces_le {n r u come : Nat} : ∀ (q i b a : Nat), piecesL n r u come q i b a ≤ a + q
  | 0, _, _, _ => Nat.le_refl _
  | q + 1, i, b, a => by
    unfold piecesL
    split
    · have := pieces_le (n := n) (r := r) (u := u) (come := come) q (i + 1) (b ||| reachN n r u i come 0) (a + 1); omega
    · have := pieces_le (n := n) (r := r) (u := u) (come := come) q (i + 1) b a; omega
theorem piecesN_le (n r u come : Nat) : piecesN n r u come ≤ n := by
  have := pieces_le (n := n) (r := r) (u := u) (come := come) n 0 0 0
  unfold piecesN
  omega
theorem sum_le {k : Nat} : ∀ (L : List Nat), (∀ x ∈ L, x ≤ k) → L.sum ≤ L.length * k
  | [], _ => Nat.zero_le _
  | x :: L, h => by
    rw [List.sum_cons, List.length_cons, Nat.succ_mul]
    have h1 := h x List.mem_cons_self
    have h2 := sum_le L (fun y hy => h y (List.mem_cons_of_mem x hy))
    omega
theorem p5_le {k : Nat} (hk : k ≤ 5) : 0 < 5 ^ k ∧ 5 ^ k ≤ 3125 := ⟨Nat.pow_pos (by decide), Nat.pow_le_pow_right (n := 5) (by decide) hk⟩
theorem mSqAt {o k : Nat} (ho : o < 3125) (hk : k ≤ 5) (H : Hp) : FX10_squareAt (nI o) (nI k) H = some (nI (sqA o k), H) := by
  have h5 := p5_le hk
  unfold FX10_squareAt
  rw [show FX10_power 5 (nI k) H = some (nI (5 ^ k), H) from mPow (b := 5) _ (by omega), bd2_some, gp_pos (nI_ne0 h5.1 (by omega)), pk_div (by omega) h5.1 (by omega), show rI (nI (o / 5 ^ k)) 5 = nI (o / 5 ^ k % 5) from rI_nI (d := 5) (Nat.lt_of_le_of_lt (Nat.div_le_self _ _) (by omega)) (by decide) (by decide)]
  rfl
theorem mIsoL (H : Hp) {o n : Nat} (ho : o < 3125) (hn : n ≤ 5) : ∀ (q k d b : Nat), k + q = n → q < d → b < 32 → fX10_isOrder_4 d (nI o) (nI n) (nI b) (nI k) H = some (b01 (Nat.beq (isoL o q k b) (2 ^ n - 1)), H) := by
  have hp2n : 2 ^ n ≤ 32 := Nat.pow_le_pow_right (n := 2) (by decide) hn
  intro q
  induction q with
  | zero =>
    intro k d b hk hd hb
    obtain ⟨d, rfl⟩ : ∃ e, d = e + 1 := ⟨d - 1, by omega⟩
    show bX10_isOrder_4 (fX10_isOrder_4 d) _ _ _ _ H = _
    unfold bX10_isOrder_4
    rw [if_pos (nI_le (by omega) (by omega)), shl1 (by omega), Nat.one_shiftLeft, show nI (2 ^ n) - 1 = nI (2 ^ n - 1) from pk_sub (b := 1) (Nat.two_pow_pos _)]
    show _ = some (b01 (Nat.beq b (2 ^ n - 1)), H)
    by_cases e : b = 2 ^ n - 1
    · rw [if_pos (by rw [e]), show Nat.beq b (2 ^ n - 1) = true from by rw [e]; exact Nat.beq_refl _]
      rfl
    · rw [if_neg (fun q => e ((nI_eq (by omega) (by omega)).mp q)), show Nat.beq b (2 ^ n - 1) = false from by
        cases q : Nat.beq b (2 ^ n - 1) with
        | false => rfl
        | true => exact absurd (Nat.eq_of_beq_eq_true q) e]
      rfl
  | succ q ih =>
    intro k d b hk hd hb
    obtain ⟨d, rfl⟩ : ∃ e, d = e + 1 := ⟨d - 1, by omega⟩
    show bX10_isOrder_4 (fX10_isOrder_4 d) _ _ _ _ H = _
    unfold bX10_isOrder_4
    have := sqA_lt o k
    rw [if_neg (nI_ge (by omega) (by omega)), mSqAt ho (by omega), bd2_some, shl1 (by omega), fa_or, nI_1]
    exact ih (k + 1) d _ (by omega) (by omega) (bit5 hb (sqA_lt o k) (t := 0) (by decide)).1
theorem mIso (H : Hp) {o n : Nat} (ho : o < 3125) (hn : n ≤ 5) : FX10_isOrder (nI o) (nI n) H = some (b01 (isO' n o), H) := by
  unfold FX10_isOrder
  exact mIsoL H ho hn n 0 4096 0 (by omega) (by omega) (by decide)
section SHA
variable {c : CS} {m : MS} {n s : Nat} {f : Nat → Nat}
theorem mSh85 (hn : n ≤ 5) (hs : s < n) (hf : ∀ x, x < 2 ^ n → m.f38 x = nI (f x)) {o : Nat} (ho : o < 3125) (hl : ∀ i, i < n → sqA o i < n) {K60 : Nat → Int32 → Int32 → Int32 → Int32 → Int32 → Int32 → Hp → Option (Int32 × Hp)} {v a4 a5 : Int32} : ∀ (q k d b : Nat), k + q = n → (∃ i, k ≤ i ∧ i < n ∧ sqA o i = s) → q < d → b < 2 ^ n → fX10_share_85 K60 d 22 (nI s) v (nI n) a4 a5 (nI o) (nI b) (nI k) (hp c m) = K60 22 (nI s) v (nI n) (a4 + (nI (f (coF s o q k b ||| (1 <<< s))) - nI (f (coF s o q k b)))) (a5 + 1) (nI (o + 1)) (hp c m) := by
  have hp2n : 2 ^ n ≤ 32 := Nat.pow_le_pow_right (n := 2) (by decide) hn
  intro q
  induction q with
  | zero =>
    intro k d b hk he hd hb
    obtain ⟨i, h1, h2, _⟩ := he
    omega
  | succ q ih =>
    intro k d b hk he hd hb
    obtain ⟨d, rfl⟩ : ∃ e, d = e + 1 := ⟨d - 1, by omega⟩
    show bX10_share_85 K60 (fX10_share_85 K60 d) _ _ _ _ _ _ _ _ _ _ = _
    unfold bX10_share_85
    have hq := hl k (by omega)
    rw [mSqAt ho (by omega), bd2_some]
    by_cases e : sqA o k = s
    · have h1 : b ||| (1 <<< s) < 2 ^ n := Nat.or_lt_two_pow hb (two_lt hs)
      rw [if_pos (by rw [e]), hA22_21, bd_some, shl1 (by omega), fa_or, hr38 (by omega), bd_some, bd_some, hr38 (by omega), bd_some, hf _ h1, hf _ hb, nI_1, show coF s o (q + 1) k b = b from if_pos e]
    · rw [if_neg (fun q => e ((nI_eq (by omega) (by omega)).mp q)), mSqAt ho (by omega), bd2_some, shl1 (by omega), fa_or, nI_1, show coF s o (q + 1) k b = coF s o q (k + 1) (b ||| (1 <<< sqA o k)) from if_neg e]
      obtain ⟨i, h1, h2, h3⟩ := he
      refine ih (k + 1) d _ (by omega) ⟨i, ?_, h2, h3⟩ (by omega) (Nat.or_lt_two_pow hb (two_lt hq))
      by_cases ei : i = k
      · rw [ei] at h3; exact absurd h3 e
      · omega
theorem mSh60 (hn : n ≤ 5) (hs : s < n) (hf : ∀ x, x < 2 ^ n → m.f38 x = nI (f x)) {v R : Int32} {A B N : Nat} (hF : ∀ H, FX10_fraction (nI A - nI B) (nI N) v H = some (R, H)) : ∀ (q o d a b t : Nat), o + q = 5 ^ n → q < d → a + ((lst n q o).map (fun o => f (coF s o n 0 0 ||| (1 <<< s)))).sum = A → b + ((lst n q o).map (fun o => f (coF s o n 0 0))).sum = B → t + (lst n q o).length = N → fX10_share_60 d 22 (nI s) v (nI n) (nI a - nI b) (nI t) (nI o) (hp c m) = some (R, hp c m) := by
  have h5 := p5_le hn
  intro q
  induction q with
  | zero =>
    intro o d a b t hk hd ha hb ht
    obtain ⟨d, rfl⟩ : ∃ e, d = e + 1 := ⟨d - 1, by omega⟩
    show bX10_share_60 (fX10_share_60 d) _ _ _ _ _ _ _ _ = _
    unfold bX10_share_60
    have ha : a = A := ha
    have hb : b = B := hb
    have ht : t = N := ht
    rw [show FX10_power 5 (nI n) (hp c m) = some (nI (5 ^ n), hp c m) from mPow (b := 5) _ (by omega), bd2_some, if_pos (nI_le (by omega) (by omega)), ha, hb, ht, hF, bd2_some]
  | succ q ih =>
    intro o d a b t hk hd ha hb ht
    obtain ⟨d, rfl⟩ : ∃ e, d = e + 1 := ⟨d - 1, by omega⟩
    show bX10_share_60 (fX10_share_60 d) _ _ _ _ _ _ _ _ = _
    unfold bX10_share_60
    rw [show FX10_power 5 (nI n) (hp c m) = some (nI (5 ^ n), hp c m) from mPow (b := 5) _ (by omega), bd2_some, if_neg (nI_ge (by omega) (by omega)), mIso _ (by omega) hn, bd2_some]
    have el : lst n (q + 1) o = if isO' n o then o :: lst n q (o + 1) else lst n q (o + 1) := rfl
    cases e : isO' n o with
    | false =>
      rw [e, if_neg (by decide)] at el
      rw [el] at ha hb ht
      rw [if_pos b01_f, nI_1]
      exact ih (o + 1) d a b t (by omega) (by omega) ha hb ht
    | true =>
      rw [e, if_pos rfl] at el
      rw [el, List.map_cons, List.sum_cons] at ha hb
      rw [el, List.length_cons] at ht
      obtain ⟨i, hi1, hi2⟩ := (isO_all e).1 s hs
      rw [if_neg b01_1, show fX10_share_85 (fX10_share_60 d) 4096 22 (nI s) v (nI n) (nI a - nI b) (nI t) (nI o) 0 0 (hp c m) = _ from mSh85 hn hs hf (by omega) (isO_all e).2 n 0 4096 0 (by omega) ⟨i, Nat.zero_le i, hi1, hi2⟩ (by omega) (Nat.two_pow_pos n), sub_add_sub, nI_add, nI_add, nI_1]
      exact ih (o + 1) d _ _ _ (by omega) (by omega) (by omega) (by omega) (by omega)
end SHA
theorem mSh20 {c : CS} {m : MS} {n r u s : Nat} (hnw : NW m.f24 n r u) (hr : r ∈ P n) (hu : u ∈ P n) {v : Int32} : ∀ (q k d : Nat) (g : Nat → Int32), k + q = 2 ^ n → q < d → (∀ x, x < k → g x = nI (piecesN n r u x)) → ∃ g', (∀ x, x < 2 ^ n → g' x = nI (piecesN n r u x)) ∧ fX10_share_20 d 22 (nI s) v (nI n) (nI k) (hp c (m.zf38 g)) = fX10_share_60 4096 22 (nI s) v (nI n) 0 0 0 (hp c (m.zf38 g')) := by
  have hn := P_n hr
  have hp2n : 2 ^ n ≤ 32 := Nat.pow_le_pow_right (n := 2) (by decide) hn.2
  intro q
  induction q with
  | zero =>
    intro k d g hk hd hg
    obtain ⟨d, rfl⟩ : ∃ e, d = e + 1 := ⟨d - 1, by omega⟩
    refine ⟨g, fun x hx => hg x (by omega), ?_⟩
    show bX10_share_20 (fX10_share_20 d) _ _ _ _ _ _ = _
    unfold bX10_share_20
    rw [shl1 (by omega), Nat.one_shiftLeft, if_pos (nI_le (by omega) (by omega))]
  | succ q ih =>
    intro k d g hk hd hg
    obtain ⟨d, rfl⟩ : ∃ e, d = e + 1 := ⟨d - 1, by omega⟩
    obtain ⟨g', h1, h2⟩ := ih (k + 1) d (upd g k (nI (piecesN n r u k))) (by omega) (by omega) (fun x hx => by
      by_cases e : x = k
      · rw [e, upd_at]
      · rw [upd_ne e]; exact hg x (by omega))
    refine ⟨g', h1, ?_⟩
    show bX10_share_20 (fX10_share_20 d) _ _ _ _ _ _ = _
    unfold bX10_share_20
    have hml : ml (hp c (m.zf38 g)) 24 n r u := ⟨m.f24, hc24, hnw⟩
    rw [shl1 (by omega), Nat.one_shiftLeft, if_neg (nI_ge (by omega) (by omega)), hA22_21, bd_some, hA22_2, bd_some, show FX10_fallen 24 (nI k) 0 (hp c (m.zf38 g)) = some (nI (fallL n r u k 0 n 0 k 0), hp c (m.zf38 g)) from mFallen hml hr hu (opn := 0) (by omega) (by decide), bd2_some, fall0 hr hu (by omega), hw38 (by omega), bd_some, nI_1]
    exact h2
theorem c_share (x v : Int32) : Eqv (fun H => FX9_share 0 x v H) (fun H => FX10_share 22 x v H) := by
  intro c m h
  have hn := h.n5
  have hn1 := h.n1
  have hr := h.2.1.1
  have hu := h.2.1.2.1
  have h5 := p5_le hn
  show ∃ r c' m', FX9_share 0 x v (hp c m) = _ ∧ FX10_share 22 x v (hp c' m) = _ ∧ _
  unfold FX9_share FX10_share
  cases hs : isS c.n x with
  | false =>
    refine ⟨-1, c, m, ?_, ?_, h⟩
    · rw [hA0_1, bd_some, gp_pos hO3, cHas h, bd2_some, hs, if_pos b01_f]
    · rw [gp_pos hO22, mSq h, bd2_some, hs, if_pos b01_f]
  | true =>
    obtain ⟨s, hs1, rfl⟩ := isS_of h hs
    have hol : orN c.n ≤ 120 ∧ 0 < orN c.n := by
      have : ∀ k, k < 6 → orN k ≤ 120 ∧ 0 < orN k := by decide
      exact this c.n (by omega)
    have hA := sum_both (n := c.n) (s := s) hn hs1 (fun x => piecesN c.n c.r c.u (x ||| (1 <<< s)))
    have hB := sum_both (n := c.n) (s := s) hn hs1 (fun x => piecesN c.n c.r c.u x)
    have lA : sumC c.n s (fun x => piecesN c.n c.r c.u (x ||| (1 <<< s))) (2 ^ c.n) 0 0 ≤ (OL c.n).length * 5 := by
      rw [← hA]
      refine Nat.le_trans (sum_le (k := 5) _ (fun y hy => ?_)) (by rw [List.length_map]; exact Nat.le_refl _)
      obtain ⟨z, _, rfl⟩ := List.mem_map.mp hy
      exact Nat.le_trans (piecesN_le _ _ _ _) hn
    have lB : sumC c.n s (fun x => piecesN c.n c.r c.u x) (2 ^ c.n) 0 0 ≤ (OL c.n).length * 5 := by
      rw [← hB]
      refine Nat.le_trans (sum_le (k := 5) _ (fun y hy => ?_)) (by rw [List.length_map]; exact Nat.le_refl _)
      obtain ⟨z, _, rfl⟩ := List.mem_map.mp hy
      exact Nat.le_trans (piecesN_le _ _ _ _) hn
    rw [ol_len hn1 hn] at lA lB
    obtain ⟨R, X, Y, p1, p2, p3⟩ := frac_both (a := nI (sumC c.n s (fun x => piecesN c.n c.r c.u (x ||| (1 <<< s))) (2 ^ c.n) 0 0) - nI (sumC c.n s (fun x => piecesN c.n c.r c.u x) (2 ^ c.n) 0 0)) (by omega) (by omega) rfl hol.2 (by omega) v c m
    obtain ⟨g', h1, h2⟩ := mSh20 (c := (c.zfa X).zfz Y) (m := m) (s := s) h.2.1.2.2 hr hu (v := v) (2 ^ c.n) 0 4096 m.f38 (by omega) (by have := lt32 hn (Nat.sub_lt (Nat.two_pow_pos c.n) (show 0 < 1 by decide)); omega) (fun x hx => absurd hx (Nat.not_lt_zero x))
    refine ⟨R, (c.zfa X).zfz Y, m.zf38 g', ?_, ?_, h⟩
    · rw [hA0_1, bd_some, gp_pos hO3, cHas h, bd2_some, hs, if_neg b01_1, hA0_8, bd_some, hA0_1, bd_some, gp_pos hO3, eMo hg3 hr hu hs1, bd2_some, hA0_1, bd_some, gl0 hg3, bd_some, eOr (by omega), bd2_some, gp_pos hO21, p1, bd2_some, hA0_8, bd_some, gp_pos hO21, p2, bd2_some]
    · rw [gp_pos hO22, show FX10_isSquare 22 (nI s) (hp ((c.zfa X).zfz Y) m) = _ from mSq h _ _, bd2_some, hs, if_neg b01_1, hA22_2, bd_some, ml0 (ok_ml h _), bd_some]
      refine h2.trans ?_
      refine mSh60 (m := m.zf38 g') (f := fun x => piecesN c.n c.r c.u x) (a := 0) (b := 0) (t := 0) hn hs1 h1 p3 (5 ^ c.n) 0 4096 (by omega) (by omega) ?_ ?_ ?_
      · rw [lst_ol hn1 hn, Nat.zero_add]; exact hA
      · rw [lst_ol hn1 hn, Nat.zero_add]; exact hB
      · rw [lst_ol hn1 hn, Nat.zero_add]; exact ol_len hn1 hn
