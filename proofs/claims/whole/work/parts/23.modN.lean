/-! The reference's static methods over numbers. -/
/-- eleven numbers of a surface at a place -/
def ml (H : Hp) (p n r u : Nat) : Prop := ∃ f : Nat → Int32, H[p]? = some (.inl (0, 11, .inl f)) ∧ f 0 = nI n ∧ (∀ i, i < n → f (1 + i) = nI (dg r i)) ∧ (∀ i, i < n → f (6 + i) = nI (dg u i))
theorem aI_of {H : Hp} {p t N i : Nat} {f : Nat → Int32} (h : H[p]? = some (.inl (t, N, .inl f))) (hi : i < N) (hN : N < 2 ^ 31) : aI H p t (nI i) = some (f i) := by
  unfold aI
  rw [h]
  simp only [Nat.beq_refl]
  rw [if_neg (nI_in hi hN), nI_clamp (by omega)]
theorem aJ_of {H : Hp} {p N i : Nat} {f : Nat → Int64} (h : H[p]? = some (.inl (1, N, .inr (.inl f)))) (hi : i < N) (hN : N < 2 ^ 31) : aJ H p (nI i) = some (f i) := by
  unfold aJ
  rw [h]
  simp only [Nat.beq_refl]
  rw [if_neg (nI_in hi hN), nI_clamp (by omega)]
theorem sI_of {H : Hp} {p t N i : Nat} {f : Nat → Int32} {x : Int32} (h : H[p]? = some (.inl (t, N, .inl f))) (hi : i < N) (hN : N < 2 ^ 31) : sI H p t (nI i) x = some (H.set p (.inl (t, N, .inl (upd f i x)))) := by
  unfold sI
  rw [h]
  simp only [Nat.beq_refl]
  rw [if_neg (nI_in hi hN), nI_clamp (by omega)]
theorem sJ_of {H : Hp} {p N i : Nat} {f : Nat → Int64} {x : Int64} (h : H[p]? = some (.inl (1, N, .inr (.inl f)))) (hi : i < N) (hN : N < 2 ^ 31) : sJ H p (nI i) x = some (H.set p (.inl (1, N, .inr (.inl (vp_updL f i x))))) := by
  unfold sJ
  rw [h]
  simp only [Nat.beq_refl]
  rw [if_neg (nI_in hi hN), nI_clamp (by omega)]
theorem l_2 : (2 : Int32) = nI 2 := rfl
theorem l_4 : (4 : Int32) = nI 4 := rfl
theorem l_5 : (5 : Int32) = nI 5 := rfl
theorem l_6 : (6 : Int32) = nI 6 := rfl
theorem mHas {b i : Nat} (hb : b < 65536) (hi : i < 32) (H : Hp) : FX10_has (nI b) (nI i) H = some (bit01 b i, H) := by
  unfold FX10_has bit01
  rw [pk_shrN (by omega) _ i (s_l i hi), ← Nat.shiftRight_eq_div_pow, l_1, fa_and, tb_and]
  by_cases h : b.testBit i = true
  · rw [if_pos h, if_pos h, if_pos rfl]
  · rw [if_neg h, if_neg h, if_neg (by decide)]
def least01 (b i : Nat) : Int32 := if b &&& (2 ^ i - 1) = 0 then 1 else 0
theorem mLeast {b i : Nat} (hb : b < 65536) (hi : i < 16) (H : Hp) : FX10_isLeast (nI b) (nI i) H = some (least01 b i, H) := by
  unfold FX10_isLeast least01
  have h1 : 1 ≤ 2 ^ i := Nat.one_le_two_pow
  have h2 : b &&& (2 ^ i - 1) ≤ b := Nat.and_le_left
  rw [shl1 hi, Nat.shiftLeft_eq, Nat.one_mul, l_1, pk_sub h1, fa_and, l_0]
  by_cases h : b &&& (2 ^ i - 1) = 0
  · rw [if_pos (by rw [h]), if_pos h]
  · rw [if_neg (fun q => h ((nI_eq (by omega) (by omega)).mp q)), if_neg h]
section MOD
variable {H : Hp} {p n r u : Nat}
theorem ml0 (h : ml H p n r u) : aI H p 0 0 = some (nI n) := by
  obtain ⟨f, h1, h2, h3, h4⟩ := h
  rw [show (0 : Int32) = nI 0 from rfl, aI_of h1 (by omega) (by omega), h2]
theorem mR1 (h : ml H p n r u) (hn : n ≤ 5) {i : Nat} (hi : i < n) : aI H p 0 (1 + nI i) = some (nI (dg r i)) := by
  obtain ⟨f, h1, h2, h3, h4⟩ := h
  rw [l_1, nI_add, aI_of h1 (by omega) (by omega), h3 i hi]
theorem mU1 (h : ml H p n r u) (hn : n ≤ 5) {i : Nat} (hi : i < n) : aI H p 0 (6 + nI i) = some (nI (dg u i)) := by
  obtain ⟨f, h1, h2, h3, h4⟩ := h
  rw [l_6, nI_add, aI_of h1 (by omega) (by omega), h4 i hi]
theorem mRight (h : ml H p n r u) (hn : n ≤ 5) {i : Nat} (hi : i < n) : FX10_right p (nI i) H = some (nI (dg r i), H) := by
  unfold FX10_right
  rw [mR1 h hn hi, bd_some]
theorem mUp (h : ml H p n r u) (hn : n ≤ 5) {i : Nat} (hi : i < n) : FX10_up p (nI i) H = some (nI (dg u i), H) := by
  unfold FX10_up
  rw [mU1 h hn hi, bd_some]
/-- which square goes there -/
def fromN (w i : Nat) : Nat → Nat → Nat → Nat
  | 0, _, a => a
  | m + 1, k, a => fromN w i m (k + 1) (if dg w k = i then k else a)
theorem mLeftL (h : ml H p n r u) (hn : n ≤ 5) {i : Nat} (hi : i < 100) : ∀ (m k d a : Nat), k + m = n → m < d → fX10_left_4 d p (nI i) (nI a) (nI k) H = some (nI (fromN r i m k a), H) := by
  intro m
  induction m with
  | zero =>
    intro k d a hk hd
    obtain ⟨d, rfl⟩ : ∃ e, d = e + 1 := ⟨d - 1, by omega⟩
    show bX10_left_4 (fX10_left_4 d) _ _ _ _ H = _
    unfold bX10_left_4
    rw [ml0 h, bd_some, if_pos (nI_le (by omega) (by omega))]
    rfl
  | succ m ih =>
    intro k d a hk hd
    obtain ⟨d, rfl⟩ : ∃ e, d = e + 1 := ⟨d - 1, by omega⟩
    show bX10_left_4 (fX10_left_4 d) _ _ _ _ H = _
    unfold bX10_left_4
    have h8 := dg_lt r k
    rw [ml0 h, bd_some, if_neg (nI_ge (by omega) (by omega)), mR1 h hn (by omega), bd_some, nI_1, fromN]
    by_cases e : dg r k = i
    · rw [if_pos (by rw [e]), if_pos e]
      exact ih (k + 1) d _ (by omega) (by omega)
    · rw [if_neg (fun q => e ((nI_eq (by omega) (by omega)).mp q)), if_neg e]
      exact ih (k + 1) d _ (by omega) (by omega)

theorem mDownL (h : ml H p n r u) (hn : n ≤ 5) {i : Nat} (hi : i < 100) : ∀ (m k d a : Nat), k + m = n → m < d → fX10_down_4 d p (nI i) (nI a) (nI k) H = some (nI (fromN u i m k a), H) := by
  intro m
  induction m with
  | zero =>
    intro k d a hk hd
    obtain ⟨d, rfl⟩ : ∃ e, d = e + 1 := ⟨d - 1, by omega⟩
    show bX10_down_4 (fX10_down_4 d) _ _ _ _ H = _
    unfold bX10_down_4
    rw [ml0 h, bd_some, if_pos (nI_le (by omega) (by omega))]
    rfl
  | succ m ih =>
    intro k d a hk hd
    obtain ⟨d, rfl⟩ : ∃ e, d = e + 1 := ⟨d - 1, by omega⟩
    show bX10_down_4 (fX10_down_4 d) _ _ _ _ H = _
    unfold bX10_down_4
    have h8 := dg_lt u k
    rw [ml0 h, bd_some, if_neg (nI_ge (by omega) (by omega)), mU1 h hn (by omega), bd_some, nI_1, fromN]
    by_cases e : dg u k = i
    · rw [if_pos (by rw [e]), if_pos e]
      exact ih (k + 1) d _ (by omega) (by omega)
    · rw [if_neg (fun q => e ((nI_eq (by omega) (by omega)).mp q)), if_neg e]
      exact ih (k + 1) d _ (by omega) (by omega)

theorem from_back0 : ∀ n, n < 6 → ∀ w ∈ P n, ∀ i, i < n → fromN w i n 0 0 = dg (backN w n) i := by decide +kernel
theorem from_back {n w i : Nat} (hw : w ∈ P n) (hi : i < n) : fromN w i n 0 0 = dg (backN w n) i := from_back0 n (by have := P_n hw; omega) w hw i hi
theorem mLeft (h : ml H p n r u) (hr : r ∈ P n) {i : Nat} (hi : i < n) : FX10_left p (nI i) H = some (nI (dg (backN r n) i), H) := by
  unfold FX10_left
  have hn := P_n hr
  rw [← from_back hr hi]
  exact mLeftL h hn.2 (by omega) n 0 4096 0 (by omega) (by omega)
theorem mDown (h : ml H p n r u) (hu : u ∈ P n) {i : Nat} (hi : i < n) : FX10_down p (nI i) H = some (nI (dg (backN u n) i), H) := by
  unfold FX10_down
  have hn := P_n hu
  rw [← from_back hu hi]
  exact mDownL h hn.2 (by omega) n 0 4096 0 (by omega) (by omega)
theorem dg_c (hr : r ∈ P n) (hu : u ∈ P n) {i : Nat} (hi : i < n) : dg (cN n r u) i = dg (backN u n) (dg (backN r n) (dg u (dg r i))) := by
  have hn := P_n hr
  unfold cN
  rw [dg_thenN (by omega) hi, dg_thenN (by omega) hi, dg_thenN (by omega) (P_dg hu (P_dg hr hi))]
theorem mAround (h : ml H p n r u) (hr : r ∈ P n) (hu : u ∈ P n) {i : Nat} (hi : i < n) : FX10_around p (nI i) H = some (nI (dg (cN n r u) i), H) := by
  unfold FX10_around
  have hn := P_n hr
  have i1 := P_dg hr hi
  have i2 := P_dg hu i1
  have i3 := P_dg (P_back hr) i2
  rw [mRight h hn.2 hi, bd2_some, mUp h hn.2 i1, bd2_some, mLeft h hr i2, bd2_some, mDown h hu i3, bd2_some, dg_c hr hu hi]
/-- how often one goes around until one is back -/
def turnL (c i : Nat) : Nat → Nat → Nat → Nat
  | 0, _, a => a
  | m + 1, s, a => if s = i then a else turnL c i m (dg c s) (a + 1)
theorem mTurnL (h : ml H p n r u) (hr : r ∈ P n) (hu : u ∈ P n) {i : Nat} (hi : i < n) : ∀ (m s d a : Nat), a + m = 5 → m < d → s < n → fX10_turns_8 d p (nI i) (nI a) (nI s) H = some (nI (turnL (cN n r u) i m s a), H) := by
  have hn := P_n hr
  intro m
  induction m with
  | zero =>
    intro s d a hk hd hs
    obtain ⟨d, rfl⟩ : ∃ e, d = e + 1 := ⟨d - 1, by omega⟩
    show bX10_turns_8 (fX10_turns_8 d) _ _ _ _ H = _
    unfold bX10_turns_8
    by_cases e : s = i
    · rw [if_pos (by rw [e])]
      rfl
    · rw [if_neg (fun q => e ((nI_eq (by omega) (by omega)).mp q)), l_5, if_pos (nI_le (by omega) (by omega))]
      rfl
  | succ m ih =>
    intro s d a hk hd hs
    obtain ⟨d, rfl⟩ : ∃ e, d = e + 1 := ⟨d - 1, by omega⟩
    show bX10_turns_8 (fX10_turns_8 d) _ _ _ _ H = _
    unfold bX10_turns_8
    rw [turnL]
    by_cases e : s = i
    · rw [if_pos (by rw [e]), if_pos e]
    · rw [if_neg (fun q => e ((nI_eq (by omega) (by omega)).mp q)), if_neg e, l_5, if_neg (nI_ge (by omega) (by omega)), mAround h hr hu hs, bd2_some, nI_1]
      exact ih _ d _ (by omega) (by omega) (P_dg (P_c hr hu) hs)

theorem turn_ring0 : ∀ n, n < 6 → ∀ c ∈ P n, ∀ i, i < n → turnL c i 4 (dg c i) 1 = popc (ringN c n i 0) := by decide +kernel
theorem mTurns (h : ml H p n r u) (hr : r ∈ P n) (hu : u ∈ P n) {i : Nat} (hi : i < n) : FX10_turns p (nI i) H = some (nI (popc (ringN (cN n r u) n i 0)), H) := by
  unfold FX10_turns
  have hn := P_n hr
  rw [mAround h hr hu hi, bd2_some, ← turn_ring0 n (by omega) _ (P_c hr hu) i hi]
  exact mTurnL h hr hu hi 4 _ 4096 1 (by omega) (by omega) (P_dg (P_c hr hu) hi)
theorem mGreatL (h : ml H p n r u) (hr : r ∈ P n) (hu : u ∈ P n) : ∀ (m i d a : Nat), i + m = n → m < d → a < 100 → fX10_greatest_4 d p (nI a) (nI i) H = some (nI (mostN (cN n r u) n m i a), H) := by
  have hn := P_n hr
  intro m
  induction m with
  | zero =>
    intro i d a hk hd ha
    obtain ⟨d, rfl⟩ : ∃ e, d = e + 1 := ⟨d - 1, by omega⟩
    show bX10_greatest_4 (fX10_greatest_4 d) _ _ _ H = _
    unfold bX10_greatest_4
    rw [ml0 h, bd_some, if_pos (nI_le (by omega) (by omega))]
    rfl
  | succ m ih =>
    intro i d a hk hd ha
    obtain ⟨d, rfl⟩ : ∃ e, d = e + 1 := ⟨d - 1, by omega⟩
    show bX10_greatest_4 (fX10_greatest_4 d) _ _ _ H = _
    unfold bX10_greatest_4
    have hl := ring_lt (cN n r u) n i 0 (by omega) (by omega)
    have hp := popc_le _ hl
    rw [ml0 h, bd_some, if_neg (nI_ge (by omega) (by omega)), mTurns h hr hu (by omega), bd2_some, mostN]
    by_cases e : a < popc (ringN (cN n r u) n i 0)
    · rw [if_neg (nI_ge e (by omega)), if_pos e, mTurns h hr hu (by omega), bd2_some, nI_1]
      exact ih (i + 1) d _ (by omega) (by omega) (by omega)
    · rw [if_pos (nI_le (by omega) (by omega)), if_neg e, nI_1]
      exact ih (i + 1) d _ (by omega) (by omega) ha

theorem mGreatest (h : ml H p n r u) (hr : r ∈ P n) (hu : u ∈ P n) : FX10_greatest p H = some (nI (mostN (cN n r u) n n 0 0), H) := by
  unfold FX10_greatest
  exact mGreatL h hr hu n 0 4096 0 (by omega) (by have := P_n hr; omega) (by omega)
theorem nI_a0 (a : Nat) : nI a + 0 = nI a := by rw [l_0, nI_add]; rfl
theorem mOrdL (h : ml H p n r u) (hr : r ∈ P n) (hu : u ∈ P n) : ∀ (m i d a : Nat), i + m = n → m < d → fX10_ordinary_4 d p (nI a) (nI i) H = some (nI (ordN (cN n r u) m i a), H) := by
  have hn := P_n hr
  intro m
  induction m with
  | zero =>
    intro i d a hk hd
    obtain ⟨d, rfl⟩ : ∃ e, d = e + 1 := ⟨d - 1, by omega⟩
    show bX10_ordinary_4 (fX10_ordinary_4 d) _ _ _ H = _
    unfold bX10_ordinary_4
    rw [ml0 h, bd_some, if_pos (nI_le (by omega) (by omega))]
    rfl
  | succ m ih =>
    intro i d a hk hd
    obtain ⟨d, rfl⟩ : ∃ e, d = e + 1 := ⟨d - 1, by omega⟩
    show bX10_ordinary_4 (fX10_ordinary_4 d) _ _ _ H = _
    unfold bX10_ordinary_4
    have h8 := dg_lt (cN n r u) i
    rw [ml0 h, bd_some, if_neg (nI_ge (by omega) (by omega)), mAround h hr hu (by omega), bd2_some, ordN]
    by_cases e : dg (cN n r u) i = i
    · rw [if_pos (by rw [e]), if_pos e, nI_1, nI_1]
      exact ih (i + 1) d _ (by omega) (by omega)
    · rw [if_neg (fun q => e ((nI_eq (by omega) (by omega)).mp q)), if_neg e, nI_a0, nI_1]
      exact ih (i + 1) d _ (by omega) (by omega)

theorem mOrdinary (h : ml H p n r u) (hr : r ∈ P n) (hu : u ∈ P n) : FX10_ordinary p H = some (nI (ordN (cN n r u) n 0 0), H) := by
  unfold FX10_ordinary
  exact mOrdL h hr hu n 0 4096 0 (by omega) (by have := P_n hr; omega)
/-- is it the least of its ring: in so many steps -/
def begL (c i : Nat) : Nat → Nat → Bool → Bool
  | 0, _, a => a
  | m + 1, s, a => begL c i m (dg c s) (a && !(decide (dg c s < i)))
def b01 (b : Bool) : Int32 := if b then 1 else 0
theorem mBegL (h : ml H p n r u) (hr : r ∈ P n) (hu : u ∈ P n) {i : Nat} (hi : i < n) : ∀ (m k d s : Nat) (a : Bool), k + m = 5 → m < d → s < n → fX10_beginsCorner_7 d p (nI i) (b01 a) (nI s) (nI k) H = some (b01 (begL (cN n r u) i m s a), H) := by
  have hn := P_n hr
  intro m
  induction m with
  | zero =>
    intro k d s a hk hd hs
    obtain ⟨d, rfl⟩ : ∃ e, d = e + 1 := ⟨d - 1, by omega⟩
    show bX10_beginsCorner_7 (fX10_beginsCorner_7 d) _ _ _ _ _ H = _
    unfold bX10_beginsCorner_7
    rw [l_5, if_pos (nI_le (by omega) (by omega)), gp_pos (by cases a <;> decide)]
    rfl
  | succ m ih =>
    intro k d s a hk hd hs
    obtain ⟨d, rfl⟩ : ∃ e, d = e + 1 := ⟨d - 1, by omega⟩
    show bX10_beginsCorner_7 (fX10_beginsCorner_7 d) _ _ _ _ _ H = _
    unfold bX10_beginsCorner_7
    have hc := P_dg (P_c hr hu) hs
    rw [l_5, if_neg (nI_ge (by omega) (by omega)), mAround h hr hu hs, bd2_some, nI_1, begL]
    cases a with
    | false =>
      rw [if_pos (by decide)]
      exact ih (k + 1) d _ false (by omega) (by omega) hc
    | true =>
      rw [if_neg (by decide)]
      by_cases e : dg (cN n r u) s < i
      · rw [if_pos (nI_lt e (by omega)), show (true && !(decide (dg (cN n r u) s < i))) = false by simp [e]]
        exact ih (k + 1) d _ false (by omega) (by omega) hc
      · rw [if_neg (nI_nlt (by omega) (by omega)), show (true && !(decide (dg (cN n r u) s < i))) = true by simp [e]]
        exact ih (k + 1) d _ true (by omega) (by omega) hc

theorem mBegins (h : ml H p n r u) (hr : r ∈ P n) (hu : u ∈ P n) {i : Nat} (hi : i < n) : FX10_beginsCorner p (nI i) H = some (b01 (begL (cN n r u) i 5 i true), H) := by
  unfold FX10_beginsCorner
  exact mBegL h hr hu hi 5 0 4096 i true (by omega) (by omega) hi
/-- how many corners among some squares -/
def cornL (c set : Nat) : Nat → Nat → Nat → Nat
  | 0, _, a => a
  | m + 1, i, a => cornL c set m (i + 1) (if set.testBit i && begL c i 5 i true then a + 1 else a)
theorem mCornL (h : ml H p n r u) (hr : r ∈ P n) (hu : u ∈ P n) {set : Nat} (hs : set < 65536) : ∀ (m i d a : Nat), i + m = n → m < d → fX10_corners_4 d p (nI set) (nI a) (nI i) H = some (nI (cornL (cN n r u) set m i a), H) := by
  have hn := P_n hr
  intro m
  induction m with
  | zero =>
    intro i d a hk hd
    obtain ⟨d, rfl⟩ : ∃ e, d = e + 1 := ⟨d - 1, by omega⟩
    show bX10_corners_4 (fX10_corners_4 d) _ _ _ _ H = _
    unfold bX10_corners_4
    rw [ml0 h, bd_some, if_pos (nI_le (by omega) (by omega))]
    rfl
  | succ m ih =>
    intro i d a hk hd
    obtain ⟨d, rfl⟩ : ∃ e, d = e + 1 := ⟨d - 1, by omega⟩
    show bX10_corners_4 (fX10_corners_4 d) _ _ _ _ H = _
    unfold bX10_corners_4
    have h32 : fX10_corners_32 (fX10_corners_4 d) p (nI set) (nI i) (nI a) H = fX10_corners_4 d p (nI set) (nI a) (nI (i + 1)) H := by
      unfold fX10_corners_32
      rw [nI_a0, nI_1]
    rw [ml0 h, bd_some, if_neg (nI_ge (by omega) (by omega)), mHas hs (by omega), bd2_some, cornL]
    by_cases e : set.testBit i = true
    · rw [bit01_t e, if_neg (by decide), mBegins h hr hu (by omega), bd2_some, e, Bool.true_and]
      cases begL (cN n r u) i 5 i true with
      | false =>
        rw [if_pos (by decide), h32, if_neg (by decide)]
        exact ih (i + 1) d _ (by omega) (by omega)
      | true =>
        rw [if_neg (by decide), if_pos rfl, nI_1, nI_1]
        exact ih (i + 1) d _ (by omega) (by omega)
    · have e2 : set.testBit i = false := by simpa using e
      rw [bit01_f e, if_pos rfl, h32, e2, Bool.false_and, if_neg (by decide)]
      exact ih (i + 1) d _ (by omega) (by omega)

theorem mCorners (h : ml H p n r u) (hr : r ∈ P n) (hu : u ∈ P n) {set : Nat} (hs : set < 65536) : FX10_corners p (nI set) H = some (nI (cornL (cN n r u) set n 0 0), H) := by
  unfold FX10_corners
  exact mCornL h hr hu hs n 0 4096 0 (by omega) (by have := P_n hr; omega)
theorem corn_rings0 : ∀ n, n < 6 → ∀ c ∈ P n, cornL c (2 ^ n - 1) n 0 0 = ringsN c n n 0 0 0 := by decide +kernel
theorem mAllCorners (h : ml H p n r u) (hr : r ∈ P n) (hu : u ∈ P n) : FX10_allCorners p H = some (nI (ringsN (cN n r u) n n 0 0 0), H) := by
  unfold FX10_allCorners
  have hn := P_n hr
  have h2 : 1 ≤ 2 ^ n := Nat.one_le_two_pow
  have h3 : 2 ^ n ≤ 2 ^ 5 := Nat.pow_le_pow_right (by decide) hn.2
  rw [ml0 h, bd_some, shl1 (by omega), l_1, Nat.shiftLeft_eq, Nat.one_mul, pk_sub h2, mCorners h hr hu (by omega), bd2_some, corn_rings0 n (by omega) _ (P_c hr hu)]
theorem mRowL (h : ml H p n r u) (hr : r ∈ P n) : ∀ (m k d s b : Nat), k + m = 5 → m < d → s < n → fX10_rowOf_7 d p (nI b) (nI s) (nI k) H = some (nI (ringN r m s b), H) := by
  have hn := P_n hr
  intro m
  induction m with
  | zero =>
    intro k d s b hk hd hs
    obtain ⟨d, rfl⟩ : ∃ e, d = e + 1 := ⟨d - 1, by omega⟩
    show bX10_rowOf_7 (fX10_rowOf_7 d) _ _ _ _ H = _
    unfold bX10_rowOf_7
    rw [l_5, if_pos (nI_le (by omega) (by omega))]
    rfl
  | succ m ih =>
    intro k d s b hk hd hs
    obtain ⟨d, rfl⟩ : ∃ e, d = e + 1 := ⟨d - 1, by omega⟩
    show bX10_rowOf_7 (fX10_rowOf_7 d) _ _ _ _ H = _
    unfold bX10_rowOf_7
    rw [l_5, if_neg (nI_ge (by omega) (by omega)), mRight h hn.2 hs, bd2_some, nI_1, shl1 (by omega), fa_or]
    exact ih (k + 1) d _ _ (by omega) (by omega) (P_dg hr hs)

theorem ring5_0 : ∀ n, n < 6 → ∀ c ∈ P n, ∀ i, i < n → ringN c 5 i 0 = ringN c n i 0 := by decide +kernel
theorem mRowOf (h : ml H p n r u) (hr : r ∈ P n) {i : Nat} (hi : i < n) : FX10_rowOf p (nI i) H = some (nI (ringN r n i 0), H) := by
  unfold FX10_rowOf
  have hn := P_n hr
  rw [← ring5_0 n (by omega) r hr i hi]
  exact mRowL h hr 5 0 4096 i 0 (by omega) (by omega) hi
/-- how many are the least of their set -/
def leastL (f : Nat → Nat) : Nat → Nat → Nat → Nat
  | 0, _, a => a
  | m + 1, i, a => leastL f m (i + 1) (if f i &&& (2 ^ i - 1) = 0 then a + 1 else a)
theorem mRowsL (h : ml H p n r u) (hr : r ∈ P n) : ∀ (m i d a : Nat), i + m = n → m < d → fX10_rows_4 d p (nI a) (nI i) H = some (nI (leastL (fun i => ringN r n i 0) m i a), H) := by
  have hn := P_n hr
  intro m
  induction m with
  | zero =>
    intro i d a hk hd
    obtain ⟨d, rfl⟩ : ∃ e, d = e + 1 := ⟨d - 1, by omega⟩
    show bX10_rows_4 (fX10_rows_4 d) _ _ _ H = _
    unfold bX10_rows_4
    rw [ml0 h, bd_some, if_pos (nI_le (by omega) (by omega))]
    rfl
  | succ m ih =>
    intro i d a hk hd
    obtain ⟨d, rfl⟩ : ∃ e, d = e + 1 := ⟨d - 1, by omega⟩
    show bX10_rows_4 (fX10_rows_4 d) _ _ _ H = _
    unfold bX10_rows_4
    have hl := ring_lt r n i 0 (by omega) (by omega)
    rw [ml0 h, bd_some, if_neg (nI_ge (by omega) (by omega)), mRowOf h hr (by omega), bd2_some, mLeast (by omega) (by omega), bd2_some, leastL, least01]
    by_cases e : ringN r n i 0 &&& (2 ^ i - 1) = 0
    · rw [if_pos e, if_pos e, if_neg (by decide), nI_1, nI_1]
      exact ih (i + 1) d _ (by omega) (by omega)
    · rw [if_neg e, if_neg e, if_pos rfl, nI_a0, nI_1]
      exact ih (i + 1) d _ (by omega) (by omega)

theorem rows_rings0 : ∀ n, n < 6 → ∀ c ∈ P n, leastL (fun i => ringN c n i 0) n 0 0 = ringsN c n n 0 0 0 := by decide +kernel
theorem mRows (h : ml H p n r u) (hr : r ∈ P n) : FX10_rows p H = some (nI (ringsN r n n 0 0 0), H) := by
  unfold FX10_rows
  have hn := P_n hr
  rw [← rows_rings0 n (by omega) r hr]
  exact mRowsL h hr n 0 4096 0 (by omega) (by omega)
end MOD
