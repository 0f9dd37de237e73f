/-! Pieces, bands, holes: the printed functions. -/
section PB
variable {H : Hp} {k p n r u : Nat}
theorem nI_or0 (b : Nat) : nI b ||| 0 = nI b := by rw [l_0, fa_or, Nat.or_zero]
theorem lt32 {b n : Nat} (hn : n ≤ 5) (hb : b < 2 ^ n) : b < 32 := Nat.lt_of_lt_of_le hb (Nat.pow_le_pow_right (by decide) hn)
theorem mPieceI (h : ml H p n r u) (hr : r ∈ P n) (hu : u ∈ P n) {K6 : Nat → Int32 → Int32 → Hp → Option (Int32 × Hp)} {t : Nat} : ∀ (m i d b : Nat), i + m = n → m < d → b < 2 ^ n → fX10_pieceOf_14 K6 d p (nI b) (nI t) (nI i) H = K6 p (nI (up (spD r u) i m b)) (nI (t + 1)) H := by
  have hn := P_n hr
  intro m
  induction m with
  | zero =>
    intro i d b hk hd hb
    obtain ⟨d, rfl⟩ : ∃ e, d = e + 1 := ⟨d - 1, by omega⟩
    show bX10_pieceOf_14 K6 (fX10_pieceOf_14 K6 d) _ _ _ _ H = _
    unfold bX10_pieceOf_14
    rw [ml0 h, bd_some, if_pos (nI_le (by omega) (by omega)), nI_1]
    rfl
  | succ m ih =>
    intro i d b hk hd hb
    obtain ⟨d, rfl⟩ : ∃ e, d = e + 1 := ⟨d - 1, by omega⟩
    show bX10_pieceOf_14 K6 (fX10_pieceOf_14 K6 d) _ _ _ _ H = _
    unfold bX10_pieceOf_14
    have hb2 := lt32 hn.2 hb
    have h1 := P_dg hr (i := i) (by omega)
    have h2 := P_dg hu (i := i) (by omega)
    rw [ml0 h, bd_some, if_neg (nI_ge (by omega) (by omega)), mHas (by omega) (by omega), bd2_some, show up (spD r u) i (m + 1) b = up (spD r u) (i + 1) m (spD r u i b) from rfl]
    by_cases e : b.testBit i = true
    · rw [bit01_t e, if_neg (by decide), mRight h hn.2 (by omega), bd2_some, mUp h hn.2 (by omega), bd2_some, shl1 (by omega), shl1 (by omega), fa_or, show (1 <<< dg r i) ||| (1 <<< dg u i) = pair (dg r i) (dg u i) from rfl, fa_or, nI_1, ih (i + 1) d _ (by omega) (by omega) (Nat.or_lt_two_pow hb (pairn_lt h1 h2))]
      rw [show spD r u i b = b ||| pair (dg r i) (dg u i) by unfold spD; rw [if_pos e]]
    · rw [bit01_f e, if_pos rfl, nI_or0, nI_1, ih (i + 1) d _ (by omega) (by omega) hb, show spD r u i b = b by unfold spD; rw [if_neg e]]

theorem mPieceO (h : ml H p n r u) (hr : r ∈ P n) (hu : u ∈ P n) : ∀ (m t d b : Nat), t + m = 5 → m < d → b < 2 ^ n → fX10_pieceOf_6 d p (nI b) (nI t) H = some (nI (itr n (spD r u) m b), H) := by
  have hn := P_n hr
  intro m
  induction m with
  | zero =>
    intro t d b hk hd hb
    obtain ⟨d, rfl⟩ : ∃ e, d = e + 1 := ⟨d - 1, by omega⟩
    show bX10_pieceOf_6 (fX10_pieceOf_6 d) _ _ _ H = _
    unfold bX10_pieceOf_6
    rw [l_5, if_pos (nI_le (by omega) (by omega))]
    rfl
  | succ m ih =>
    intro t d b hk hd hb
    obtain ⟨d, rfl⟩ : ∃ e, d = e + 1 := ⟨d - 1, by omega⟩
    show bX10_pieceOf_6 (fX10_pieceOf_6 d) _ _ _ H = _
    unfold bX10_pieceOf_6
    rw [l_5, if_neg (nI_ge (by omega) (by omega)), show (0 : Int32) = nI 0 from rfl, mPieceI h hr hu n 0 4096 b (by omega) (by omega) hb]
    exact ih (t + 1) d _ (by omega) (by omega) (up_grow (sysD hr hu) n 0 b (by omega) hb).2

theorem mPieceOf (h : ml H p n r u) (hr : r ∈ P n) (hu : u ∈ P n) {s : Nat} (hs : s < n) : FX10_pieceOf p (nI s) H = some (nI (pieceN n r u s), H) := by
  unfold FX10_pieceOf
  have hn := P_n hr
  rw [shl1 (by omega), ← piece_dir hr hu hs]
  exact mPieceO h hr hu 5 0 4096 _ (by omega) (by omega) (two_lt hs)
theorem mPiecesL (h : ml H p n r u) (hr : r ∈ P n) (hu : u ∈ P n) : ∀ (m i d a : Nat), i + m = n → m < d → fX10_pieces_4 d p (nI a) (nI i) H = some (nI (leastL (pieceN n r u) m i a), H) := by
  have hn := P_n hr
  intro m
  induction m with
  | zero =>
    intro i d a hk hd
    obtain ⟨d, rfl⟩ : ∃ e, d = e + 1 := ⟨d - 1, by omega⟩
    show bX10_pieces_4 (fX10_pieces_4 d) _ _ _ H = _
    unfold bX10_pieces_4
    rw [ml0 h, bd_some, if_pos (nI_le (by omega) (by omega))]
    rfl
  | succ m ih =>
    intro i d a hk hd
    obtain ⟨d, rfl⟩ : ∃ e, d = e + 1 := ⟨d - 1, by omega⟩
    show bX10_pieces_4 (fX10_pieces_4 d) _ _ _ H = _
    unfold bX10_pieces_4
    have hl := lt32 hn.2 (pieceN_lt hr hu (s := i) (by omega))
    rw [ml0 h, bd_some, if_neg (nI_ge (by omega) (by omega)), mPieceOf h hr hu (by omega), bd2_some, mLeast (by omega) (by omega), bd2_some, leastL, least01]
    by_cases e : (pieceN n r u) i &&& (2 ^ i - 1) = 0
    · rw [if_pos e, if_pos e, if_neg (by decide), nI_1, nI_1]
      exact ih (i + 1) d _ (by omega) (by omega)
    · rw [if_neg e, if_neg e, if_pos rfl, nI_a0, nI_1]
      exact ih (i + 1) d _ (by omega) (by omega)

theorem pieces_met (hr : r ∈ P n) (hu : u ∈ P n) : ∀ (m i b c : Nat), i + m ≤ n → piecesL n r u (2 ^ n - 1) m i b c = metL (pieceN n r u) m i b c
  | 0, i, b, c, _ => rfl
  | m + 1, i, b, c, h => by
    rw [piecesL, metL, all_bit (by omega), Bool.true_and]
    by_cases e : b.testBit i = true
    · rw [e, if_neg (by decide), if_pos rfl]
      exact pieces_met hr hu m (i + 1) b c (by omega)
    · have e2 : b.testBit i = false := by simpa using e
      rw [e2, if_pos (by decide), if_neg (by decide)]
      exact pieces_met hr hu m (i + 1) _ _ (by omega)
theorem mPieces (h : ml H p n r u) (hr : r ∈ P n) (hu : u ∈ P n) : FX10_pieces p H = some (nI (piecesN n r u (2 ^ n - 1)), H) := by
  unfold FX10_pieces piecesN
  rw [pieces_met hr hu n 0 0 0 (by omega), met_least0 (piece_part hr hu)]
  exact mPiecesL h hr hu n 0 4096 0 (by omega) (by have := P_n hr; omega)
-- rows
theorem ring_part0 : (allN 6 fun n => (P n).all fun r => allN n fun i => Nat.blt (ringN r n i 0) (2 ^ n) && ((ringN r n i 0).testBit i && allN n fun j => !(ringN r n i 0).testBit j || Nat.beq (ringN r n j 0) (ringN r n i 0))) = true := by decide +kernel
theorem ring_part (hr : r ∈ P n) : Part n (fun i => ringN r n i 0) := by
  have hn := P_n hr
  have q := List.all_eq_true.mp (allN_at ring_part0 n (by omega)) r hr
  refine ⟨fun i hi => ?_, fun i j hi hj h => ?_⟩
  · obtain ⟨h1, h2⟩ := and2 (allN_at q i hi)
    exact ⟨by simpa using h1, (and2 h2).1⟩
  · obtain ⟨h1, h2⟩ := and2 (allN_at q i hi)
    have h3 := allN_at (and2 h2).2 j hj
    rw [h, Bool.not_true, Bool.false_or] at h3
    exact Nat.eq_of_beq_eq_true h3
/-- a row that goes on whole: all its corners are ordinary -/
def contL (c row : Nat) : Nat → Nat → Bool
  | 0, _ => true
  | m + 1, i => if row.testBit i && !decide (dg c i = i) then false else contL c row m (i + 1)
theorem eContL (h : gl H k n r u) (hn : n ≤ 5) {c row : Nat} (hc : c < 65536) (hw : row < 65536) : ∀ (m i d : Nat), i + m = n → m < d → fX2_isContinued_2 d k (nI row) (nI c) (nI i) H = some (b01 (contL c row m i), H) := by
  intro m
  induction m with
  | zero =>
    intro i d hk hd
    obtain ⟨d, rfl⟩ : ∃ e, d = e + 1 := ⟨d - 1, by omega⟩
    show bX2_isContinued_2 (fX2_isContinued_2 d) _ _ _ _ H = _
    unfold bX2_isContinued_2
    rw [gl0 h, bd_some, if_pos (nI_le (by omega) (by omega))]
    rfl
  | succ m ih =>
    intro i d hk hd
    obtain ⟨d, rfl⟩ : ∃ e, d = e + 1 := ⟨d - 1, by omega⟩
    show bX2_isContinued_2 (fX2_isContinued_2 d) _ _ _ _ H = _
    unfold bX2_isContinued_2
    have h8 := dg_lt c i
    rw [gl0 h, bd_some, if_neg (nI_ge (by omega) (by omega)), eIsIn hw (by omega), bd2_some, contL]
    by_cases e : row.testBit i = true
    · rw [bit01_t e, if_neg (by decide), eAt hc (by omega), bd2_some, e, Bool.true_and]
      by_cases e2 : dg c i = i
      · rw [if_pos (by rw [e2]), nI_1, decide_eq_true e2, if_neg (by decide)]
        exact ih (i + 1) d (by omega) (by omega)
      · rw [if_neg (fun q => e2 ((nI_eq (by omega) (by omega)).mp q)), decide_eq_false e2, if_pos (by decide)]
        rfl
    · have e2 : row.testBit i = false := by simpa using e
      rw [bit01_f e, if_pos rfl, nI_1, e2, Bool.false_and, if_neg (by decide)]
      exact ih (i + 1) d (by omega) (by omega)

theorem eCont (h : gl H k n r u) (hn : n ≤ 5) {c row : Nat} (hc : c < 65536) (hw : row < 65536) : FX2_isContinued k (nI row) (nI c) H = some (b01 (contL c row n 0), H) := by
  unfold FX2_isContinued
  exact eContL h hn hc hw n 0 4096 (by omega) (by omega)
theorem mContL (h : ml H p n r u) (hr : r ∈ P n) (hu : u ∈ P n) {row : Nat} (hw : row < 65536) : ∀ (m i d : Nat) (a : Bool), i + m = n → m < d → fX10_isContinued_11 d p (nI row) (b01 a) (nI i) H = some (b01 (a && contL (cN n r u) row m i), H) := by
  have hn := P_n hr
  intro m
  induction m with
  | zero =>
    intro i d a hk hd
    obtain ⟨d, rfl⟩ : ∃ e, d = e + 1 := ⟨d - 1, by omega⟩
    show bX10_isContinued_11 (fX10_isContinued_11 d) _ _ _ _ H = _
    unfold bX10_isContinued_11
    rw [ml0 h, bd_some, if_pos (nI_le (by omega) (by omega)), gp_pos (by cases a <;> decide), contL, Bool.and_true]
  | succ m ih =>
    intro i d a hk hd
    obtain ⟨d, rfl⟩ : ∃ e, d = e + 1 := ⟨d - 1, by omega⟩
    show bX10_isContinued_11 (fX10_isContinued_11 d) _ _ _ _ H = _
    unfold bX10_isContinued_11
    have h8 := dg_lt (cN n r u) i
    have h43 : fX10_isContinued_43 (fX10_isContinued_11 d) p (nI row) (nI i) H = fX10_isContinued_11 d p (nI row) (b01 true) (nI (i + 1)) H := by
      unfold fX10_isContinued_43
      rw [nI_1]
      rfl
    rw [ml0 h, bd_some, if_neg (nI_ge (by omega) (by omega))]
    cases a with
    | false =>
      rw [if_pos (by decide), nI_1]
      exact ih (i + 1) d false (by omega) (by omega)
    | true =>
      rw [if_neg (by decide), mHas hw (by omega), bd2_some, contL, Bool.true_and]
      by_cases e : row.testBit i = true
      · rw [bit01_t e, if_neg (by decide), mAround h hr hu (by omega), bd2_some, e, Bool.true_and]
        by_cases e2 : dg (cN n r u) i = i
        · rw [if_pos (by rw [e2]), h43, decide_eq_true e2, if_neg (by decide), ih (i + 1) d true (by omega) (by omega), Bool.true_and]
        · rw [if_neg (fun q => e2 ((nI_eq (by omega) (by omega)).mp q)), decide_eq_false e2, if_pos (by decide), nI_1]
          exact ih (i + 1) d false (by omega) (by omega)
      · have e2 : row.testBit i = false := by simpa using e
        rw [bit01_f e, if_pos rfl, h43, e2, Bool.false_and, if_neg (by decide), ih (i + 1) d true (by omega) (by omega), Bool.true_and]

def ctN (n r u i : Nat) : Bool := contL (cN n r u) (ringN r n i 0) n 0
def rwN (n r i : Nat) : Nat := ringN r n i 0
theorem rw_lt (hr : r ∈ P n) {i : Nat} (hi : i < n) : rwN n r i < 2 ^ n := ((ring_part hr).1 i hi).1
theorem mCont (h : ml H p n r u) (hr : r ∈ P n) (hu : u ∈ P n) {i : Nat} (hi : i < n) : FX10_isContinued p (nI i) H = some (b01 (ctN n r u i), H) := by
  unfold FX10_isContinued
  have hn := P_n hr
  have hl := lt32 hn.2 (rw_lt hr hi)
  unfold rwN at hl
  rw [mRowOf h hr hi, bd2_some]
  exact mContL h hr hu (by omega) n 0 4096 true (by omega) (by omega)
-- bands
def bothN (n r u i : Nat) : Nat := rwN n r i ||| rwN n r (dg u i)
def spB (n r u : Nat) : Nat → Nat → Nat := sy2 (fun _ => false) (ctN n r u) (fun _ => 0) (bothN n r u)
theorem sysB (hr : r ∈ P n) (hu : u ∈ P n) : Sys n (spB n r u) := sy2_sys (P_n hr).2 (fun i hi => Nat.two_pow_pos n) (fun i hi => Nat.or_lt_two_pow (rw_lt hr hi) (rw_lt hr (P_dg hu hi)))
theorem spB_eq (i S : Nat) : spB n r u i S = if bothN n r u i &&& S = 0 then S else if ctN n r u i then S ||| bothN n r u i else S := by
  unfold spB sy2 gk tk
  cases ctN n r u i
  · simp
  · simp
theorem eBandI (h : gl H k n r u) (hr : r ∈ P n) (hu : u ∈ P n) {K21 : Nat → Int32 → Int32 → Int32 → Hp → Option (Int32 × Hp)} {t bf : Nat} (hbf : bf < 2 ^ n) : ∀ (m i d b : Nat), i + m = n → m < d → b < 2 ^ n → fX2_band_36 K21 d k (nI (cN n r u)) (nI b) (nI t) (nI bf) (nI i) H = if up (spB n r u) i m b = bf then some (nI (up (spB n r u) i m b), H) else K21 k (nI (cN n r u)) (nI (up (spB n r u) i m b)) (nI (t + 1)) H := by
  have hn := P_n hr
  have b1 := P_lt hr
  have b2 := P_lt hu
  have b3 := P_lt (P_c hr hu)
  intro m
  induction m with
  | zero =>
    intro i d b hk hd hb
    obtain ⟨d, rfl⟩ : ∃ e, d = e + 1 := ⟨d - 1, by omega⟩
    show bX2_band_36 K21 (fX2_band_36 K21 d) _ _ _ _ _ _ H = _
    unfold bX2_band_36
    have hb2 := lt32 hn.2 hb
    have hbf2 := lt32 hn.2 hbf
    rw [gl0 h, bd_some, if_pos (nI_le (by omega) (by omega)), nI_1]
    show _ = if b = bf then some (nI b, H) else _
    by_cases e : b = bf
    · rw [if_pos (by rw [e]), if_pos e]
    · rw [if_neg (fun q => e ((nI_eq (by omega) (by omega)).mp q)), if_neg e]
      rfl
  | succ m ih =>
    intro i d b hk hd hb
    obtain ⟨d, rfl⟩ : ∃ e, d = e + 1 := ⟨d - 1, by omega⟩
    show bX2_band_36 K21 (fX2_band_36 K21 d) _ _ _ _ _ _ H = _
    unfold bX2_band_36
    have hb2 := lt32 hn.2 hb
    have hw1 := lt32 hn.2 (rw_lt hr (i := i) (by omega))
    have hw2 := lt32 hn.2 (rw_lt hr (i := dg u i) (P_dg hu (by omega)))
    have hbo := lt32 hn.2 ((sysB hr hu).2.1 i b (by omega) hb).2
    have hbb := Nat.or_lt_two_pow (n := 5) hw1 hw2
    have h8 := dg_lt u i
    have hand : bothN n r u i &&& b ≤ b := Nat.and_le_right
    rw [gl0 h, bd_some, if_neg (nI_ge (by omega) (by omega)), gl1 h, bd_some, bd_some, eRing (by omega) (by omega) (by omega), bd2_some, gl1 h, bd_some, gl2 h, bd_some, eAt (by omega) (by omega), bd2_some, gl0 h, bd_some, eRing (by omega) (by omega) (by omega), bd2_some, fa_or, fa_and, nI_1, show ringN r n i 0 ||| ringN r n (dg u i) 0 = bothN n r u i from rfl]
    rw [show up (spB n r u) i (m + 1) b = up (spB n r u) (i + 1) m (spB n r u i b) from rfl]
    have hnext := ((sysB hr hu).2.1 i b (by omega) hb).2
    rw [spB_eq] at hnext ⊢
    by_cases e : bothN n r u i &&& b = 0
    · rw [if_pos e] at hnext
      rw [if_pos (show nI (bothN n r u i &&& b) = 0 by rw [e]; rfl), if_pos e]
      exact ih (i + 1) d b (by omega) (by omega) hb
    · rw [if_neg e] at hnext
      unfold rwN at hw1
      rw [if_neg (show ¬ nI (bothN n r u i &&& b) = 0 from fun q => e ((nI_eq (b := 0) (by omega) (by omega)).mp q)), if_neg e, gp_pos (glO h), eCont h hn.2 (by omega) (by omega), bd2_some, show contL (cN n r u) (ringN r n i 0) n 0 = ctN n r u i from rfl]
      cases hct : ctN n r u i with
      | false =>
        rw [if_pos (by decide), if_neg (show ¬ false = true by decide)]
        exact ih (i + 1) d b (by omega) (by omega) hb
      | true =>
        rw [hct, if_pos rfl] at hnext
        rw [if_neg (by decide), if_pos rfl, fa_or]
        exact ih (i + 1) d _ (by omega) (by omega) hnext

def bandL (n r u : Nat) : Nat → Nat → Nat
  | 0, b => b
  | m + 1, b => if up (spB n r u) 0 n b = b then b else bandL n r u m (up (spB n r u) 0 n b)
theorem eBandO (h : gl H k n r u) (hr : r ∈ P n) (hu : u ∈ P n) : ∀ (m t d b : Nat), t + m = n → m < d → b < 2 ^ n → fX2_band_21 d k (nI (cN n r u)) (nI b) (nI t) H = some (nI (bandL n r u m b), H) := by
  have hn := P_n hr
  intro m
  induction m with
  | zero =>
    intro t d b hk hd hb
    obtain ⟨d, rfl⟩ : ∃ e, d = e + 1 := ⟨d - 1, by omega⟩
    show bX2_band_21 (fX2_band_21 d) _ _ _ _ H = _
    unfold bX2_band_21
    rw [gl0 h, bd_some, if_pos (nI_le (by omega) (by omega))]
    rfl
  | succ m ih =>
    intro t d b hk hd hb
    obtain ⟨d, rfl⟩ : ∃ e, d = e + 1 := ⟨d - 1, by omega⟩
    show bX2_band_21 (fX2_band_21 d) _ _ _ _ H = _
    unfold bX2_band_21
    rw [gl0 h, bd_some, if_neg (nI_ge (by omega) (by omega)), show (0 : Int32) = nI 0 from rfl, eBandI h hr hu hb n 0 4096 b (by omega) (by omega) hb, bandL]
    by_cases e : up (spB n r u) 0 n b = b
    · rw [if_pos e, if_pos e, e]
    · rw [if_neg e, if_neg e]
      exact ih (t + 1) d _ (by omega) (by omega) (up_grow (sysB hr hu) n 0 b (by omega) hb).2

theorem bandL_itr : ∀ (m b : Nat), bandL n r u m b = itr n (spB n r u) m b
  | 0, b => rfl
  | m + 1, b => by
    rw [bandL, itr]
    by_cases e : up (spB n r u) 0 n b = b
    · rw [if_pos e, e, itr_fix e]
    · rw [if_neg e]
      exact bandL_itr m _
def bandN (n r u i : Nat) : Nat := itr n (spB n r u) 5 (rwN n r i)
theorem rw_pop (hr : r ∈ P n) {i : Nat} (hi : i < n) : 1 ≤ popc (rwN n r i) := by
  have hn := P_n hr
  have h1 := lt32 hn.2 (rw_lt hr hi)
  refine Nat.pos_of_ne_zero fun h0 => ?_
  have h2 := popc_pos0 _ h1 h0
  have h3 : (rwN n r i).testBit i = true := ((ring_part hr).1 i hi).2
  rw [h2, Nat.zero_testBit] at h3
  cases h3
theorem eBand (h : gl H k n r u) (hr : r ∈ P n) (hu : u ∈ P n) {i : Nat} (hi : i < n) : FX2_band k (nI i) H = some (nI (bandN n r u i), H) := by
  unfold FX2_band bandN
  have hn := P_n hr
  have b1 := P_lt hr
  have hp := rw_pop hr hi
  rw [gp_pos (glO h), eTurned h hr hu, bd2_some, gl1 h, bd_some, gl0 h, bd_some, eRing (by omega) (by omega) (by omega), bd2_some, itr_more (sysB hr hu) (m2 := n - 1) (rw_lt hr hi) (by omega) (by omega), ← bandL_itr]
  exact eBandO h hr hu (n - 1) 1 4096 _ (by omega) (by omega) (rw_lt hr hi)
/-- a union of rows -/
def Un (n r S : Nat) : Prop := ∀ j, j < n → S.testBit j = true → sub (rwN n r j) S
theorem un_row (hr : r ∈ P n) {i : Nat} (hi : i < n) : Un n r (rwN n r i) := by
  intro j hj h
  have h1 : rwN n r j = rwN n r i := (ring_part hr).2 i j hi hj h
  rw [h1]
  exact sub_rf _
theorem un_or {S T : Nat} (h1 : Un n r S) (h2 : Un n r T) : Un n r (S ||| T) := by
  intro j hj h
  rw [Nat.testBit_or, Bool.or_eq_true] at h
  rcases h with h | h
  · exact sub_tr (h1 j hj h) (sub_orl _ _)
  · exact sub_tr (h2 j hj h) (sub_orr _ _)
theorem itr_inv {sp : Nat → Nat → Nat} {Q : Nat → Prop} (hq : ∀ i S, i < n → Q S → Q (sp i S)) : ∀ (m S : Nat), Q S → Q (itr n sp m S)
  | 0, S, h => h
  | m + 1, S, h => itr_inv hq m _ (up_inv (Q := Q) n 0 S (fun j a _ h2 ha => hq j a (by omega) ha) h)
theorem un_B (hr : r ∈ P n) (hu : u ∈ P n) {i : Nat} (hi : i < n) (m : Nat) : Un n r (itr n (spB n r u) m (rwN n r i)) := by
  refine itr_inv (Q := Un n r) (fun j S hj hS => ?_) m _ (un_row hr hi)
  rw [spB_eq]
  split
  · exact hS
  · split
    · exact un_or hS (un_or (un_row hr hj) (un_row hr (P_dg hu hj)))
    · exact hS
theorem band_part (hr : r ∈ P n) (hu : u ∈ P n) : Part n (bandN n r u) := by
  have hn := P_n hr
  refine part_of (n := n) (sp := spB n r u) (b := rwN n r) (m := 5) (sysB hr hu) (fun S T => sy2_wo) (fun i hi => ⟨rw_lt hr hi, ((ring_part hr).1 i hi).2, by omega⟩) (fun i j hi hj h => un_B hr hu hj 5 i hi h) (fun i j x hi hj h1 h2 => ?_)
  have hx : x < n := lt_bit (rw_lt hr hi) h1
  have h3 : rwN n r x = rwN n r i := (ring_part hr).2 i x hi hx h1
  refine un_B hr hu hj 5 x hx h2 i ?_
  rw [h3]
  exact ((ring_part hr).1 i hi).2
-- the reference's bands
def s1M (n r u k S : Nat) : Nat := if S.testBit k then S ||| rwN n r (dg u k) else S
def spM (n r u k S : Nat) : Nat := if ctN n r u k then (if s1M n r u k S &&& rwN n r (dg u k) = 0 then s1M n r u k S else s1M n r u k S ||| rwN n r k) else S
theorem s1M_sub (k S : Nat) : sub S (s1M n r u k S) := by
  unfold s1M
  split
  · exact sub_orl _ _
  · exact sub_rf S
theorem spM_sub1 (k S : Nat) (hct : ctN n r u k = true) : sub (s1M n r u k S) (spM n r u k S) := by
  unfold spM
  rw [if_pos hct]
  split
  · exact sub_rf _
  · exact sub_orl _ _
theorem spM_fix {k T : Nat} : spM n r u k T = T ↔ (ctN n r u k = true → (T.testBit k = true → sub (rwN n r (dg u k)) T) ∧ (¬ T &&& rwN n r (dg u k) = 0 → sub (rwN n r k) T)) := by
  by_cases hct : ctN n r u k = true
  · constructor
    · intro h _
      have hs1 : s1M n r u k T = T := by
        refine sub_asm ?_ (s1M_sub k T)
        have := spM_sub1 (n := n) (r := r) (u := u) k T hct
        rw [h] at this
        exact this
      unfold spM at h
      rw [if_pos hct, hs1] at h
      refine ⟨fun hk => ?_, fun hne => ?_⟩
      · unfold s1M at hs1
        rw [if_pos hk] at hs1
        exact of_or_eq hs1
      · rw [if_neg hne] at h
        exact of_or_eq h
    · intro h
      obtain ⟨h1, h2⟩ := h hct
      have hs1 : s1M n r u k T = T := by
        unfold s1M
        by_cases hk : T.testBit k = true
        · rw [if_pos hk]; exact or_eq (h1 hk)
        · rw [if_neg hk]
      unfold spM
      rw [if_pos hct, hs1]
      by_cases hne : T &&& rwN n r (dg u k) = 0
      · rw [if_pos hne]
      · rw [if_neg hne]; exact or_eq (h2 hne)
  · unfold spM
    rw [if_neg hct]
    exact ⟨fun _ h => absurd h hct, fun _ => rfl⟩
theorem s1M_lt (hr : r ∈ P n) (hu : u ∈ P n) {i S : Nat} (hi : i < n) (hS : S < 2 ^ n) : s1M n r u i S < 2 ^ n := by
  unfold s1M
  split
  · exact Nat.or_lt_two_pow hS (rw_lt hr (P_dg hu hi))
  · exact hS
theorem sysM (hr : r ∈ P n) (hu : u ∈ P n) : Sys n (spM n r u) := by
  refine ⟨(P_n hr).2, fun i S hi hS => ?_, fun i S T hi hS hT hST hf => ?_⟩
  · unfold spM
    split
    · split
      · exact ⟨s1M_sub i S, s1M_lt hr hu hi hS⟩
      · exact ⟨sub_tr (s1M_sub i S) (sub_orl _ _), Nat.or_lt_two_pow (s1M_lt hr hu hi hS) (rw_lt hr hi)⟩
    · exact ⟨sub_rf S, hS⟩
  · have hf := spM_fix.mp hf
    by_cases hct : ctN n r u i = true
    · obtain ⟨f1, f2⟩ := hf hct
      have g1 : sub (s1M n r u i S) T := by
        unfold s1M
        split
        · rename_i hk
          exact sub_or hST (f1 (hST i hk))
        · exact hST
      unfold spM
      rw [if_pos hct]
      split
      · exact g1
      · rename_i hne
        obtain ⟨x, x1, x2⟩ := and_ne.mp hne
        exact sub_or g1 (f2 (and_ne.mpr ⟨x, g1 x x1, x2⟩))
    · unfold spM
      rw [if_neg hct]
      exact hST
theorem un_M (hr : r ∈ P n) (hu : u ∈ P n) {i : Nat} (hi : i < n) (m : Nat) : Un n r (itr n (spM n r u) m (rwN n r i)) := by
  refine itr_inv (Q := Un n r) (fun j S hj hS => ?_) m _ (un_row hr hi)
  have g1 : Un n r (s1M n r u j S) := by
    unfold s1M
    split
    · exact un_or hS (un_row hr (P_dg hu hj))
    · exact hS
  unfold spM
  split
  · split
    · exact g1
    · exact un_or g1 (un_row hr hj)
  · exact hS
theorem band_same (hr : r ∈ P n) (hu : u ∈ P n) {i : Nat} (hi : i < n) : itr n (spM n r u) 5 (rwN n r i) = bandN n r u i := by
  have hn := P_n hr
  have c1 := itr_cls (sysM hr hu) 5 _ (rw_lt hr hi) (by omega)
  have c2 := itr_cls (sysB hr hu) 5 _ (rw_lt hr hi) (by omega)
  refine itr_same (sysM hr hu) (sysB hr hu) (rw_lt hr hi) (by omega) (by omega) ⟨c1.1, fun j hj => ?_⟩ ⟨c2.1, fun j hj => spM_fix.mpr (fun hct => ?_)⟩
  · refine sy2_fix.mpr ⟨rfl, ?_⟩
    cases hct : ctN n r u j with
    | false => rfl
    | true =>
      obtain ⟨f1, f2⟩ := spM_fix.mp (c1.2 j hj) hct
      have hrow : ∀ S : Nat, S.testBit j = true → sub (rwN n r (dg u j)) S → sub (rwN n r j) S → sub (bothN n r u j) S := fun S _ a b => sub_or b a
      refine tk_fix.mpr ?_
      by_cases e : bothN n r u j &&& itr n (spM n r u) 5 (rwN n r i) = 0
      · exact Or.inl e
      · refine Or.inr ?_
        obtain ⟨x, x1, x2⟩ := and_ne.mp e
        have hjj : (rwN n r j).testBit j = true := ((ring_part hr).1 j hj).2
        have hrj : sub (rwN n r j) (itr n (spM n r u) 5 (rwN n r i)) := by
          unfold bothN at x1
          rw [Nat.testBit_or, Bool.or_eq_true] at x1
          rcases x1 with x1 | x1
          · have hx : x < n := lt_bit (rw_lt hr hj) x1
            have h3 : rwN n r x = rwN n r j := (ring_part hr).2 j x hj hx x1
            rw [← h3]
            exact un_M hr hu hi 5 x hx x2
          · exact f2 (and_ne.mpr ⟨x, x2, x1⟩)
        exact sub_or hrj (f1 (hrj j hjj))
  · have h1 := (sy2_fix.mp (c2.2 j hj)).2
    rw [hct] at h1
    have hjj : (rwN n r j).testBit j = true := ((ring_part hr).1 j hj).2
    rcases tk_fix.mp h1 with h2 | h2
    · refine ⟨fun hk => absurd h2 (and_ne.mpr ⟨j, sub_orl _ _ _ hjj, hk⟩), fun hne => ?_⟩
      obtain ⟨x, x1, x2⟩ := and_ne.mp hne
      exact absurd h2 (and_ne.mpr ⟨x, sub_orr _ _ _ x2, x1⟩)
    · exact ⟨fun _ => sub_tr (sub_orr _ _) h2, fun _ => sub_tr (sub_orl _ _) h2⟩
theorem mBandI (h : ml H p n r u) (hr : r ∈ P n) (hu : u ∈ P n) {K8 : Nat → Int32 → Int32 → Hp → Option (Int32 × Hp)} {t : Nat} : ∀ (m i d b : Nat), i + m = n → m < d → b < 2 ^ n → fX10_bandOf_16 K8 d p (nI b) (nI t) (nI i) H = K8 p (nI (up (spM n r u) i m b)) (nI (t + 1)) H := by
  have hn := P_n hr
  intro m
  induction m with
  | zero =>
    intro i d b hk hd hb
    obtain ⟨d, rfl⟩ : ∃ e, d = e + 1 := ⟨d - 1, by omega⟩
    show bX10_bandOf_16 K8 (fX10_bandOf_16 K8 d) _ _ _ _ H = _
    unfold bX10_bandOf_16
    rw [ml0 h, bd_some, if_pos (nI_le (by omega) (by omega)), nI_1]
    rfl
  | succ m ih =>
    intro i d b hk hd hb
    obtain ⟨d, rfl⟩ : ∃ e, d = e + 1 := ⟨d - 1, by omega⟩
    show bX10_bandOf_16 K8 (fX10_bandOf_16 K8 d) _ _ _ _ H = _
    unfold bX10_bandOf_16
    have hb2 := lt32 hn.2 hb
    have hw2 := lt32 hn.2 (rw_lt hr (i := dg u i) (P_dg hu (by omega)))
    have hnx := ((sysM hr hu).2.1 i b (by omega) hb).2
    have h65 : ∀ (s0 s1 : Nat), s0 < 32 → s1 < 32 → fX10_bandOf_65 K8 (fX10_bandOf_16 K8 d) p (nI t) (nI i) (b01 (ctN n r u i)) (nI (rwN n r (dg u i))) (nI s0) (nI s1) H = fX10_bandOf_16 K8 d p (nI (if ctN n r u i then (if (s0 ||| s1) &&& rwN n r (dg u i) = 0 then s0 ||| s1 else (s0 ||| s1) ||| rwN n r i) else s0 ||| s1)) (nI t) (nI (i + 1)) H := by
      intro s0 s1 g0 g1
      have hor := Nat.or_lt_two_pow (n := 5) g0 g1
      have hand : (s0 ||| s1) &&& rwN n r (dg u i) ≤ s0 ||| s1 := Nat.and_le_left
      unfold fX10_bandOf_65 fX10_bandOf_89
      rw [fa_or, fa_and, nI_or0, nI_1]
      cases ctN n r u i with
      | false => rw [if_pos (by decide), if_neg (by decide)]
      | true =>
        rw [if_neg (by decide), if_pos rfl]
        by_cases e : (s0 ||| s1) &&& rwN n r (dg u i) = 0
        · rw [if_pos (show nI ((s0 ||| s1) &&& rwN n r (dg u i)) = 0 by rw [e]; rfl), if_pos e]
        · rw [if_neg (show ¬ nI ((s0 ||| s1) &&& rwN n r (dg u i)) = 0 from fun q => e ((nI_eq (b := 0) (by omega) (by omega)).mp q)), if_neg e, mRowOf h hr (by omega), bd2_some, fa_or]
          rfl
    have h64 : fX10_bandOf_64 K8 (fX10_bandOf_16 K8 d) p (nI t) (nI i) (b01 (ctN n r u i)) (nI (rwN n r (dg u i))) (nI b) H = fX10_bandOf_65 K8 (fX10_bandOf_16 K8 d) p (nI t) (nI i) (b01 (ctN n r u i)) (nI (rwN n r (dg u i))) (nI b) (nI 0) H := rfl
    rw [ml0 h, bd_some, if_neg (nI_ge (by omega) (by omega)), mCont h hr hu (by omega), bd2_some, mUp h hn.2 (by omega), bd2_some, mRowOf h hr (P_dg hu (by omega)), bd2_some, show ringN r n (dg u i) 0 = rwN n r (dg u i) from rfl, mHas (by omega) (by omega), bd2_some, h64, h65 b 0 hb2 (by omega), h65 b _ hb2 hw2, Nat.or_zero]
    rw [show up (spM n r u) i (m + 1) b = up (spM n r u) (i + 1) m (spM n r u i b) from rfl]
    by_cases hct : ctN n r u i = true
    · have hs : spM n r u i b = if s1M n r u i b &&& rwN n r (dg u i) = 0 then s1M n r u i b else s1M n r u i b ||| rwN n r i := by
        unfold spM
        rw [if_pos hct]
      rw [hct, if_neg (by decide), if_pos rfl, if_pos rfl]
      by_cases e : b.testBit i = true
      · have hs1 : s1M n r u i b = b ||| rwN n r (dg u i) := by unfold s1M; rw [if_pos e]
        rw [hs1] at hs
        rw [bit01_t e, if_neg (by decide), ← hs]
        exact ih (i + 1) d _ (by omega) (by omega) hnx
      · have hs1 : s1M n r u i b = b := by unfold s1M; rw [if_neg e]
        rw [hs1] at hs
        rw [bit01_f e, if_pos rfl, ← hs]
        exact ih (i + 1) d _ (by omega) (by omega) hnx
    · have hs : spM n r u i b = b := by
        unfold spM
        rw [if_neg hct]
      have hct2 : ctN n r u i = false := by simpa using hct
      rw [hs, hct2, if_pos (by decide), if_neg (by decide)]
      exact ih (i + 1) d b (by omega) (by omega) hb

theorem mBandO (h : ml H p n r u) (hr : r ∈ P n) (hu : u ∈ P n) : ∀ (m t d b : Nat), t + m = 5 → m < d → b < 2 ^ n → fX10_bandOf_8 d p (nI b) (nI t) H = some (nI (itr n (spM n r u) m b), H) := by
  have hn := P_n hr
  intro m
  induction m with
  | zero =>
    intro t d b hk hd hb
    obtain ⟨d, rfl⟩ : ∃ e, d = e + 1 := ⟨d - 1, by omega⟩
    show bX10_bandOf_8 (fX10_bandOf_8 d) _ _ _ H = _
    unfold bX10_bandOf_8
    rw [l_5, if_pos (nI_le (by omega) (by omega))]
    rfl
  | succ m ih =>
    intro t d b hk hd hb
    obtain ⟨d, rfl⟩ : ∃ e, d = e + 1 := ⟨d - 1, by omega⟩
    show bX10_bandOf_8 (fX10_bandOf_8 d) _ _ _ H = _
    unfold bX10_bandOf_8
    rw [l_5, if_neg (nI_ge (by omega) (by omega)), show (0 : Int32) = nI 0 from rfl, mBandI h hr hu n 0 4096 b (by omega) (by omega) hb]
    exact ih (t + 1) d _ (by omega) (by omega) (up_grow (sysM hr hu) n 0 b (by omega) hb).2

theorem mBandOf (h : ml H p n r u) (hr : r ∈ P n) (hu : u ∈ P n) {i : Nat} (hi : i < n) : FX10_bandOf p (nI i) H = some (nI (bandN n r u i), H) := by
  unfold FX10_bandOf
  rw [mRowOf h hr hi, bd2_some, ← band_same hr hu hi]
  exact mBandO h hr hu 5 0 4096 _ (by omega) (by omega) (rw_lt hr hi)
theorem bandN_lt (hr : r ∈ P n) (hu : u ∈ P n) {i : Nat} (hi : i < n) : bandN n r u i < 2 ^ n := ((band_part hr hu).1 i hi).1
theorem mBandsL (h : ml H p n r u) (hr : r ∈ P n) (hu : u ∈ P n) : ∀ (m i d a : Nat), i + m = n → m < d → fX10_bands_4 d p (nI a) (nI i) H = some (nI (leastL (bandN n r u) m i a), H) := by
  have hn := P_n hr
  intro m
  induction m with
  | zero =>
    intro i d a hk hd
    obtain ⟨d, rfl⟩ : ∃ e, d = e + 1 := ⟨d - 1, by omega⟩
    show bX10_bands_4 (fX10_bands_4 d) _ _ _ H = _
    unfold bX10_bands_4
    rw [ml0 h, bd_some, if_pos (nI_le (by omega) (by omega))]
    rfl
  | succ m ih =>
    intro i d a hk hd
    obtain ⟨d, rfl⟩ : ∃ e, d = e + 1 := ⟨d - 1, by omega⟩
    show bX10_bands_4 (fX10_bands_4 d) _ _ _ H = _
    unfold bX10_bands_4
    have hl := lt32 hn.2 (bandN_lt hr hu (i := i) (by omega))
    rw [ml0 h, bd_some, if_neg (nI_ge (by omega) (by omega)), mBandOf h hr hu (by omega), bd2_some, mLeast (by omega) (by omega), bd2_some, leastL, least01]
    by_cases e : (bandN n r u) i &&& (2 ^ i - 1) = 0
    · rw [if_pos e, if_pos e, if_neg (by decide), nI_1, nI_1]
      exact ih (i + 1) d _ (by omega) (by omega)
    · rw [if_neg e, if_neg e, if_pos rfl, nI_a0, nI_1]
      exact ih (i + 1) d _ (by omega) (by omega)

def bandsN (n r u : Nat) : Nat := metL (bandN n r u) n 0 0 0
theorem mBands (h : ml H p n r u) (hr : r ∈ P n) (hu : u ∈ P n) : FX10_bands p H = some (nI (bandsN n r u), H) := by
  unfold FX10_bands bandsN
  rw [met_least0 (band_part hr hu)]
  exact mBandsL h hr hu n 0 4096 0 (by omega) (by have := P_n hr; omega)
theorem eBandsL (h : gl H k n r u) (hr : r ∈ P n) (hu : u ∈ P n) : ∀ (m i d b c : Nat), i + m = n → m < d → b < 2 ^ n → fX2_bands_6 d k (nI b) (nI c) (nI i) H = some (nI (metL (bandN n r u) m i b c), H) := by
  have hn := P_n hr
  intro m
  induction m with
  | zero =>
    intro i d b c hk hd hb
    obtain ⟨d, rfl⟩ : ∃ e, d = e + 1 := ⟨d - 1, by omega⟩
    show bX2_bands_6 (fX2_bands_6 d) _ _ _ _ H = _
    unfold bX2_bands_6
    rw [gl0 h, bd_some, if_pos (nI_le (by omega) (by omega))]
    rfl
  | succ m ih =>
    intro i d b c hk hd hb
    obtain ⟨d, rfl⟩ : ∃ e, d = e + 1 := ⟨d - 1, by omega⟩
    show bX2_bands_6 (fX2_bands_6 d) _ _ _ _ H = _
    unfold bX2_bands_6
    have hb2 := lt32 hn.2 hb
    rw [gl0 h, bd_some, if_neg (nI_ge (by omega) (by omega)), eIsIn (by omega) (by omega), bd2_some, metL]
    by_cases e : b.testBit i = true
    · rw [bit01_t e, if_neg (by decide), nI_1, if_pos e]
      exact ih (i + 1) d b c (by omega) (by omega) hb
    · rw [bit01_f e, if_pos rfl, gp_pos (glO h), eBand h hr hu (by omega), bd2_some, fa_or, nI_1, nI_1, if_neg e]
      exact ih (i + 1) d _ _ (by omega) (by omega) (Nat.or_lt_two_pow hb (bandN_lt hr hu (by omega)))

theorem eBands (h : gl H k n r u) (hr : r ∈ P n) (hu : u ∈ P n) : FX2_bands k H = some (nI (bandsN n r u), H) := by
  unfold FX2_bands bandsN
  exact eBandsL h hr hu n 0 4096 0 0 (by omega) (by have := P_n hr; omega) (Nat.two_pow_pos n)
end PB
