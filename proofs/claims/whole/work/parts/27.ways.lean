/-! Holes, moves, ways. -/
theorem eIn (a b c : Int64) (H : Hp) : FX10_in a b c H = some (b01 (decide (b ≤ a ∧ a ≤ c)), H) := by
  unfold FX10_in lg_cmp
  by_cases h1 : b ≤ a
  · have g1 : ¬ (if a > b then (1 : Int32) else if a = b then 0 else -1) < 0 := by
      rcases lg_tri a b with h | h | h
      · exact absurd h1 (lg_lt_not_le h)
      · rw [if_neg (by rw [h]; exact fun q => lg_lt_ne q rfl), if_pos h]; decide
      · rw [if_pos h]; decide
    rw [if_neg g1]
    by_cases h2 : a ≤ c
    · have g2 : ¬ 0 < (if a > c then (1 : Int32) else if a = c then 0 else -1) := by
        rcases lg_tri a c with h | h | h
        · rw [if_neg (lg_lt_not h), if_neg (lg_lt_ne h)]; decide
        · rw [if_neg (by rw [h]; exact fun q => lg_lt_ne q rfl), if_pos h]; decide
        · exact absurd h2 (lg_lt_not_le h)
      rw [if_neg g2, decide_eq_true ⟨h1, h2⟩]
      rfl
    · have g2 : 0 < (if a > c then (1 : Int32) else if a = c then 0 else -1) := by
        rcases lg_tri a c with h | h | h
        · exact absurd (by rw [fa_le64]; rw [fa_lt64] at h; omega) h2
        · exact absurd (by rw [h, fa_le64]; omega) h2
        · rw [if_pos h]; decide
      rw [if_pos g2, decide_eq_false (fun q => h2 q.2)]
      rfl
  · have g1 : (if a > b then (1 : Int32) else if a = b then 0 else -1) < 0 := by
      rcases lg_tri a b with h | h | h
      · rw [if_neg (lg_lt_not h), if_neg (lg_lt_ne h)]; decide
      · exact absurd (by rw [h, fa_le64]; omega) h1
      · exact absurd (by rw [fa_le64]; rw [fa_lt64] at h; omega) h1
    rw [if_pos g1, decide_eq_false (fun q => h1 q.1)]
    rfl
/-- a number of the int range within small bounds -/
theorem in_int (x : Int32) (a c : Nat) (hc : c < 2 ^ 31) (ha : a < 2 ^ 31) : ((lN a ≤ x.toInt64 ∧ x.toInt64 ≤ lN c) ↔ ∃ w, a ≤ w ∧ w ≤ c ∧ x = nI w) := by
  constructor
  · rintro ⟨h1, h2⟩
    rw [fa_le64, lN_toInt ha, Int32.toInt_toInt64] at h1
    rw [fa_le64, lN_toInt hc, Int32.toInt_toInt64] at h2
    refine ⟨x.toInt.toNat, by omega, by omega, ?_⟩
    rw [fa_eq, nI_toInt (by omega)]
    omega
  · rintro ⟨w, h1, h2, rfl⟩
    rw [fa_le64, fa_le64, lN_toInt ha, lN_toInt hc, Int32.toInt_toInt64, nI_toInt (by omega)]
    omega
theorem b01_01 (b : Bool) : b01 b = 0 ∨ b01 b = 1 := by cases b <;> decide
theorem b01_0 {b : Bool} : b01 b = 0 ↔ b = false := by cases b <;> decide
section HM
variable {H : Hp} {k p n r u : Nat}
/-- is it a square -/
def isS (n : Nat) (x : Int32) : Bool := decide (0 ≤ x ∧ x < nI n)
theorem isS_t {x : Int32} (hn : n < 2 ^ 31) : isS n x = true ↔ ∃ s, s < n ∧ x = nI s := by
  unfold isS
  rw [decide_eq_true_eq]
  constructor
  · rintro ⟨h1, h2⟩
    rcases pk_ix x hn with h | h | ⟨j, h3, h4⟩
    · rw [fa_lt] at h
      rw [fa_le] at h1
      omega
    · rw [fa_le] at h
      rw [fa_lt] at h2
      omega
    · exact ⟨j, h3, h4⟩
  · rintro ⟨s, h1, rfl⟩
    exact ⟨nI_pos' (by omega), nI_lt h1 hn⟩
theorem eHas (h : gl H k n r u) (hn : n ≤ 5) (x : Int32) : FX2_has k x H = some (b01 (isS n x), H) := by
  unfold FX2_has
  have ht := isS_t (n := n) (x := x) (by omega)
  rcases pk_ix x (n := n) (by omega) with h1 | h1 | ⟨j, h3, rfl⟩
  · have hf : isS n x = false := by
      cases e : isS n x with
      | false => rfl
      | true =>
        obtain ⟨s, g1, rfl⟩ := ht.mp e
        exact absurd h1 (nI_pos (by omega))
    rw [if_pos h1, hf]
    rfl
  · have hf : isS n x = false := by
      cases e : isS n x with
      | false => rfl
      | true =>
        obtain ⟨s, g1, rfl⟩ := ht.mp e
        exact absurd h1 (nI_ge g1 (by omega))
    have hneg : ¬ x < 0 := by
      rw [fa_le, nI_toInt (by omega)] at h1
      rw [fa_lt]
      show ¬ x.toInt < 0
      omega
    rw [if_neg hneg, gl0 h, bd_some, if_pos h1, hf]
    rfl
  · rw [if_neg (nI_pos (by omega)), gl0 h, bd_some, if_neg (nI_ge h3 (by omega)), ht.mpr ⟨j, h3, rfl⟩]
    rfl
theorem mIsSquare {q : Nat} (hq : gA H q 9 2 = some p) (h : ml H p n r u) (h1 : 1 ≤ n) (hn : n ≤ 5) (x : Int32) : FX10_isSquare q x H = some (b01 (isS n x), H) := by
  unfold FX10_isSquare
  have he : decide ((0 : Int64) ≤ x.toInt64 ∧ x.toInt64 ≤ (nI n - 1).toInt64) = isS n x := by
    rw [show nI n - 1 = nI (n - 1) from pk_sub (b := 1) h1, nI_l (by omega)]
    have hi := in_int x 0 (n - 1) (by omega) (by omega)
    have ht := isS_t (n := n) (x := x) (by omega)
    cases e : isS n x with
    | true =>
      obtain ⟨s, g1, g2⟩ := ht.mp e
      exact decide_eq_true (hi.mpr ⟨s, by omega, by omega, g2⟩)
    | false =>
      refine decide_eq_false (fun q => ?_)
      obtain ⟨w, g1, g2, g3⟩ := hi.mp q
      rw [ht.mpr ⟨w, by omega, g3⟩] at e
      cases e
  rw [hq, bd_some, ml0 h, bd_some, eIn, bd2_some, he, gp_pos (b01_01 _)]
def movN (n r u i mv : Nat) : Nat := if mv = 1 then dg r i else if mv = 2 then dg (backN r n) i else if mv = 3 then dg u i else dg (backN u n) i
theorem mov_lt (hr : r ∈ P n) (hu : u ∈ P n) {i : Nat} (hi : i < n) (mv : Nat) : movN n r u i mv < n := by
  unfold movN
  split
  · exact P_dg hr hi
  · split
    · exact P_dg (P_back hr) hi
    · split
      · exact P_dg hu hi
      · exact P_dg (P_back hu) hi
theorem eMoved (h : gl H k n r u) (hr : r ∈ P n) (hu : u ∈ P n) {i mv : Nat} (hi : i < n) (hm : mv < 100) : FX2_moved k (nI i) (nI mv) H = some (nI (movN n r u i mv), H) := by
  unfold FX2_moved movN
  have hn := P_n hr
  have b1 := P_lt hr
  have b2 := P_lt hu
  have b3 := P_lt (P_back hr)
  have b4 := P_lt (P_back hu)
  by_cases e1 : mv = 1
  · rw [if_pos (by rw [e1]; rfl), if_pos e1, gl1 h, bd_some, eAt (by omega) (by omega), bd2_some]
  · rw [if_neg (show ¬ nI mv = 1 from fun q => e1 ((nI_eq (b := 1) (by omega) (by omega)).mp q)), if_neg e1]
    by_cases e2 : mv = 2
    · rw [if_pos (by rw [e2]; rfl), if_pos e2, gp_pos (glO h), eLeft h hr, bd2_some, eAt (by omega) (by omega), bd2_some]
    · rw [if_neg (show ¬ nI mv = 2 from fun q => e2 ((nI_eq (b := 2) (by omega) (by omega)).mp q)), if_neg e2]
      by_cases e3 : mv = 3
      · rw [if_pos (by rw [e3]; rfl), if_pos e3, gl2 h, bd_some, eAt (by omega) (by omega), bd2_some]
      · rw [if_neg (show ¬ nI mv = 3 from fun q => e3 ((nI_eq (b := 3) (by omega) (by omega)).mp q)), if_neg e3, gp_pos (glO h), eDown h hu, bd2_some, eAt (by omega) (by omega), bd2_some]
theorem mMoved (h : ml H p n r u) (hr : r ∈ P n) (hu : u ∈ P n) {i mv : Nat} (hi : i < n) (hm : mv < 100) : FX10_moved p (nI i) (nI mv) H = some (nI (movN n r u i mv), H) := by
  unfold FX10_moved movN
  have hn := P_n hr
  by_cases e1 : mv = 1
  · rw [if_pos (by rw [e1]; rfl), if_pos e1, mRight h hn.2 hi, bd2_some]
  · rw [if_neg (show ¬ nI mv = 1 from fun q => e1 ((nI_eq (b := 1) (by omega) (by omega)).mp q)), if_neg e1]
    by_cases e2 : mv = 2
    · rw [if_pos (by rw [e2]; rfl), if_pos e2, mLeft h hr hi, bd2_some]
    · rw [if_neg (show ¬ nI mv = 2 from fun q => e2 ((nI_eq (b := 2) (by omega) (by omega)).mp q)), if_neg e2]
      by_cases e3 : mv = 3
      · rw [if_pos (by rw [e3]; rfl), if_pos e3, mUp h hn.2 hi, bd2_some]
      · rw [if_neg (show ¬ nI mv = 3 from fun q => e3 ((nI_eq (b := 3) (by omega) (by omega)).mp q)), if_neg e3, mDown h hu hi, bd2_some]
-- ways
def wayL : Nat → Nat → Bool
  | 0, _ => true
  | m + 1, w => if w = 0 then true else decide (1 ≤ w % 10 ∧ w % 10 ≤ 4) && wayL m (w / 10)
theorem rI_nI {a d : Nat} (ha : a < 2 ^ 31) (h0 : 0 < d) (hd : d < 2 ^ 31) : rI (nI a) (nI d) = nI (a % d) := pk_rem ha h0 hd
theorem l_10 : (10 : Int32) = nI 10 := rfl
theorem eWayL (H : Hp) : ∀ (m d w : Nat), w < 10 ^ m → w < 10000 → m < d → fX9_isWay_16 d (nI w) H = some (b01 (wayL m w), H) := by
  intro m
  induction m with
  | zero =>
    intro d w h1 h2 hd
    obtain ⟨d, rfl⟩ : ∃ e, d = e + 1 := ⟨d - 1, by omega⟩
    show bX9_isWay_16 (fX9_isWay_16 d) _ H = _
    unfold bX9_isWay_16
    have hw : w = 0 := by
      have : w < 1 := h1
      omega
    subst hw
    rw [if_pos (by decide)]
    rfl
  | succ m ih =>
    intro d w h1 h2 hd
    obtain ⟨d, rfl⟩ : ∃ e, d = e + 1 := ⟨d - 1, by omega⟩
    show bX9_isWay_16 (fX9_isWay_16 d) _ H = _
    unfold bX9_isWay_16
    rw [wayL]
    by_cases e : w = 0
    · subst e
      rw [if_pos (by decide), if_pos rfl]
      rfl
    · rw [if_neg (nI_nle (by omega) (by omega)), if_neg e, l_10, rI_nI (by omega) (by omega) (by omega), pk_div (by omega) (by omega) (by omega)]
      by_cases e1 : w % 10 < 1
      · rw [if_pos (show nI (w % 10) < 1 from nI_lt (b := 1) e1 (by omega)), decide_eq_false (by omega), Bool.false_and]
        rfl
      · rw [if_neg (show ¬ nI (w % 10) < 1 from nI_nlt (b := 1) (by omega) (by omega))]
        by_cases e2 : w % 10 ≤ 4
        · rw [if_pos (show nI (w % 10) ≤ 4 from nI_le (b := 4) e2 (by omega)), decide_eq_true (by omega), Bool.true_and]
          refine ih d (w / 10) ?_ (by omega) (by omega)
          rw [Nat.pow_succ] at h1
          omega
        · rw [if_neg (show ¬ nI (w % 10) ≤ 4 from nI_ge (a := 4) (by omega) (by omega)), decide_eq_false (by omega), Bool.false_and]
          rfl
theorem mWayL (H : Hp) : ∀ (m d w : Nat) (a : Bool), w < 10 ^ m → w < 10000 → m < d → fX10_isWay_18 d (b01 a) (nI w) H = some (b01 (a && wayL m w), H) := by
  intro m
  induction m with
  | zero =>
    intro d w a h1 h2 hd
    obtain ⟨d, rfl⟩ : ∃ e, d = e + 1 := ⟨d - 1, by omega⟩
    show bX10_isWay_18 (fX10_isWay_18 d) _ _ H = _
    unfold bX10_isWay_18
    have hw : w = 0 := by
      have : w < 1 := h1
      omega
    subst hw
    rw [if_pos (by decide), gp_pos (b01_01 a), wayL, Bool.and_true]
  | succ m ih =>
    intro d w a h1 h2 hd
    obtain ⟨d, rfl⟩ : ∃ e, d = e + 1 := ⟨d - 1, by omega⟩
    show bX10_isWay_18 (fX10_isWay_18 d) _ _ H = _
    have hx : w / 10 < 10 ^ m := by
      rw [Nat.pow_succ] at h1
      omega
    have h46 : ∀ c : Bool, fX10_isWay_46 (fX10_isWay_18 d) (nI w) (b01 c) H = some (b01 (c && wayL m (w / 10)), H) := by
      intro c
      unfold fX10_isWay_46
      rw [l_10, pk_div (by omega) (by omega) (by omega)]
      exact ih d (w / 10) c hx (by omega) (by omega)
    have h45 : fX10_isWay_45 (fX10_isWay_18 d) (nI w) H = some (b01 false, H) := h46 false
    unfold bX10_isWay_18
    rw [wayL]
    by_cases e : w = 0
    · subst e
      rw [if_pos (by decide), gp_pos (b01_01 a), if_pos rfl, Bool.and_true]
    · rw [if_neg (nI_nle (by omega) (by omega)), if_neg e]
      cases a with
      | false => rw [if_pos (by decide), h45, Bool.false_and]
      | true =>
        have hd2 : decide ((1 : Int64) ≤ (nI (w % 10)).toInt64 ∧ (nI (w % 10)).toInt64 ≤ 4) = decide (1 ≤ w % 10 ∧ w % 10 ≤ 4) := by
          refine decide_eq_decide.mpr ?_
          have hi := in_int (nI (w % 10)) 1 4 (by omega) (by omega)
          refine hi.trans ⟨fun ⟨v, g1, g2, g3⟩ => ?_, fun ⟨g1, g2⟩ => ⟨w % 10, g1, g2, rfl⟩⟩
          have := (nI_eq (by omega) (by omega)).mp g3
          omega
        rw [if_neg (by decide), l_10, rI_nI (by omega) (by omega) (by omega), eIn, bd2_some, hd2, Bool.true_and]
        cases decide (1 ≤ w % 10 ∧ w % 10 ≤ 4) with
        | false => rw [if_pos (by decide), h45, Bool.false_and]
        | true =>
          rw [if_neg (by decide)]
          exact h46 true
/-- a way, as both see it -/
theorem isWay_both (x : Int32) : ∃ b : Bool, (∀ H, FX9_isWay x H = some (b01 b, H)) ∧ (∀ H, FX10_isWay x H = some (b01 b, H)) ∧ (b = true → ∃ w, x = nI w ∧ 1 ≤ w ∧ w ≤ 4444 ∧ wayL 5 w = true) := by
  by_cases h : ∃ w, 1 ≤ w ∧ w ≤ 4444 ∧ x = nI w
  · obtain ⟨w, h1, h2, rfl⟩ := h
    refine ⟨wayL 5 w, fun H => ?_, fun H => ?_, fun hb => ⟨w, rfl, h1, h2, hb⟩⟩
    · unfold FX9_isWay
      rw [if_neg (show ¬ nI w < 1 from nI_nlt (b := 1) h1 (by omega)), if_pos (show nI w ≤ 4444 from nI_le (b := 4444) h2 (by omega))]
      exact eWayL H 5 4096 w (by omega) (by omega) (by omega)
    · unfold FX10_isWay
      rw [eIn, bd2_some, show decide ((1 : Int64) ≤ (nI w).toInt64 ∧ (nI w).toInt64 ≤ 4444) = true from decide_eq_true ((in_int (nI w) 1 4444 (by omega) (by omega)).mpr ⟨w, h1, h2, rfl⟩), if_neg (by decide)]
      exact mWayL H 5 4096 w true (by omega) (by omega) (by omega)
  · refine ⟨false, fun H => ?_, fun H => ?_, fun hb => by cases hb⟩
    · unfold FX9_isWay
      by_cases g1 : x < 1
      · rw [if_pos g1]
        rfl
      · rw [if_neg g1]
        by_cases g2 : x ≤ 4444
        · exfalso
          rw [fa_lt] at g1
          rw [fa_le] at g2
          have e1 : (1 : Int32).toInt = 1 := by decide
          have e2 : (4444 : Int32).toInt = 4444 := by decide
          refine h ⟨x.toInt.toNat, by omega, by omega, ?_⟩
          rw [fa_eq, nI_toInt (by omega)]
          omega
        · rw [if_neg g2]
          rfl
    · unfold FX10_isWay
      rw [eIn, bd2_some, show decide ((1 : Int64) ≤ x.toInt64 ∧ x.toInt64 ≤ 4444) = false from decide_eq_false (fun q => h ((in_int x 1 4444 (by omega) (by omega)).mp q)), if_pos (by decide)]
      rfl
theorem way_dig0 : (allN 45 fun a => allN 100 fun b => !wayL 5 (100 * a + b) || allN 4 fun j => Nat.beq ((100 * a + b) / 10 ^ j % 10) 0 == Nat.beq ((100 * a + b) / 10 ^ j) 0) = true := by decide +kernel
def walkL (n r u w : Nat) : Nat → Nat → Nat
  | 0, s => s
  | m + 1, s => walkL n r u w m (if w / 10 ^ m % 10 = 0 then s else movN n r u s (w / 10 ^ m % 10))
theorem walk_lt (hr : r ∈ P n) (hu : u ∈ P n) (w : Nat) : ∀ (m s : Nat), s < n → walkL n r u w m s < n
  | 0, s, hs => hs
  | m + 1, s, hs => by
    rw [walkL]
    split
    · exact walk_lt hr hu w m s hs
    · exact walk_lt hr hu w m _ (mov_lt hr hu hs _)
theorem pow_lt5 : ∀ m, m < 5 → 10 ^ m < 2 ^ 31 ∧ 0 < 10 ^ m := by decide
theorem eWalkL (h : gl H k n r u) (hr : r ∈ P n) (hu : u ∈ P n) {w : Nat} (hw : w < 10000) : ∀ (m d s : Nat), m ≤ 4 → m < d → s < n → fX2_walked_7 d k (nI w) (nI s) (nI (10 ^ m / 10)) H = some (nI (walkL n r u w m s), H) := by
  intro m
  induction m with
  | zero =>
    intro d s hm hd hs
    obtain ⟨d, rfl⟩ : ∃ e, d = e + 1 := ⟨d - 1, by omega⟩
    show bX2_walked_7 (fX2_walked_7 d) _ _ _ _ H = _
    unfold bX2_walked_7
    rw [if_pos (by decide)]
    rfl
  | succ m ih =>
    intro d s hm hd hs
    obtain ⟨d, rfl⟩ : ∃ e, d = e + 1 := ⟨d - 1, by omega⟩
    show bX2_walked_7 (fX2_walked_7 d) _ _ _ _ H = _
    have hp := pow_lt5 m (by omega)
    have he : 10 ^ (m + 1) / 10 = 10 ^ m := by rw [Nat.pow_succ]; omega
    rw [he, walkL]
    have h34 : ∀ s, s < n → fX2_walked_34 (fX2_walked_7 d) k (nI w) (nI s) (nI (10 ^ m)) H = some (nI (walkL n r u w m s), H) := by
      intro s hs
      unfold fX2_walked_34
      rw [l_10, pk_div (by omega) (by omega) (by omega)]
      exact ih d s (by omega) (by omega) hs
    have hq : w / 10 ^ m < 10000 := Nat.lt_of_le_of_lt (Nat.div_le_self _ _) hw
    unfold bX2_walked_7
    rw [if_neg (nI_nle hp.2 hp.1), gp_pos (nI_ne0 hp.2 hp.1), pk_div (by omega) hp.2 hp.1, l_10, rI_nI (by omega) (by omega) (by omega)]
    by_cases e : w / 10 ^ m % 10 = 0
    · rw [if_pos (by rw [e]; decide), if_pos e]
      exact h34 s hs
    · rw [if_neg (nI_nle (by omega) (by omega)), if_neg e, gp_pos (glO h), eMoved h hr hu hs (by omega), bd2_some]
      exact h34 _ (mov_lt hr hu hs _)
theorem eWalked (h : gl H k n r u) (hr : r ∈ P n) (hu : u ∈ P n) {w s : Nat} (hw : w < 10000) (hs : s < n) : FX2_walked k (nI s) (nI w) H = some (nI (walkL n r u w 4 s), H) := by
  unfold FX2_walked
  exact eWalkL h hr hu hw 4 4096 s (by omega) (by omega) hs
theorem mEndL (h : ml H p n r u) (hr : r ∈ P n) (hu : u ∈ P n) {w : Nat} (hw : w < 10000) (hz : ∀ j, j < 4 → (w / 10 ^ j % 10 = 0 ↔ w / 10 ^ j = 0)) : ∀ (m d s : Nat), m ≤ 4 → m < d → s < n → fX10_end_7 d p (nI w) (nI s) (nI (10 ^ m / 10)) H = some (nI (walkL n r u w m s), H) := by
  intro m
  induction m with
  | zero =>
    intro d s hm hd hs
    obtain ⟨d, rfl⟩ : ∃ e, d = e + 1 := ⟨d - 1, by omega⟩
    show bX10_end_7 (fX10_end_7 d) _ _ _ _ H = _
    unfold bX10_end_7
    rw [if_pos (by decide)]
    rfl
  | succ m ih =>
    intro d s hm hd hs
    obtain ⟨d, rfl⟩ : ∃ e, d = e + 1 := ⟨d - 1, by omega⟩
    show bX10_end_7 (fX10_end_7 d) _ _ _ _ H = _
    have hp := pow_lt5 m (by omega)
    have he : 10 ^ (m + 1) / 10 = 10 ^ m := by rw [Nat.pow_succ]; omega
    rw [he, walkL]
    have h35 : ∀ s, s < n → fX10_end_35 (fX10_end_7 d) p (nI w) (nI (10 ^ m)) (nI s) H = some (nI (walkL n r u w m s), H) := by
      intro s hs
      unfold fX10_end_35
      rw [l_10, pk_div (by omega) (by omega) (by omega)]
      exact ih d s (by omega) (by omega) hs
    have hq : w / 10 ^ m < 10000 := Nat.lt_of_le_of_lt (Nat.div_le_self _ _) hw
    unfold bX10_end_7
    rw [if_neg (nI_nle hp.2 hp.1), gp_pos (nI_ne0 hp.2 hp.1), pk_div (by omega) hp.2 hp.1]
    by_cases e : w / 10 ^ m % 10 = 0
    · rw [if_pos (by rw [(hz m (by omega)).mp e]; decide), if_pos e]
      exact h35 s hs
    · have e2 : ¬ w / 10 ^ m = 0 := fun q => e ((hz m (by omega)).mpr q)
      rw [if_neg (nI_nle (Nat.pos_of_ne_zero e2) (by omega)), if_neg e, gp_pos (nI_ne0 hp.2 hp.1), l_10, rI_nI (by omega) (by omega) (by omega), mMoved h hr hu hs (by omega), bd2_some]
      exact h35 _ (mov_lt hr hu hs _)
theorem mEnd (h : ml H p n r u) (hr : r ∈ P n) (hu : u ∈ P n) {w s : Nat} (hw : w ≤ 4444) (hy : wayL 5 w = true) (hs : s < n) : FX10_end p (nI s) (nI w) H = some (nI (walkL n r u w 4 s), H) := by
  unfold FX10_end
  have q := allN_at (allN_at way_dig0 (w / 100) (by omega)) (w % 100) (by omega)
  rw [show 100 * (w / 100) + w % 100 = w by omega] at q
  rw [hy, Bool.not_true, Bool.false_or] at q
  refine mEndL h hr hu (by omega) (fun j hj => ?_) 4 4096 s (by omega) (by omega) hs
  have q2 := beq_iff_eq.mp (allN_at q j hj)
  rw [← Nat.beq_eq, ← Nat.beq_eq, q2]
-- holes
def holesL (c n S : Nat) : Nat → Nat → Nat → Nat → Nat
  | 0, _, _, a => a
  | m + 1, i, b, a => if S.testBit i && !b.testBit i then holesL c n S m (i + 1) (b ||| ringN c n i 0) (a + (popc (ringN c n i 0) - 1)) else holesL c n S m (i + 1) b a
theorem holes0 : (allN 6 fun n => (P n).all fun c => allN (2 ^ n) fun S => !(allN n fun k => !S.testBit k || S.testBit (dg c k)) || (Nat.beq (holesL c n S n 0 0 2 + cornL c S n 0 0) (2 + popc S))) = true := by decide +kernel
theorem popc_ring0 : (allN 6 fun n => (P n).all fun c => allN n fun i => Nat.blt 0 (popc (ringN c n i 0))) = true := by decide +kernel
theorem popc_ring {c : Nat} (hc : c ∈ P n) {i : Nat} (hi : i < n) : 0 < popc (ringN c n i 0) := by
  have hn := P_n hc
  have q := allN_at (List.all_eq_true.mp (allN_at popc_ring0 n (by omega)) c hc) i hi
  simpa using q
theorem eHolesL (h : gl H k n r u) (hr : r ∈ P n) (hu : u ∈ P n) {S : Nat} (hS : S < 65536) : ∀ (m i d b a : Nat), i + m = n → m < d → b < 256 → a < 10000 - m * 10 → fX2_holes_20 d k (nI S) (nI (cN n r u)) (nI b) (nI a) (nI i) H = some (nI (holesL (cN n r u) n S m i b a / 2), H) := by
  have hn := P_n hr
  have b3 := P_lt (P_c hr hu)
  intro m
  induction m with
  | zero =>
    intro i d b a hk hd hb ha
    obtain ⟨d, rfl⟩ : ∃ e, d = e + 1 := ⟨d - 1, by omega⟩
    show bX2_holes_20 (fX2_holes_20 d) _ _ _ _ _ _ H = _
    unfold bX2_holes_20
    rw [gl0 h, bd_some, if_pos (nI_le (by omega) (by omega)), l_2, pk_div (by omega) (by omega) (by omega)]
    rfl
  | succ m ih =>
    intro i d b a hk hd hb ha
    obtain ⟨d, rfl⟩ : ∃ e, d = e + 1 := ⟨d - 1, by omega⟩
    show bX2_holes_20 (fX2_holes_20 d) _ _ _ _ _ _ H = _
    unfold bX2_holes_20
    have hl := ring_lt (cN n r u) n i 0 (by omega) (by omega)
    have hp := popc_le _ hl
    have hp0 := popc_ring (P_c hr hu) (i := i) (by omega)
    rw [gl0 h, bd_some, if_neg (nI_ge (by omega) (by omega)), eIsIn hS (by omega), bd2_some, holesL]
    by_cases e1 : S.testBit i = true
    · rw [bit01_t e1, if_neg (by decide), eIsIn (by omega) (by omega), bd2_some, e1]
      by_cases e2 : b.testBit i = true
      · rw [bit01_t e2, if_neg (by decide), nI_1, e2]
        exact ih (i + 1) d b a (by omega) (by omega) hb (by omega)
      · have e3 : b.testBit i = false := by simpa using e2
        rw [bit01_f e2, if_pos rfl, gl0 h, bd_some, eRing (by omega) (by omega) (by omega), bd2_some, eBits hl, bd2_some, fa_or, nI_1, show (1 : Int32) = nI 1 from rfl, pk_sub (by omega), nI_add, e3]
        exact ih (i + 1) d _ _ (by omega) (by omega) (or_lt256' hb hl) (by omega)
    · have e3 : S.testBit i = false := by simpa using e1
      rw [bit01_f e1, if_pos rfl, nI_1, e3]
      exact ih (i + 1) d b a (by omega) (by omega) hb (by omega)

def holesN (n r u s : Nat) : Nat := holesL (cN n r u) n (pieceN n r u s) n 0 0 2 / 2
theorem eHoles (h : gl H k n r u) (hr : r ∈ P n) (hu : u ∈ P n) {s : Nat} (hs : s < n) : FX2_holes k (nI s) H = some (nI (holesN n r u s), H) := by
  unfold FX2_holes
  have hn := P_n hr
  have hl := lt32 hn.2 (pieceN_lt hr hu hs)
  rw [gp_pos (glO h), ePiece h hr hu (by omega), bd2_some, gp_pos (glO h), eTurned h hr hu, bd2_some]
  exact eHolesL h hr hu (by omega) n 0 4096 0 2 (by omega) (by omega) (by omega) (by omega)
def onesL (b : Nat) : Nat → Nat → Nat → Nat
  | 0, _, a => a
  | m + 1, k, a => onesL b m (k + 1) (a + ((b >>> k) &&& 1))
theorem mOnesL {b : Nat} (hb : b < 65536) (H : Hp) : ∀ (m k d a : Nat), k + m = 5 → m < d → fX10_ones_4 d (nI b) (nI a) (nI k) H = some (nI (onesL b m k a), H) := by
  intro m
  induction m with
  | zero =>
    intro k d a hk hd
    obtain ⟨d, rfl⟩ : ∃ e, d = e + 1 := ⟨d - 1, by omega⟩
    show bX10_ones_4 (fX10_ones_4 d) _ _ _ H = _
    unfold bX10_ones_4
    rw [l_5, if_pos (nI_le (by omega) (by omega))]
    rfl
  | succ m ih =>
    intro k d a hk hd
    obtain ⟨d, rfl⟩ : ∃ e, d = e + 1 := ⟨d - 1, by omega⟩
    show bX10_ones_4 (fX10_ones_4 d) _ _ _ H = _
    unfold bX10_ones_4
    rw [l_5, if_neg (nI_ge (by omega) (by omega)), pk_shrN (by omega) _ k (s_l k (by omega)), ← Nat.shiftRight_eq_div_pow, show (1 : Int32) = nI 1 from rfl, fa_and, nI_add, nI_add]
    exact ih (k + 1) d _ (by omega) (by omega)
theorem ones_popc0 : ∀ b, b < 32 → onesL b 5 0 0 = popc b := by decide +kernel
theorem mOnes {b : Nat} (hb : b < 32) (H : Hp) : FX10_ones (nI b) H = some (nI (popc b), H) := by
  unfold FX10_ones
  rw [← ones_popc0 b hb]
  exact mOnesL (by omega) H 5 0 4096 0 (by omega) (by omega)
theorem piece_c (hr : r ∈ P n) (hu : u ∈ P n) {s : Nat} (hs : s < n) : ∀ k, k < n → (pieceN n r u s).testBit k = true → (pieceN n r u s).testBit (dg (cN n r u) k) = true := by
  have hn := P_n hr
  have hp := popc_one s (by omega)
  have c1 : Cls n (spP r u (2 ^ n - 1) 0) (pieceN n r u s) := by
    unfold pieceN
    rw [reach_itr hr hu _ _ hs]
    exact itr_cls (sysP hr hu (2 ^ n - 1) 0) 5 _ (two_lt hs) (by omega)
  obtain ⟨-, g⟩ := (clsP_all hr hu).mp c1
  intro k hk h
  have i1 := P_dg hr hk
  have i2 := P_dg hu i1
  have i3 := P_dg (P_back hr) i2
  have i4 := P_dg (P_back hu) i3
  rw [dg_c hr hu hk]
  have h1 := (g k hk).1.mp h
  have h2 := (g _ i1).2.mp h1
  have h3 := (g _ i3).1.mpr (by rw [(dg_back hr i2).2]; exact h2)
  exact (g _ i4).2.mpr (by rw [(dg_back hu i3).2]; exact h3)
theorem holes_eq (hr : r ∈ P n) (hu : u ∈ P n) {s : Nat} (hs : s < n) : holesL (cN n r u) n (pieceN n r u s) n 0 0 2 + cornL (cN n r u) (pieceN n r u s) n 0 0 = 2 + popc (pieceN n r u s) := by
  have hn := P_n hr
  have q := allN_at (List.all_eq_true.mp (allN_at holes0 n (by omega)) _ (P_c hr hu)) _ (pieceN_lt hr hu hs)
  have h1 : (allN n fun k => !(pieceN n r u s).testBit k || (pieceN n r u s).testBit (dg (cN n r u) k)) = true := allN_of (fun k hk => by
    cases h2 : (pieceN n r u s).testBit k with
    | false => rfl
    | true => rw [piece_c hr hu hs k hk h2]; rfl)
  rw [h1, Bool.not_true, Bool.false_or] at q
  exact Nat.eq_of_beq_eq_true q
theorem mHoles (h : ml H p n r u) (hr : r ∈ P n) (hu : u ∈ P n) {s : Nat} (hs : s < n) : FX10_holes p (nI s) H = some (nI (holesN n r u s), H) := by
  unfold FX10_holes holesN
  have hn := P_n hr
  have hl := lt32 hn.2 (pieceN_lt hr hu hs)
  have he := holes_eq hr hu hs
  have hp := popc_le _ (show pieceN n r u s < 256 by omega)
  rw [mPieceOf h hr hu hs, bd2_some, mOnes hl, bd2_some, mCorners h hr hu (by omega), bd2_some, l_2, nI_add, pk_sub (by omega), pk_div (by omega) (by omega) (by omega)]
  rw [show 2 + popc (pieceN n r u s) - cornL (cN n r u) (pieceN n r u s) n 0 0 = holesL (cN n r u) n (pieceN n r u s) n 0 0 2 by omega]
end HM
