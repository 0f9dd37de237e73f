/-! Fractions; what hangs together when seams are open. -/
def euN : Nat → Nat → Nat → Option Nat
  | 0, x, y => if y = 0 then some x else none
  | f + 1, x, y => if y = 0 then some x else euN f y (x % y)
theorem eu_ok : ∀ (k f x y : Nat), y < 2 ^ k → 2 * k ≤ f → ∃ g, euN f x y = some g
  | 0, f, x, y, hy, hf => by
    have : y = 0 := by
      rw [Nat.pow_zero] at hy
      omega
    cases f with
    | zero => exact ⟨x, if_pos this⟩
    | succ f => exact ⟨x, if_pos this⟩
  | k + 1, f, x, y, hy, hf => by
    obtain ⟨f, rfl⟩ : ∃ e, f = e + 2 := ⟨f - 2, by omega⟩
    by_cases h0 : y = 0
    · exact ⟨x, if_pos h0⟩
    · show ∃ g, (if y = 0 then some x else euN (f + 1) y (x % y)) = some g
      rw [if_neg h0]
      have h1 : x % y < y := Nat.mod_lt _ (by omega)
      by_cases h2 : x % y = 0
      · exact ⟨y, if_pos h2⟩
      · show ∃ g, (if x % y = 0 then some y else euN f (x % y) (y % (x % y))) = some g
        rw [if_neg h2]
        refine eu_ok k f (x % y) (y % (x % y)) ?_ (by omega)
        revert h1 h2
        generalize x % y = z
        intro h1 h2
        have h3 : y % z < z := Nat.mod_lt _ (by omega)
        have h4 : y % z ≤ y - z := by
          rw [Nat.mod_eq_sub_mod (by omega)]
          exact Nat.mod_le _ _
        rw [Nat.pow_succ] at hy
        omega
theorem eu_pos : ∀ (f x y g : Nat), 0 < x ∨ 0 < y → euN f x y = some g → 0 < g ∧ (g ≤ x ∨ g ≤ y)
  | 0, x, y, g, h, e => by
    unfold euN at e
    by_cases h0 : y = 0
    · rw [if_pos h0] at e
      cases e
      omega
    · rw [if_neg h0] at e
      cases e
  | f + 1, x, y, g, h, e => by
    unfold euN at e
    by_cases h0 : y = 0
    · rw [if_pos h0] at e
      cases e
      omega
    · rw [if_neg h0] at e
      have h2 : x % y < y := Nat.mod_lt _ (by omega)
      have := eu_pos f y (x % y) g (by omega) e
      omega
theorem eMeas (H : Hp) : ∀ (q i d x y g : Nat), euN q x y = some g → i + q ≤ 100 → q < d → x < 2 ^ 31 → y < 2 ^ 31 → fX1_measure_7 d (nI x) (nI y) (nI i) H = some (nI g, H)
  | 0, i, d, x, y, g, h, hq, hd, hx, hy => by
    obtain ⟨d, rfl⟩ : ∃ e, d = e + 1 := ⟨d - 1, by omega⟩
    show bX1_measure_7 (fX1_measure_7 d) _ _ _ H = _
    unfold euN at h
    by_cases h0 : y = 0
    · rw [if_pos h0] at h
      cases h
      unfold bX1_measure_7
      rw [h0]
      split
      · rfl
      · rw [if_pos (show nI 0 = 0 from rfl)]
    · rw [if_neg h0] at h
      cases h
  | q + 1, i, d, x, y, g, h, hq, hd, hx, hy => by
    obtain ⟨d, rfl⟩ : ∃ e, d = e + 1 := ⟨d - 1, by omega⟩
    show bX1_measure_7 (fX1_measure_7 d) _ _ _ H = _
    unfold euN at h
    unfold bX1_measure_7
    rw [if_neg (show ¬ (100 : Int32) ≤ nI i from nI_ge (b := 100) (by omega) (by decide))]
    by_cases h0 : y = 0
    · rw [if_pos h0] at h
      cases h
      rw [h0, if_pos (show nI 0 = 0 from rfl)]
    · rw [if_neg h0] at h
      have h2 : x % y < y := Nat.mod_lt _ (by omega)
      rw [if_neg (nI_ne0 (by omega) hy), gp_pos (nI_ne0 (by omega) hy), rI_nI hx (by omega) hy, nI_1]
      exact eMeas H q (i + 1) d y (x % y) g h (by omega) (by omega) hy (by omega)
theorem mDivi (H : Hp) : ∀ (q d x y g : Nat), euN q x y = some g → q < d → x < 2 ^ 31 → y < 2 ^ 31 → fX10_divisor_13 d (nI x) (nI y) H = some (nI g, H)
  | 0, d, x, y, g, h, hd, hx, hy => by
    obtain ⟨d, rfl⟩ : ∃ e, d = e + 1 := ⟨d - 1, by omega⟩
    show bX10_divisor_13 (fX10_divisor_13 d) _ _ H = _
    unfold euN at h
    by_cases h0 : y = 0
    · rw [if_pos h0] at h
      cases h
      unfold bX10_divisor_13
      rw [h0, if_pos (show nI 0 = 0 from rfl)]
    · rw [if_neg h0] at h
      cases h
  | q + 1, d, x, y, g, h, hd, hx, hy => by
    obtain ⟨d, rfl⟩ : ∃ e, d = e + 1 := ⟨d - 1, by omega⟩
    show bX10_divisor_13 (fX10_divisor_13 d) _ _ H = _
    unfold euN at h
    unfold bX10_divisor_13
    by_cases h0 : y = 0
    · rw [if_pos h0] at h
      cases h
      rw [h0, if_pos (show nI 0 = 0 from rfl)]
    · rw [if_neg h0] at h
      have h2 : x % y < y := Nat.mod_lt _ (by omega)
      rw [if_neg (nI_ne0 (by omega) hy), gp_pos (nI_ne0 (by omega) hy), rI_nI hx (by omega) hy]
      exact mDivi H q d y (x % y) g h (by omega) hy (by omega)
/-- a number near 0, and how far -/
theorem near_abs {a : Int32} {A B : Nat} (hA : A < 2 ^ 25) (hB : B < 2 ^ 25) (ha : a = nI A - nI B) : ∃ X, X < 2 ^ 25 ∧ (if 0 ≤ a then a else 0 - a) = nI X ∧ (if 0 ≤ a then a else -a) = nI X := by
  have hi : a.toInt = (A : Int) - B := by rw [ha]; exact pk_sub_toInt (by omega) (by omega)
  by_cases h : B ≤ A
  · have : a = nI (A - B) := by rw [ha]; exact pk_sub h
    have h0 : 0 ≤ a := by rw [this]; exact nI_pos' (by omega)
    refine ⟨A - B, by omega, ?_, ?_⟩
    · rw [if_pos h0]; exact this
    · rw [if_pos h0]; exact this
  · have h0 : ¬ 0 ≤ a := by
      rw [fa_le, hi]
      show ¬ (0 : Int) ≤ (A : Int) - B
      omega
    have e : -a = nI (B - A) := by
      rw [ha, ← pk_sub (show A ≤ B by omega), Int32.neg_sub]
    refine ⟨B - A, by omega, ?_, ?_⟩
    · rw [if_neg h0, Int32.zero_sub]; exact e
    · rw [if_neg h0]; exact e
theorem fz1 (c : CS) (x y : Int32) : (c.zfa x).zfz y = (c.zfz y).zfa x := rfl
/-- both halves tell the same fraction -/
theorem frac_both {a : Int32} {A B b : Nat} (hA : A < 2 ^ 25) (hB : B < 2 ^ 25) (ha : a = nI A - nI B) (hb : 0 < b) (hb2 : b < 2 ^ 25) (v : Int32) (c : CS) (m : MS) : ∃ r x y, FX1_become 21 a (nI b) (hp c m) = some ((), hp ((c.zfa x).zfz y) m) ∧ FX1_told 21 v (hp ((c.zfa x).zfz y) m) = some (r, hp ((c.zfa x).zfz y) m) ∧ ∀ H, FX10_fraction a (nI b) v H = some (r, H) := by
  obtain ⟨X, hX, e1, e2⟩ := near_abs hA hB ha
  obtain ⟨g, hg⟩ := eu_ok 25 60 X b hb2 (by omega)
  have hgp := eu_pos 60 X b g (.inr hb) hg
  have hm : ∀ H, FX1_measure (nI X) (nI b) H = some (nI g, H) := fun H => by
    unfold FX1_measure
    exact eMeas H 60 0 4096 X b g hg (by omega) (by omega) (by omega) (by omega)
  have hd : ∀ H, FX10_divisor a (nI b) H = some (nI g, H) := fun H => by
    unfold FX10_divisor
    have : (if 0 ≤ a then fX10_divisor_13 4096 a (nI b) H else fX10_divisor_13 4096 (-a) (nI b) H) = fX10_divisor_13 4096 (if 0 ≤ a then a else -a) (nI b) H := by split <;> rfl
    rw [this, e2]
    exact mDivi H 60 4096 X b g hg (by omega) (by omega) (by omega)
  have hg0 : ¬ nI g = 0 := nI_ne0 hgp.1 (by omega)
  have hmod : ∀ H, FX10_fraction a (nI b) v H = some (if v = 0 then nI b / nI g else a / nI g, H) := fun H => by
    unfold FX10_fraction
    rw [hd, bd2_some, gp_pos hg0, gp_pos hg0]
    split <;> rfl
  refine ⟨if v = 0 then nI b / nI g else a / nI g, a / nI g, nI b / nI g, ?_, ?_, hmod⟩
  · unfold FX1_become
    rw [e1, hm, bd2_some]
    by_cases h1 : g ≤ 1
    · have : g = 1 := by omega
      subst this
      rw [if_pos (show nI 1 ≤ 1 from by decide)]
      unfold fX1_become_22 fX1_become_38
      rw [hp21_0, bd_some, if_pos (show nI 1 ≤ 1 from by decide), hp21_1, bd_some, show nI 1 = 1 from rfl, Int32.div_one, Int32.div_one]
    · rw [if_neg (show ¬ nI g ≤ 1 from nI_ge (a := 1) (by omega) (by omega)), gp_pos hg0]
      unfold fX1_become_22 fX1_become_38
      rw [hp21_0, bd_some, if_neg (show ¬ nI g ≤ 1 from nI_ge (a := 1) (by omega) (by omega)), gp_pos hg0, hp21_1, bd_some]
  · unfold FX1_told
    by_cases hv : v = 0
    · rw [if_pos hv, hI21_1, bd_some, if_pos hv]
    · rw [if_neg hv, hI21_0, bd_some, if_neg hv]
-- what hangs together
theorem not32 : (allN 32 fun a => allN 32 fun b => decide (nI a &&& (nI b ^^^ (-1)) = nI (wo a b 5)) && (decide (wo a b 5 = 0) == decide (a &&& b = a))) = true := by decide +kernel
theorem not_at {a b : Nat} (ha : a < 32) (hb : b < 32) : nI a &&& (nI b ^^^ (-1)) = nI (wo a b 5) ∧ (wo a b 5 = 0 ↔ a &&& b = a) := by
  have h := allN_at (allN_at not32 a ha) b hb
  rw [Bool.and_eq_true] at h
  refine ⟨of_decide_eq_true h.1, ?_⟩
  have h2 : decide (wo a b 5 = 0) = decide (a &&& b = a) := eq_of_beq h.2
  exact decide_eq_decide.mp h2
section HG
variable {H : Hp} {p n r u : Nat}
theorem wo5_lt {a b : Nat} (ha : a < 32) : wo a b 5 < 32 := wo_lt (n := 5) ha
theorem mHangI (h : ml H p n r u) (hr : r ∈ P n) (hu : u ∈ P n) {come opn : Nat} (hc : come < 32) (ho : opn < 32) {K8 : Nat → Int32 → Int32 → Int32 → Int32 → Hp → Option (Int32 × Hp)} {t : Nat} : ∀ (q i d b : Nat), i + q = n → q < d → b < 32 → fX10_hanging_17 K8 d p (nI come) (nI opn) (nI b) (nI t) (nI i) H = K8 p (nI come) (nI opn) (nI (up (stepN r u come opn) i q b)) (nI (t + 1)) H := by
  have hn := P_n hr
  intro q
  induction q with
  | zero =>
    intro i d b hk hd hb
    obtain ⟨d, rfl⟩ : ∃ e, d = e + 1 := ⟨d - 1, by omega⟩
    show bX10_hanging_17 K8 (fX10_hanging_17 K8 d) _ _ _ _ _ _ H = _
    unfold bX10_hanging_17
    rw [ml0 h, bd_some, if_pos (nI_le (by omega) (by omega)), nI_1]
    rfl
  | succ q ih =>
    intro i d b hk hd hb
    obtain ⟨d, rfl⟩ : ∃ e, d = e + 1 := ⟨d - 1, by omega⟩
    have d1 := P_dg hr (i := i) (by omega)
    have d2 := P_dg hu (i := i) (by omega)
    have hA : pair i (dg r i) < 32 := lt32 hn.2 (pairn_lt (by omega) d1)
    have hB : pair i (dg u i) < 32 := lt32 hn.2 (pairn_lt (by omega) d2)
    have or32 : ∀ {a b : Nat}, a < 32 → b < 32 → a ||| b < 32 := fun h1 h2 => Nat.or_lt_two_pow (n := 5) h1 h2
    have j32 : ∀ {b A : Nat}, b < 32 → A < 32 → joinN b A come < 32 := by
      intro b A h1 h2
      unfold joinN
      split
      · split
        · exact h1
        · exact or32 h1 h2
      · exact h1
    have h89 : ∀ (b1 : Nat) (x : Int32) (b2 : Nat), nI b1 ||| x = nI b2 → b2 < 32 → fX10_hanging_89 K8 (fX10_hanging_17 K8 d) p (nI come) (nI opn) (nI t) (nI i) (nI (pair i (dg u i))) (nI b1) x H = K8 p (nI come) (nI opn) (nI (up (stepN r u come opn) (i + 1) q (joinN b2 (pair i (dg u i)) come))) (nI (t + 1)) H := by
      intro b1 x b2 e hb2
      unfold fX10_hanging_89 fX10_hanging_116
      have hn1 := not_at hB hc
      rw [e, hn1.1, fa_and, nI_or0, nI_1, fa_or]
      unfold joinN
      by_cases q1 : pair i (dg u i) &&& come = pair i (dg u i)
      · rw [if_pos ((nz (by have := wo5_lt (b := come) hB; omega)).mpr (hn1.2.mpr q1)), if_pos q1]
        have hl : b2 &&& pair i (dg u i) < 32 := Nat.lt_of_le_of_lt Nat.and_le_left hb2
        rw [Nat.and_comm (pair i (dg u i)) b2]
        by_cases q2 : b2 &&& pair i (dg u i) = 0
        · rw [if_pos ((nz (by omega)).mpr q2), if_pos q2]
          exact ih (i + 1) d b2 (by omega) (by omega) hb2
        · rw [if_neg (fun q => q2 ((nz (by omega)).mp q)), if_neg q2]
          exact ih (i + 1) d _ (by omega) (by omega) (or32 hb2 hB)
      · rw [if_neg (fun q => q1 (hn1.2.mp ((nz (by have := wo5_lt (b := come) hB; omega)).mp q))), if_neg q1]
        exact ih (i + 1) d b2 (by omega) (by omega) hb2
    show bX10_hanging_17 K8 (fX10_hanging_17 K8 d) _ _ _ _ _ _ H = _
    unfold bX10_hanging_17 fX10_hanging_88
    have hn1 := not_at hA hc
    rw [ml0 h, bd_some, if_neg (nI_ge (by omega) (by omega)), mRight h hn.2 (by omega), bd2_some, mUp h hn.2 (by omega), bd2_some, mHas (by omega) (by omega), bd2_some, shl1 (by omega), shl1 (by omega), shl1 (by omega), fa_or, fa_or, show (1 <<< i) ||| (1 <<< dg r i) = pair i (dg r i) from rfl, show (1 <<< i) ||| (1 <<< dg u i) = pair i (dg u i) from rfl, hn1.1, fa_and]
    show _ = K8 p (nI come) (nI opn) (nI (up (stepN r u come opn) (i + 1) q (stepN r u come opn i b))) (nI (t + 1)) H
    unfold stepN
    cases eo : opn.testBit i with
    | true =>
      rw [bit01_t eo, if_neg (by decide), if_pos rfl]
      exact h89 b 0 b (nI_or0 b) hb
    | false =>
      rw [bit01_f (by rw [eo]; decide), if_pos rfl, if_neg (show ¬ false = true from by decide)]
      by_cases q1 : pair i (dg r i) &&& come = pair i (dg r i)
      · rw [if_pos ((nz (by have := wo5_lt (b := come) hA; omega)).mpr (hn1.2.mpr q1))]
        have hl : b &&& pair i (dg r i) < 32 := Nat.lt_of_le_of_lt Nat.and_le_left hb
        by_cases q2 : b &&& pair i (dg r i) = 0
        · rw [if_pos ((nz (by omega)).mpr q2), show joinN b (pair i (dg r i)) come = b from by unfold joinN; rw [if_pos q1, Nat.and_comm, if_pos q2]]
          exact h89 b 0 b (nI_or0 b) hb
        · rw [if_neg (fun q => q2 ((nz (by omega)).mp q)), show joinN b (pair i (dg r i)) come = b ||| pair i (dg r i) from by unfold joinN; rw [if_pos q1, Nat.and_comm, if_neg q2]]
          exact h89 b (nI (pair i (dg r i))) (b ||| pair i (dg r i)) (fa_or _ _) (or32 hb hA)
      · rw [if_neg (fun q => q1 (hn1.2.mp ((nz (by have := wo5_lt (b := come) hA; omega)).mp q))), show joinN b (pair i (dg r i)) come = b from by unfold joinN; rw [if_neg q1]]
        exact h89 b 0 b (nI_or0 b) hb
theorem mHangO (h : ml H p n r u) (hr : r ∈ P n) (hu : u ∈ P n) {come opn : Nat} (hc : come < 32) (ho : opn < 32) : ∀ (q t d b : Nat), t + q = 5 → q < d → b < 2 ^ n → fX10_hanging_8 d p (nI come) (nI opn) (nI b) (nI t) H = some (nI (itr n (spP r u come opn) q b), H) := by
  have hn := P_n hr
  intro q
  induction q with
  | zero =>
    intro t d b hk hd hb
    obtain ⟨d, rfl⟩ : ∃ e, d = e + 1 := ⟨d - 1, by omega⟩
    show bX10_hanging_8 (fX10_hanging_8 d) _ _ _ _ _ H = _
    unfold bX10_hanging_8
    rw [if_pos (show (5 : Int32) ≤ nI t from nI_le (a := 5) (by omega) (by omega))]
    rfl
  | succ q ih =>
    intro t d b hk hd hb
    obtain ⟨d, rfl⟩ : ∃ e, d = e + 1 := ⟨d - 1, by omega⟩
    show bX10_hanging_8 (fX10_hanging_8 d) _ _ _ _ _ H = _
    unfold bX10_hanging_8
    rw [if_neg (show ¬ (5 : Int32) ≤ nI t from nI_ge (b := 5) (by omega) (by decide)), show (0 : Int32) = nI 0 from rfl, mHangI h hr hu hc ho n 0 4096 b (by omega) (by omega) (lt32 hn.2 hb), step_fun]
    exact ih (t + 1) d _ (by omega) (by omega) (up_grow (sysP hr hu come opn) n 0 b (by omega) hb).2
theorem mHang (h : ml H p n r u) (hr : r ∈ P n) (hu : u ∈ P n) {s come opn : Nat} (hs : s < n) (hc : come < 32) (ho : opn < 32) : FX10_hanging p (nI s) (nI come) (nI opn) H = some (nI (reachN n r u s come opn), H) := by
  have hn := P_n hr
  unfold FX10_hanging
  rw [shl1 (by omega), reach_itr hr hu come opn hs]
  exact mHangO h hr hu hc ho 5 0 4096 (1 <<< s) (by omega) (by omega) (two_lt hs)
def fallL (n r u come opn : Nat) : Nat → Nat → Nat → Nat → Nat
  | 0, _, _, c => c
  | q + 1, i, l, c => if l.testBit i then fallL n r u come opn q (i + 1) (wo l (reachN n r u i come opn) 5) (c + 1) else fallL n r u come opn q (i + 1) l c
theorem reach32 (hr : r ∈ P n) (hu : u ∈ P n) {s come opn : Nat} (hs : s < n) : reachN n r u s come opn < 32 := by
  rw [reach_itr hr hu come opn hs]
  exact lt32 (P_n hr).2 (itr_grow (sysP hr hu come opn) 5 (1 <<< s) (two_lt hs)).2
theorem mFallL (h : ml H p n r u) (hr : r ∈ P n) (hu : u ∈ P n) {come opn : Nat} (hc : come < 32) (ho : opn < 32) : ∀ (q i d l a : Nat), i + q = n → q < d → l < 32 → fX10_fallen_8 d p (nI come) (nI opn) (nI l) (nI a) (nI i) H = some (nI (fallL n r u come opn q i l a), H) := by
  have hn := P_n hr
  intro q
  induction q with
  | zero =>
    intro i d l a hk hd hl
    obtain ⟨d, rfl⟩ : ∃ e, d = e + 1 := ⟨d - 1, by omega⟩
    show bX10_fallen_8 (fX10_fallen_8 d) _ _ _ _ _ _ H = _
    unfold bX10_fallen_8
    rw [ml0 h, bd_some, if_pos (nI_le (by omega) (by omega))]
    rfl
  | succ q ih =>
    intro i d l a hk hd hl
    obtain ⟨d, rfl⟩ : ∃ e, d = e + 1 := ⟨d - 1, by omega⟩
    show bX10_fallen_8 (fX10_fallen_8 d) _ _ _ _ _ _ H = _
    unfold bX10_fallen_8
    rw [ml0 h, bd_some, if_neg (nI_ge (by omega) (by omega)), mHas (by omega) (by omega), bd2_some, nI_1]
    show _ = some (nI (if l.testBit i then fallL n r u come opn q (i + 1) (wo l (reachN n r u i come opn) 5) (a + 1) else fallL n r u come opn q (i + 1) l a), H)
    cases e : l.testBit i with
    | true =>
      rw [bit01_t e, if_neg (by decide), mHang h hr hu (by omega) hc ho, bd2_some, (not_at hl (reach32 hr hu (by omega))).1, nI_1, ih (i + 1) d _ _ (by omega) (by omega) (wo5_lt hl), if_pos rfl]
    | false => rw [bit01_f (by rw [e]; decide), if_pos rfl, ih (i + 1) d l a (by omega) (by omega) hl, if_neg (by decide)]
theorem mFallen (h : ml H p n r u) (hr : r ∈ P n) (hu : u ∈ P n) {come opn : Nat} (hc : come < 32) (ho : opn < 32) : FX10_fallen p (nI come) (nI opn) H = some (nI (fallL n r u come opn n 0 come 0), H) := by
  have hn := P_n hr
  unfold FX10_fallen
  exact mFallL h hr hu hc ho n 0 4096 come 0 (by omega) (by omega) hc
/-- with no seam open: as many as the class counts -/
theorem fall_pieces (hr : r ∈ P n) (hu : u ∈ P n) {come : Nat} : ∀ (q i l b a : Nat), i + q = n → l < 32 → (∀ j, l.testBit j = (come.testBit j && !b.testBit j)) → fallL n r u come 0 q i l a = piecesL n r u come q i b a
  | 0, i, l, b, a, _, _, _ => rfl
  | q + 1, i, l, b, a, hq, hl, h => by
    unfold fallL piecesL
    rw [h i]
    cases (come.testBit i && !b.testBit i) with
    | true =>
      rw [if_pos rfl, if_pos rfl]
      refine fall_pieces hr hu q (i + 1) _ _ _ (by omega) (wo5_lt hl) (fun j => ?_)
      rw [wo_bit (n := 5) hl, h j, Nat.testBit_or, Bool.not_or, Bool.and_assoc]
    | false =>
      rw [if_neg (by decide), if_neg (by decide)]
      exact fall_pieces hr hu q (i + 1) l b a (by omega) hl h
theorem fall0 (hr : r ∈ P n) (hu : u ∈ P n) {come : Nat} (hc : come < 32) : fallL n r u come 0 n 0 come 0 = piecesN n r u come := fall_pieces hr hu n 0 come 0 0 (by omega) hc (fun j => by rw [Nat.zero_testBit, Bool.not_false, Bool.and_true])
theorem fall_ge {come opn : Nat} : ∀ (q i l a : Nat), a ≤ fallL n r u come opn q i l a
  | 0, _, _, _ => Nat.le_refl _
  | q + 1, i, l, a => by
    unfold fallL
    split
    · exact Nat.le_trans (Nat.le_succ a) (fall_ge q (i + 1) _ (a + 1))
    · exact fall_ge q (i + 1) l a
theorem fall_eq {come opn : Nat} : ∀ (q i l a : Nat), fallL n r u come opn q i l a = a ↔ ∀ j, i ≤ j → j < i + q → l.testBit j = false
  | 0, i, l, a => ⟨fun _ j h1 h2 => by omega, fun _ => rfl⟩
  | q + 1, i, l, a => by
    unfold fallL
    cases e : l.testBit i with
    | true =>
      rw [if_pos rfl]
      have := fall_ge (n := n) (r := r) (u := u) (come := come) (opn := opn) q (i + 1) (wo l (reachN n r u i come opn) 5) (a + 1)
      constructor
      · intro h; omega
      · intro h
        rw [h i (Nat.le_refl i) (by omega)] at e
        cases e
    | false =>
      rw [if_neg (by decide), fall_eq q (i + 1) l a]
      constructor
      · intro h j h1 h2
        by_cases ej : j = i
        · rw [ej]; exact e
        · exact h j (by omega) (by omega)
      · intro h j h1 h2
        exact h j (by omega) (by omega)
/-- in one piece -/
theorem fall_one (hr : r ∈ P n) (hu : u ∈ P n) {opn : Nat} : fallL n r u (2 ^ n - 1) opn n 0 (2 ^ n - 1) 0 = 1 ↔ reachN n r u 0 (2 ^ n - 1) opn = 2 ^ n - 1 := by
  have hn := P_n hr
  obtain ⟨q, hq⟩ : ∃ q, n = q + 1 := ⟨n - 1, by omega⟩
  have hal : 2 ^ n - 1 < 2 ^ n := Nat.sub_lt (Nat.two_pow_pos n) (by decide)
  have hal5 := lt32 hn.2 hal
  have hR : reachN n r u 0 (2 ^ n - 1) opn < 2 ^ n ∧ (reachN n r u 0 (2 ^ n - 1) opn).testBit 0 = true := by
    rw [reach_itr hr hu _ opn (show 0 < n by omega)]
    have hg := itr_grow (sysP hr hu (2 ^ n - 1) opn) 5 (1 <<< 0) (two_lt (by omega))
    exact ⟨hg.2, hg.1 0 (by decide)⟩
  have e1 : fallL n r u (2 ^ n - 1) opn n 0 (2 ^ n - 1) 0 = fallL n r u (2 ^ n - 1) opn (n - 1) 1 (wo (2 ^ n - 1) (reachN n r u 0 (2 ^ n - 1) opn) 5) 1 := by
    have : fallL n r u (2 ^ n - 1) opn n 0 (2 ^ n - 1) 0 = fallL n r u (2 ^ n - 1) opn ((n - 1) + 1) 0 (2 ^ n - 1) 0 := by rw [show n - 1 + 1 = n by omega]
    rw [this]
    show (if (2 ^ n - 1).testBit 0 then _ else _) = _
    rw [if_pos (all_bit (by omega))]
  rw [e1, fall_eq]
  constructor
  · intro h
    refine sub_asm (sub_all hR.1) (fun j hj => ?_)
    have hjn := lt_bit hal hj
    by_cases e0 : j = 0
    · rw [e0]; exact hR.2
    · have := h j (by omega) (by omega)
      rw [wo_bit (n := 5) hal5, hj, Bool.true_and] at this
      cases q : (reachN n r u 0 (2 ^ n - 1) opn).testBit j with
      | true => rfl
      | false => rw [q] at this; cases this
  · intro h j h1 h2
    rw [h, wo_bit (n := 5) hal5, all_bit (by omega)]
    rfl
end HG
