/-! which. -/
def seenL (n r u : Nat) (fw fb : Nat → Int32) (i : Nat) : Nat → Nat → Bool
  | 0, _ => true
  | q + 1, k => (decide (walkL n r u (fw k).toNatClampNeg 4 i = i) == decide (fb k = 1)) && seenL n r u fw fb i q (k + 1)
section WH
variable {c : CS} {m : MS}
theorem eWayAt {k : Nat} (hk : k < 6) : FX7_wayAt 11 (nI k) (hp c m) = some (c.f12 k, hp c m) := by
  unfold FX7_wayAt
  rw [if_neg (nI_pos (by omega)), if_neg (show ¬ (6 : Int32) ≤ nI k from nI_ge (b := 6) hk (by decide)), hA11_0, bd_some, hr12 hk, bd_some]
theorem eCame {k : Nat} (hk : k < 6) : FX7_cameBack 11 (nI k) (hp c m) = some (b01 (decide (c.f13 k = 1)), hp c m) := by
  unfold FX7_cameBack
  rw [if_neg (nI_pos (by omega)), if_neg (show ¬ (6 : Int32) ≤ nI k from nI_ge (b := 6) hk (by decide)), hA11_1, bd_some, hr13 hk, bd_some]
  by_cases e : c.f13 k = 1
  · rw [if_pos e, decide_eq_true e]; rfl
  · rw [if_neg e, decide_eq_false e]; rfl
theorem b01_eq {a b : Bool} : b01 a = b01 b ↔ a = b := by cases a <;> cases b <;> decide
theorem eSeenL (h : OK c m) {i : Nat} (hi : i < c.n) : ∀ (q k d : Nat), k + q = c.sn → q < d → fX9_allSeenFrom_2 d 0 (nI i) (nI k) (hp c m) = some (b01 (seenL c.n c.r c.u c.f12 c.f13 i q k), hp c m) := by
  have hn := h.n5
  obtain ⟨s1, s2, s3, s4, s5⟩ := h.2.2.2.2.1
  intro q
  induction q with
  | zero =>
    intro k d hk hd
    obtain ⟨d, rfl⟩ : ∃ e, d = e + 1 := ⟨d - 1, by omega⟩
    show bX9_allSeenFrom_2 (fX9_allSeenFrom_2 d) _ _ _ _ = _
    unfold bX9_allSeenFrom_2
    rw [hA0_5, bd_some, hI11_2, bd_some, if_pos (nI_le (by omega) (by omega))]
    rfl
  | succ q ih =>
    intro k d hk hd
    obtain ⟨d, rfl⟩ : ∃ e, d = e + 1 := ⟨d - 1, by omega⟩
    show bX9_allSeenFrom_2 (fX9_allSeenFrom_2 d) _ _ _ _ = _
    obtain ⟨⟨w, w1, w2, w3⟩, w4⟩ := s5 k (by omega)
    have h38 : ∀ b : Bool, fX9_allSeenFrom_38 (fX9_allSeenFrom_2 d) 0 (nI i) (nI k) (b01 b) (hp c m) = some (b01 ((b == decide (c.f13 k = 1)) && seenL c.n c.r c.u c.f12 c.f13 i q (k + 1)), hp c m) := by
      intro b
      unfold fX9_allSeenFrom_38
      rw [hA0_5, bd_some, gp_pos hO11, eCame (by omega), bd2_some]
      by_cases e : b = decide (c.f13 k = 1)
      · rw [if_pos (by rw [e]), nI_1, ih (k + 1) d (by omega) (by omega), e, beq_self_eq_true, Bool.true_and]
      · rw [if_neg (fun q => e (b01_eq.mp q)), show (b == decide (c.f13 k = 1)) = false from beq_false_of_ne e, Bool.false_and]
        rfl
    unfold bX9_allSeenFrom_2
    rw [hA0_5, bd_some, hI11_2, bd_some, if_neg (nI_ge (by omega) (by omega)), hA0_1, bd_some, bd_some, gp_pos hO11, eWayAt (by omega), bd2_some, gp_pos hO3, w1, eWalked hg3 h.2.1.1 h.2.1.2.1 (by omega) hi, bd2_some]
    have hw : (c.f12 k).toNatClampNeg = w := by rw [w1]; exact nI_clamp (by omega)
    show _ = some (b01 ((decide (walkL c.n c.r c.u (c.f12 k).toNatClampNeg 4 i = i) == decide (c.f13 k = 1)) && seenL c.n c.r c.u c.f12 c.f13 i q (k + 1)), hp c m)
    rw [hw]
    have hl := walk_lt h.2.1.1 h.2.1.2.1 w 4 i hi
    by_cases e : walkL c.n c.r c.u w 4 i = i
    · rw [if_pos (by rw [e]), decide_eq_true e]
      exact h38 true
    · rw [if_neg (fun q => e ((nI_eq (by omega) (by omega)).mp q)), decide_eq_false e]
      exact h38 false
def whL (p : Nat → Bool) : Nat → Nat → Nat → Nat
  | 0, _, b => b
  | q + 1, i, b => whL p q (i + 1) (if p i then b ||| (1 <<< i) else b)
theorem eWhL (h : OK c m) : ∀ (q i d b : Nat), i + q = c.n → q < d → fX9_which_4 d 0 (nI b) (nI i) (hp c m) = some (nI (whL (fun i => seenL c.n c.r c.u c.f12 c.f13 i c.sn 0) q i b), hp c m) := by
  have hn := h.n5
  obtain ⟨s1, s2, s3, s4, s5⟩ := h.2.2.2.2.1
  intro q
  induction q with
  | zero =>
    intro i d b hk hd
    obtain ⟨d, rfl⟩ : ∃ e, d = e + 1 := ⟨d - 1, by omega⟩
    show bX9_which_4 (fX9_which_4 d) _ _ _ _ = _
    unfold bX9_which_4
    rw [hA0_1, bd_some, hI3_0, bd_some, if_pos (nI_le (by omega) (by omega))]
    rfl
  | succ q ih =>
    intro i d b hk hd
    obtain ⟨d, rfl⟩ : ∃ e, d = e + 1 := ⟨d - 1, by omega⟩
    show bX9_which_4 (fX9_which_4 d) _ _ _ _ = _
    unfold bX9_which_4
    have hF : FX9_allSeenFrom 0 (nI i) (hp c m) = some (b01 (seenL c.n c.r c.u c.f12 c.f13 i c.sn 0), hp c m) := by
      unfold FX9_allSeenFrom
      exact eSeenL h (by omega) c.sn 0 4096 (by omega) (by omega)
    rw [hA0_1, bd_some, hI3_0, bd_some, if_neg (nI_ge (by omega) (by omega)), gp_pos hO0, hF, bd2_some]
    show _ = some (nI (whL _ q (i + 1) (if seenL c.n c.r c.u c.f12 c.f13 i c.sn 0 then b ||| (1 <<< i) else b)), hp c m)
    cases e : seenL c.n c.r c.u c.f12 c.f13 i c.sn 0 with
    | false => rw [if_pos b01_f, nI_1, ih (i + 1) d b (by omega) (by omega), if_neg (by decide)]
    | true => rw [if_neg b01_1, shl1 (by omega), fa_or, nI_1, ih (i + 1) d _ (by omega) (by omega), if_pos rfl]
theorem mSeenL (h : OK c m) {i b : Nat} (hi : i < c.n) {K4 : Nat → Int32 → Int32 → Hp → Option (Int32 × Hp)} : ∀ (q k d : Nat) (a : Bool), k + q = c.sn → q < d → fX10_which_19 K4 d 22 (nI b) (nI i) (b01 a) (nI k) (hp c m) = K4 22 (nI (if (a && seenL c.n c.r c.u c.f12 c.f13 i q k) then b ||| (1 <<< i) else b)) (nI (i + 1)) (hp c m) := by
  have hn := h.n5
  obtain ⟨s1, s2, s3, s4, s5⟩ := h.2.2.2.2.1
  intro q
  induction q with
  | zero =>
    intro k d a hk hd
    obtain ⟨d, rfl⟩ : ∃ e, d = e + 1 := ⟨d - 1, by omega⟩
    show bX10_which_19 K4 (fX10_which_19 K4 d) _ _ _ _ _ _ = _
    unfold bX10_which_19
    rw [hI22_13, bd_some, if_pos (nI_le (by omega) (by omega)), show seenL c.n c.r c.u c.f12 c.f13 i 0 k = true from rfl, Bool.and_true]
    cases a with
    | false => rw [if_pos b01_f, nI_or0, nI_1, if_neg (by decide)]
    | true => rw [if_neg b01_1, shl1 (by omega), fa_or, nI_1, if_pos rfl]
  | succ q ih =>
    intro k d a hk hd
    obtain ⟨d, rfl⟩ : ∃ e, d = e + 1 := ⟨d - 1, by omega⟩
    show bX10_which_19 K4 (fX10_which_19 K4 d) _ _ _ _ _ _ = _
    obtain ⟨⟨w, w1, w2, w3⟩, w4⟩ := s5 k (by omega)
    unfold bX10_which_19
    rw [hI22_13, bd_some, if_neg (nI_ge (by omega) (by omega))]
    have hw : (c.f12 k).toNatClampNeg = w := by rw [w1]; exact nI_clamp (by omega)
    rw [show seenL c.n c.r c.u c.f12 c.f13 i (q + 1) k = ((decide (walkL c.n c.r c.u (c.f12 k).toNatClampNeg 4 i = i) == decide (c.f13 k = 1)) && seenL c.n c.r c.u c.f12 c.f13 i q (k + 1)) from rfl, hw]
    cases a with
    | false =>
      rw [if_pos b01_f, nI_1, show (0 : Int32) = b01 false from rfl, ih (k + 1) d false (by omega) (by omega)]
      rfl
    | true =>
      have h56 : ∀ b2 : Bool, fX10_which_56 K4 (fX10_which_19 K4 d) 22 (nI b) (nI i) (nI k) (b01 b2) (hp c m) = fX10_which_19 K4 d 22 (nI b) (nI i) (b01 (b2 == decide (c.f13 k = 1))) (nI (k + 1)) (hp c m) := by
        intro b2
        have h72 : ∀ b3 : Bool, fX10_which_72 K4 (fX10_which_19 K4 d) 22 (nI b) (nI i) (nI k) (b01 b2) (b01 b3) (hp c m) = fX10_which_19 K4 d 22 (nI b) (nI i) (b01 (b2 == b3)) (nI (k + 1)) (hp c m) := by
          intro b3
          unfold fX10_which_72
          by_cases e : b2 = b3
          · rw [if_pos (by rw [e]), nI_1, e, beq_self_eq_true]
            rfl
          · rw [if_neg (fun q => e (b01_eq.mp q)), nI_1, beq_false_of_ne e]
            rfl
        unfold fX10_which_56
        rw [hA22_12, bd_some, hr32 (by omega), bd_some, s2]
        by_cases e : c.f13 k = 1
        · rw [if_pos e, decide_eq_true e]
          exact h72 true
        · rw [if_neg e, decide_eq_false e]
          exact h72 false
      have hl := walk_lt h.2.1.1 h.2.1.2.1 w 4 i hi
      rw [if_neg b01_1, hA22_2, bd_some, hA22_11, bd_some, hr31 (by omega), bd_some, s1, w1, mEnd (ok_ml h c) h.2.1.1 h.2.1.2.1 w2 w3 hi, bd2_some]
      by_cases e : walkL c.n c.r c.u w 4 i = i
      · rw [if_pos (by rw [e]), decide_eq_true e]
        refine (h56 true).trans ?_
        rw [ih (k + 1) d _ (by omega) (by omega), Bool.true_and]
      · rw [if_neg (fun q => e ((nI_eq (by omega) (by omega)).mp q)), decide_eq_false e]
        refine (h56 false).trans ?_
        rw [ih (k + 1) d _ (by omega) (by omega), Bool.true_and]
theorem mWhL (h : OK c m) : ∀ (q i d b : Nat), i + q = c.n → q < d → fX10_which_4 d 22 (nI b) (nI i) (hp c m) = some (nI (whL (fun i => seenL c.n c.r c.u c.f12 c.f13 i c.sn 0) q i b), hp c m) := by
  have hn := h.n5
  obtain ⟨s1, s2, s3, s4, s5⟩ := h.2.2.2.2.1
  intro q
  induction q with
  | zero =>
    intro i d b hk hd
    obtain ⟨d, rfl⟩ : ∃ e, d = e + 1 := ⟨d - 1, by omega⟩
    show bX10_which_4 (fX10_which_4 d) _ _ _ _ = _
    unfold bX10_which_4
    rw [hA22_2, bd_some, ml0 (ok_ml h c), bd_some, if_pos (nI_le (by omega) (by omega))]
    rfl
  | succ q ih =>
    intro i d b hk hd
    obtain ⟨d, rfl⟩ : ∃ e, d = e + 1 := ⟨d - 1, by omega⟩
    show bX10_which_4 (fX10_which_4 d) _ _ _ _ = _
    unfold bX10_which_4
    have e := mSeenL (b := b) h (i := i) (by omega) (K4 := fX10_which_4 d) c.sn 0 4096 true (by omega) (by omega)
    rw [hA22_2, bd_some, ml0 (ok_ml h c), bd_some, if_neg (nI_ge (by omega) (by omega))]
    refine e.trans ?_
    rw [ih (i + 1) d _ (by omega) (by omega), Bool.true_and]
    rfl
end WH
theorem c_which : Eqv (fun H => FX9_which 0 H) (fun H => FX10_which 22 H) := by
  intro c m h
  have hn := h.n5
  refine ⟨nI (whL (fun i => seenL c.n c.r c.u c.f12 c.f13 i c.sn 0) c.n 0 0), c, m, ?_, ?_, h⟩
  · show FX9_which 0 (hp c m) = _
    unfold FX9_which
    exact eWhL h c.n 0 4096 0 (by omega) (by omega)
  · show FX10_which 22 (hp c m) = _
    unfold FX10_which
    exact mWhL h c.n 0 4096 0 (by omega) (by omega)
