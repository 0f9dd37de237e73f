/-! The text and its first fault. -/
def vt (c : CS) (i : Nat) : Nat := (c.t i).toNatClampNeg
section TX
variable {c c' : CS} {m : MS}
theorem vt_of (h : OKt c m) {i : Nat} (hi : i < c.L) : c.t i = nI (vt c i) ∧ vt c i < 256 := by
  obtain ⟨v, h1, h2⟩ := h.2.2.2 i hi
  have : vt c i = v := by unfold vt; rw [h2]; exact nI_clamp (by omega)
  rw [this]
  exact ⟨h2, h1⟩
theorem s48 {v : Nat} (hv : 48 ≤ v) : nI v - 48 = nI (v - 48) := pk_sub (b := 48) hv
theorem s48n {v : Nat} (hv : v < 48) : nI v - 48 < 0 := by
  rw [fa_lt, show (nI v - 48).toInt = (v : Int) - 48 from pk_sub_toInt (b := 48) (by omega) (by decide)]
  show (v : Int) - 48 < 0
  omega
theorem eFig (h : OKt c m) {k : Nat} (hk : k < c.L) : FX3_figure 1 (nI k) (hp c m) = some (nI (vt c k) - 48, hp c m) := by
  have hL := h.2.2.1
  unfold FX3_figure
  rw [if_neg (nI_pos (by omega)), hI1_1, bd_some, if_neg (nI_ge hk (by omega)), if_neg (show ¬ (20 : Int32) ≤ nI k from nI_ge (b := 20) (by omega) (by decide)), hA1_0, bd_some, hr2 (by omega), bd_some, (vt_of h hk).1]
theorem eFigO (h : OKt c m) {k : Nat} (hk : c.L ≤ k) (h1 : k < 100) : FX3_figure 1 (nI k) (hp c m) = some (-1, hp c m) := by
  unfold FX3_figure
  rw [if_neg (nI_pos (by omega)), hI1_1, bd_some, if_pos (nI_le hk (by omega))]
def ndL (c : CS) (k : Nat) : Nat → Nat → Bool
  | 0, _ => true
  | q + 1, e => !(decide (vt c e = vt c k)) && ndL c k q (e + 1)
theorem nd_t (c : CS) (k : Nat) : ∀ (q e : Nat), ndL c k q e = true ↔ ∀ j, e ≤ j → j < e + q → vt c j ≠ vt c k
  | 0, e => by
    constructor
    · intro _ j h1 h2; omega
    · intro _; rfl
  | q + 1, e => by
    unfold ndL
    rw [Bool.and_eq_true, nd_t c k q (e + 1)]
    constructor
    · rintro ⟨h1, h2⟩ j h3 h4
      by_cases e2 : j = e
      · subst e2
        intro q
        rw [decide_eq_true q] at h1
        cases h1
      · exact h2 j (by omega) (by omega)
    · intro h
      refine ⟨?_, fun j h1 h2 => h j (by omega) (by omega)⟩
      rw [decide_eq_false (h e (by omega) (by omega))]
      rfl
theorem mCsL (h : OKt c m) {k : Nat} (hk : k < c.L) : ∀ (q e d : Nat) (a : Bool), e + q = k → q < d → fX10_canStand_99 d 22 (nI k) (b01 a) (nI e) (hp c' m) = some (b01 (a && ndL c k q e), hp c' m) := by
  have hL := h.2.2.1
  intro q
  induction q with
  | zero =>
    intro e d a hq hd
    obtain ⟨d, rfl⟩ : ∃ e, d = e + 1 := ⟨d - 1, by omega⟩
    show bX10_canStand_99 (fX10_canStand_99 d) _ _ _ _ _ = _
    unfold bX10_canStand_99
    rw [if_pos (nI_le (by omega) (by omega)), gp_pos (b01_01 a), show ndL c k 0 e = true from rfl, Bool.and_true]
  | succ q ih =>
    intro e d a hq hd
    obtain ⟨d, rfl⟩ : ∃ e, d = e + 1 := ⟨d - 1, by omega⟩
    show bX10_canStand_99 (fX10_canStand_99 d) _ _ _ _ _ = _
    unfold bX10_canStand_99
    rw [if_neg (nI_ge (by omega) (by omega)), show ndL c k (q + 1) e = (!(decide (vt c e = vt c k)) && ndL c k q (e + 1)) from rfl]
    cases a with
    | false =>
      rw [if_pos b01_f, nI_1]
      refine (ih (e + 1) d false (by omega) (by omega)).trans ?_
      rfl
    | true =>
      have h1 := vt_of h (i := e) (by omega)
      have h2 := vt_of h hk
      rw [if_neg b01_1, hA22_0, bd_some, hr23 (by omega), bd_some, bd_some, hr23 (by omega), bd_some, h.1, h1.1, h2.1, nI_1]
      by_cases e2 : vt c e = vt c k
      · rw [if_pos (by rw [e2]), decide_eq_true e2]
        refine (ih (e + 1) d false (by omega) (by omega)).trans ?_
        rfl
      · rw [if_neg (fun q => e2 ((nI_eq (by omega) (by omega)).mp q)), decide_eq_false e2]
        exact ih (e + 1) d true (by omega) (by omega)
theorem mIn48 {v a b : Nat} (hv : v < 256) (hb : b < 100) (ha : a < 100) (H : Hp) : FX10_in (nI v - 48).toInt64 (lN a) (lN b) H = some (b01 (decide (48 + a ≤ v ∧ v ≤ 48 + b)), H) := by
  rw [eIn]
  congr 2
  congr 1
  apply decide_eq_decide.mpr
  rw [fa_le64, fa_le64, Int32.toInt_toInt64, show (nI v - 48).toInt = (v : Int) - 48 from pk_sub_toInt (b := 48) (by omega) (by decide), lN_toInt (by omega), lN_toInt (by omega)]
  omega
/-- a letter behind the number of squares -/
theorem mCs (h : OKt c m) {n k : Nat} (hn : 1 ≤ n ∧ n ≤ 5) (h1 : vt c 1 = 48 + n) (hk2 : 2 ≤ k) (hk : k < c.L) : FX10_canStand 22 (nI k) (hp c' m) = some (b01 (decide (k < 2 + 2 * n ∧ 48 ≤ vt c k ∧ vt c k < 48 + n) && (if 2 + n ≤ k then ndL c k (k - (2 + n)) (2 + n) else ndL c k (k - 2) 2)), hp c' m) := by
  have hL := h.2.2.1
  have hv := vt_of h hk
  have hv1 := vt_of h (i := 1) (by omega)
  unfold FX10_canStand
  rw [hA22_0, bd_some, hr23 (by omega), bd_some, if_neg (nI_ne0 (by omega) (by omega)), if_neg (show ¬ nI k = 1 from fun q => by have := (nI_eq (b := 1) (by omega) (by decide)).mp q; omega), bd_some, show aI (hp c' m) 23 0 1 = some (m.t 1) from hr23 (i := 1) (by omega), bd_some, h.1, hv.1, hv1.1, h1, s48 (by omega), show 48 + n - 48 = n by omega, show (2 : Int32) * nI n = nI (2 * n) from (Int32.ofNat_mul 2 n).symm, show (2 : Int32) + nI (2 * n) = nI (2 + 2 * n) from nI_add 2 (2 * n)]
  by_cases e1 : k < 2 + 2 * n
  · rw [if_neg (nI_ge e1 (by omega)), show nI n - 1 = nI (n - 1) from pk_sub (b := 1) hn.1, nI_l (by omega), show (0 : Int64) = lN 0 from rfl, mIn48 hv.2 (by omega) (by omega), bd2_some]
    by_cases e2 : 48 ≤ vt c k ∧ vt c k < 48 + n
    · rw [decide_eq_true (show 48 + 0 ≤ vt c k ∧ vt c k ≤ 48 + (n - 1) by omega), if_neg b01_1, decide_eq_true (show k < 2 + 2 * n ∧ 48 ≤ vt c k ∧ vt c k < 48 + n from ⟨e1, e2⟩), Bool.true_and, show (2 : Int32) + nI n = nI (2 + n) from nI_add 2 n]
      by_cases e3 : 2 + n ≤ k
      · rw [if_pos (nI_le e3 (by omega)), if_pos e3]
        refine (mCsL h hk (k - (2 + n)) (2 + n) 4096 true (by omega) (by omega)).trans ?_
        rw [Bool.true_and]
      · rw [if_neg (nI_ge (by omega) (by omega)), if_neg e3]
        refine (mCsL h hk (k - 2) 2 4096 true (by omega) (by omega)).trans ?_
        rw [Bool.true_and]
    · rw [decide_eq_false (show ¬ (48 + 0 ≤ vt c k ∧ vt c k ≤ 48 + (n - 1)) by omega), if_pos b01_f, decide_eq_false (show ¬ (k < 2 + 2 * n ∧ 48 ≤ vt c k ∧ vt c k < 48 + n) from fun q => e2 q.2), Bool.false_and]
      rfl
  · rw [if_pos (nI_le (by omega) (by omega)), decide_eq_false (show ¬ (k < 2 + 2 * n ∧ 48 ≤ vt c k ∧ vt c k < 48 + n) from fun q => e1 q.1), Bool.false_and]
    rfl
/-- where the block of a place begins -/
def bk (n k : Nat) : Nat := if 2 + n ≤ k then 2 + n else 2
def Good (c : CS) (n k : Nat) : Prop := ∀ p, 2 ≤ p → p < k → 48 ≤ vt c p ∧ vt c p < 48 + n ∧ ∀ e, bk n p ≤ e → e < p → vt c e ≠ vt c p
def MtB (c : CS) (n k b : Nat) : Prop := ∀ s, s < 5 → (b.testBit s = true ↔ ∃ e, bk n k ≤ e ∧ e < k ∧ vt c e = 48 + s)
theorem bit5 {b s t : Nat} (hb : b < 32) (hs : s < 5) (ht : t < 5) : b ||| (1 <<< s) < 32 ∧ ((b ||| (1 <<< s)).testBit t = true ↔ (t = s ∨ b.testBit t = true)) := by
  refine ⟨Nat.or_lt_two_pow (n := 5) hb ?_, ?_⟩
  · rw [Nat.one_shiftLeft]
    exact Nat.pow_lt_pow_right (by decide) hs
  · rw [Nat.testBit_or, tb1, Bool.or_eq_true, decide_eq_true_eq]
    constructor
    · rintro (h | h)
      · exact .inr h
      · exact .inl h.symm
    · rintro (h | h)
      · exact .inr h.symm
      · exact .inl h
theorem faultL (h : OKt c m) {n : Nat} (hn : 1 ≤ n ∧ n ≤ 5) (h2 : 2 ≤ c.L) (h1 : vt c 1 = 48 + n) : ∀ (q k b d d2 : Nat), k + q = 2 + 2 * n → q < d → q < d2 → 2 ≤ k → k ≤ c.L → (if k = 2 + n then 0 else b) < 32 → MtB c n k (if k = 2 + n then 0 else b) → Good c n k → ∃ r, fX3_firstFault_50 d 1 (nI n) (nI (2 + 2 * n)) (nI b) (nI k) (hp c m) = some (r, hp c m) ∧ fX10_fault_2 d2 22 (nI k) (hp c' m) = some (r, hp c' m) ∧ (r = -9 → c.L = 2 + 2 * n ∧ Good c n (2 + 2 * n)) := by
  have hL := h.2.2.1
  have hv1 := vt_of h (i := 1) (by omega)
  have hend : ∀ k d2, k = c.L → c.L ≤ k → fX10_fault_2 (d2 + 1) 22 (nI k) (hp c' m) = some (if c.L = 2 + 2 * n then -9 else nI c.L, hp c' m) := by
    intro k d2 e1 e2
    show bX10_fault_2 (fX10_fault_2 d2) _ _ _ = _
    unfold bX10_fault_2
    rw [hI22_1, bd_some, h.2.1, if_pos (nI_le e2 (by omega)), bd_some, if_neg (show ¬ nI c.L ≤ 1 from nI_ge (a := 1) (by omega) (by omega)), bd_some, hA22_0, bd_some, show aI (hp c' m) 23 0 1 = some (m.t 1) from hr23 (i := 1) (by omega), bd_some, h.1, hv1.1, h1, s48 (by omega), show 48 + n - 48 = n by omega, show (2 : Int32) * nI n = nI (2 * n) from (Int32.ofNat_mul 2 n).symm, show (2 : Int32) + nI (2 * n) = nI (2 + 2 * n) from nI_add 2 (2 * n)]
    by_cases e : c.L = 2 + 2 * n
    · rw [if_pos (by rw [e]), if_pos e]
      unfold fX10_fault_59
      rw [if_neg (by decide)]
    · rw [if_neg (fun q => e ((nI_eq (by omega) (by omega)).mp q)), if_neg e]
      unfold fX10_fault_58 fX10_fault_59
      rw [if_pos rfl, hI22_1, bd_some, h.2.1]
  have hstep : ∀ k d2 b, k < c.L → FX10_canStand 22 (nI k) (hp c' m) = some (b01 b, hp c' m) → fX10_fault_2 (d2 + 1) 22 (nI k) (hp c' m) = if b = true then fX10_fault_2 d2 22 (nI (k + 1)) (hp c' m) else some (nI k, hp c' m) := by
    intro k d2 b hk hb
    show bX10_fault_2 (fX10_fault_2 d2) _ _ _ = _
    unfold bX10_fault_2
    rw [hI22_1, bd_some, h.2.1, if_neg (nI_ge hk (by omega)), gp_pos hO22, hb, bd2_some, nI_1]
    cases b with
    | true => rw [if_neg b01_1, if_pos rfl]
    | false => rw [if_pos b01_f, if_neg (by decide)]
  have hne : ∀ k, k < 100 → nI k = -9 → False := fun k hk q => nI_ne9 (by omega) q
  intro q
  induction q with
  | zero =>
    intro k b d d2 hk hd hd2 hk2 hkL hb hM hG
    obtain ⟨d, rfl⟩ : ∃ e, d = e + 1 := ⟨d - 1, by omega⟩
    obtain ⟨d2, rfl⟩ : ∃ e, d2 = e + 1 := ⟨d2 - 1, by omega⟩
    have hke : k = 2 + 2 * n := by omega
    have hc : fX3_firstFault_50 (d + 1) 1 (nI n) (nI (2 + 2 * n)) (nI b) (nI k) (hp c m) = some (if c.L ≤ 2 + 2 * n then -9 else nI (2 + 2 * n), hp c m) := by
      show bX3_firstFault_50 (fX3_firstFault_50 d) _ _ _ _ _ _ = _
      unfold bX3_firstFault_50
      rw [if_pos (nI_le (by omega) (by omega)), hI1_1, bd_some]
      by_cases e : c.L ≤ 2 + 2 * n
      · rw [if_pos (nI_le e (by omega)), if_pos e]
      · rw [if_neg (nI_ge (by omega) (by omega)), if_neg e]
    by_cases e : c.L = k
    · refine ⟨-9, ?_, ?_, fun _ => ⟨by omega, by rw [← hke]; exact hG⟩⟩
      · rw [hc, if_pos (by omega)]
      · rw [hend k d2 e.symm (by omega), if_pos (by omega)]
    · have hcs := mCs (c' := c') h hn h1 hk2 (k := k) (by omega)
      rw [decide_eq_false (show ¬ (k < 2 + 2 * n ∧ 48 ≤ vt c k ∧ vt c k < 48 + n) by omega), Bool.false_and] at hcs
      refine ⟨nI k, ?_, ?_, fun q => (hne k (by omega) q).elim⟩
      · rw [hc, if_neg (by omega), hke]
      · rw [hstep k d2 false (by omega) hcs, if_neg (by decide)]
  | succ q ih =>
    intro k b d d2 hk hd hd2 hk2 hkL hb hM hG
    obtain ⟨d, rfl⟩ : ∃ e, d = e + 1 := ⟨d - 1, by omega⟩
    obtain ⟨d2, rfl⟩ : ∃ e, d2 = e + 1 := ⟨d2 - 1, by omega⟩
    revert hb hM
    generalize hb' : (if k = 2 + n then 0 else b) = b'
    intro hb hM
    have hc : fX3_firstFault_50 (d + 1) 1 (nI n) (nI (2 + 2 * n)) (nI b) (nI k) (hp c m) = fX3_firstFault_66 (fX3_firstFault_50 d) 1 (nI n) (nI (2 + 2 * n)) (nI b') (nI k) (hp c m) := by
      show bX3_firstFault_50 (fX3_firstFault_50 d) _ _ _ _ _ _ = _
      unfold bX3_firstFault_50
      rw [if_neg (nI_ge (by omega) (by omega)), show (2 : Int32) + nI n = nI (2 + n) from nI_add 2 n, ← hb']
      by_cases e : k = 2 + n
      · rw [if_pos (by rw [e]), if_pos e]
        rfl
      · rw [if_neg (fun q => e ((nI_eq (by omega) (by omega)).mp q)), if_neg e]
    rw [hc]
    unfold fX3_firstFault_66
    rw [gp_pos hO1]
    by_cases eL : k = c.L
    · refine ⟨nI k, ?_, ?_, fun q => (hne k (by omega) q).elim⟩
      · rw [eFigO h (by omega) (by omega), bd2_some, if_pos (by decide)]
      · rw [hend k d2 eL (by omega), if_neg (by omega), eL]
    · have hkl : k < c.L := by omega
      have hv := vt_of h hkl
      have hcs := mCs (c' := c') h hn h1 hk2 hkl
      rw [eFig h hkl, bd2_some]
      by_cases e48 : 48 ≤ vt c k
      · rw [s48 e48, if_neg (nI_pos (by omega))]
        by_cases en : vt c k < 48 + n
        · have hs : vt c k - 48 < n := by omega
          rw [if_neg (nI_ge hs (by omega)), eIsIn (by omega) (by omega), bd2_some]
          have h48 : 48 + (vt c k - 48) = vt c k := by omega
          have hMs := hM (vt c k - 48) (by omega)
          rw [h48] at hMs
          have hnd : (if 2 + n ≤ k then ndL c k (k - (2 + n)) (2 + n) else ndL c k (k - 2) 2) = true ↔ ∀ e, bk n k ≤ e → e < k → vt c e ≠ vt c k := by
            unfold bk
            by_cases e3 : 2 + n ≤ k
            · rw [if_pos e3, if_pos e3, nd_t, show 2 + n + (k - (2 + n)) = k by omega]
            · rw [if_neg e3, if_neg e3, nd_t, show 2 + (k - 2) = k by omega]
          rw [decide_eq_true (show k < 2 + 2 * n ∧ 48 ≤ vt c k ∧ vt c k < 48 + n by omega), Bool.true_and] at hcs
          cases eb : b'.testBit (vt c k - 48) with
          | true =>
            obtain ⟨e, g1, g2, g3⟩ := hMs.mp eb
            have hf : (if 2 + n ≤ k then ndL c k (k - (2 + n)) (2 + n) else ndL c k (k - 2) 2) = false := by
              cases ee : (if 2 + n ≤ k then ndL c k (k - (2 + n)) (2 + n) else ndL c k (k - 2) 2) with
              | false => rfl
              | true => exact absurd g3 (hnd.mp ee e g1 g2)
            rw [hf] at hcs
            refine ⟨nI k, ?_, ?_, fun q => (hne k (by omega) q).elim⟩
            · rw [bit01_t eb, if_neg (by decide)]
            · rw [hstep k d2 false hkl hcs, if_neg (by decide)]
          | false =>
            have hall : ∀ e, bk n k ≤ e → e < k → vt c e ≠ vt c k := fun e g1 g2 g3 => by
              rw [hMs.mpr ⟨e, g1, g2, g3⟩] at eb
              cases eb
            rw [hnd.mpr hall] at hcs
            rw [bit01_f (by rw [eb]; decide), if_pos rfl, shl1 (by omega), fa_or, nI_1, hstep k d2 true hkl hcs, if_pos rfl]
            refine ih (k + 1) (b' ||| (1 <<< (vt c k - 48))) d d2 (by omega) (by omega) (by omega) (by omega) (by omega) ?_ ?_ ?_
            · split
              · decide
              · exact (bit5 hb (s := vt c k - 48) (t := 0) (by omega) (by decide)).1
            · intro s hs5
              by_cases ek : k + 1 = 2 + n
              · rw [if_pos ek]
                unfold bk
                rw [if_pos (by omega)]
                constructor
                · intro q; rw [Nat.zero_testBit] at q; cases q
                · rintro ⟨e, g1, g2, g3⟩; omega
              · rw [if_neg ek, (bit5 hb (s := vt c k - 48) (t := s) (by omega) hs5).2, hM s hs5]
                have hbk : bk n (k + 1) = bk n k := by
                  unfold bk
                  by_cases e3 : 2 + n ≤ k
                  · rw [if_pos e3, if_pos (by omega)]
                  · rw [if_neg e3, if_neg (by omega)]
                have hbl : bk n k ≤ k := by
                  unfold bk
                  split
                  · assumption
                  · exact hk2
                rw [hbk]
                constructor
                · rintro (g | ⟨e, g1, g2, g3⟩)
                  · exact ⟨k, hbl, by clear hMs; omega, by clear hMs; omega⟩
                  · exact ⟨e, g1, by omega, g3⟩
                · rintro ⟨e, g1, g2, g3⟩
                  by_cases ee : e = k
                  · left; rw [ee] at g3; clear hMs; omega
                  · exact .inr ⟨e, g1, by omega, g3⟩
            · intro p g1 g2
              by_cases ep : p = k
              · rw [ep]; exact ⟨e48, en, hall⟩
              · exact hG p g1 (by omega)
        · rw [decide_eq_false (show ¬ (k < 2 + 2 * n ∧ 48 ≤ vt c k ∧ vt c k < 48 + n) by omega), Bool.false_and] at hcs
          refine ⟨nI k, ?_, ?_, fun q => (hne k (by omega) q).elim⟩
          · rw [if_pos (nI_le (by omega) (by omega))]
          · rw [hstep k d2 false hkl hcs, if_neg (by decide)]
      · rw [decide_eq_false (show ¬ (k < 2 + 2 * n ∧ 48 ≤ vt c k ∧ vt c k < 48 + n) by omega), Bool.false_and] at hcs
        refine ⟨nI k, ?_, ?_, fun q => (hne k (by omega) q).elim⟩
        · rw [if_pos (s48n (by omega))]
        · rw [hstep k d2 false hkl hcs, if_neg (by decide)]
/-- both halves find the same first fault; if there is none, the text is a surface's -/
theorem fault_both (h : OKt c m) : ∃ r, FX3_firstFault 1 (hp c m) = some (r, hp c m) ∧ FX10_fault 22 (hp c' m) = some (r, hp c' m) ∧ (r = -9 → ∃ n, 1 ≤ n ∧ n ≤ 5 ∧ vt c 1 = 48 + n ∧ c.L = 2 + 2 * n ∧ Good c n (2 + 2 * n)) := by
  have hL := h.2.2.1
  unfold FX3_firstFault FX10_fault
  have hm0 : ∀ d2, fX10_fault_2 (d2 + 1) 22 0 (hp c' m) = bX10_fault_2 (fX10_fault_2 d2) 22 (nI 0) (hp c' m) := fun _ => rfl
  rw [hm0 4095, hI1_1, bd_some]
  unfold bX10_fault_2
  rw [hI22_1, bd_some, h.2.1]
  by_cases h0 : c.L = 0
  · refine ⟨0, ?_, ?_, fun q => absurd q (by decide)⟩
    · rw [if_pos (show nI c.L < 1 from nI_lt (b := 1) (by omega) (by decide))]
    · rw [if_pos (nI_le (by omega) (by omega)), bd_some, if_pos (show nI c.L ≤ 1 from nI_le (b := 1) (by omega) (by decide))]
      unfold fX10_fault_58 fX10_fault_59
      rw [if_pos rfl, hI22_1, bd_some, h.2.1, h0]
      rfl
  · have hv0 := vt_of h (i := 0) (by omega)
    rw [if_neg (show ¬ nI c.L < 1 from nI_nlt (b := 1) (by omega) (by omega)), hA1_0, bd_some, show aI (hp c m) 2 0 0 = some (c.t 0) from hr2 (i := 0) (by omega), bd_some, if_neg (nI_ge (by omega) (by omega)), gp_pos hO22]
    have hcs0 : FX10_canStand 22 (nI 0) (hp c' m) = some (b01 (decide (c.t 0 = 83)), hp c' m) := by
      unfold FX10_canStand
      rw [hA22_0, bd_some, hr23 (by omega), bd_some, if_pos (show nI 0 = 0 from rfl), bd_some, hr23 (by omega), bd_some, h.1]
      by_cases e : c.t 0 = 83
      · rw [if_pos e, decide_eq_true e]; rfl
      · rw [if_neg e, decide_eq_false e]; rfl
    rw [hcs0, bd2_some]
    by_cases e83 : c.t 0 = 83
    · rw [if_pos e83, decide_eq_true e83, if_neg b01_1, gp_pos hO1, show nI 0 + 1 = nI 1 from rfl]
      show ∃ r, _ ∧ bX10_fault_2 (fX10_fault_2 4094) 22 (nI 1) (hp c' m) = _ ∧ _
      unfold bX10_fault_2
      rw [hI22_1, bd_some, h.2.1]
      by_cases hL1 : c.L = 1
      · refine ⟨1, ?_, ?_, fun q => absurd q (by decide)⟩
        · rw [show FX3_figure 1 1 (hp c m) = some (-1, hp c m) from eFigO h (k := 1) (by omega) (by decide), bd2_some, if_pos (by decide)]
        · rw [if_pos (nI_le (by omega) (by omega)), bd_some, if_pos (show nI c.L ≤ 1 from nI_le (b := 1) (by omega) (by decide))]
          unfold fX10_fault_58 fX10_fault_59
          rw [if_pos rfl, hI22_1, bd_some, h.2.1, hL1]
          rfl
      · have hv1 := vt_of h (i := 1) (by omega)
        have hcs1 : FX10_canStand 22 (nI 1) (hp c' m) = some (b01 (decide (49 ≤ vt c 1 ∧ vt c 1 ≤ 53)), hp c' m) := by
          unfold FX10_canStand
          rw [hA22_0, bd_some, hr23 (by omega), bd_some, if_neg (show ¬ nI 1 = 0 from by decide), if_pos (show nI 1 = 1 from rfl), h.1, hv1.1, show (1 : Int64) = lN 1 from rfl, show (5 : Int64) = lN 5 from rfl, mIn48 hv1.2 (by decide) (by decide), bd2_some, gp_pos (b01_01 _)]
        rw [if_neg (nI_ge (by omega) (by omega)), gp_pos hO22, hcs1, bd2_some, show FX3_figure 1 1 (hp c m) = some (nI (vt c 1) - 48, hp c m) from eFig h (k := 1) (by omega), bd2_some]
        by_cases en : 49 ≤ vt c 1 ∧ vt c 1 ≤ 53
        · obtain ⟨n, hn⟩ : ∃ n, vt c 1 = 48 + n := ⟨vt c 1 - 48, by omega⟩
          rw [decide_eq_true en, if_neg b01_1, s48 (by omega), show vt c 1 - 48 = n by omega, if_neg (show ¬ nI n < 1 from nI_nlt (b := 1) (by omega) (by omega)), if_pos (show nI n ≤ 5 from nI_le (b := 5) (by omega) (by decide)), show (2 : Int32) * nI n = nI (2 * n) from (Int32.ofNat_mul 2 n).symm, show (2 : Int32) + nI (2 * n) = nI (2 + 2 * n) from nI_add 2 (2 * n), show nI 1 + 1 = nI 2 from rfl]
          obtain ⟨r, q1, q2, q3⟩ := faultL h (n := n) (by omega) (by omega) hn (2 * n) 2 0 4096 4094 (by omega) (by omega) (by omega) (by omega) (by omega) (by split <;> decide) (by
            intro s hs
            have : bk n 2 = 2 := by unfold bk; rw [if_neg (by omega)]
            rw [this, show (if 2 = 2 + n then 0 else 0) = 0 from by split <;> rfl, Nat.zero_testBit]
            constructor
            · intro q; cases q
            · rintro ⟨e, g1, g2, g3⟩; omega) (fun p g1 g2 => by omega)
          exact ⟨r, q1, q2, fun q => ⟨n, by omega, by omega, hn, q3 q⟩⟩
        · refine ⟨1, ?_, ?_, fun q => absurd q (by decide)⟩
          · by_cases e1 : vt c 1 < 49
            · rw [if_pos]
              rw [fa_lt, show (nI (vt c 1) - 48).toInt = (vt c 1 : Int) - 48 from pk_sub_toInt (b := 48) (by omega) (by decide)]
              show (vt c 1 : Int) - 48 < 1
              omega
            · rw [s48 (by omega), if_neg (show ¬ nI (vt c 1 - 48) < 1 from nI_nlt (b := 1) (by omega) (by omega)), if_neg (show ¬ nI (vt c 1 - 48) ≤ 5 from nI_ge (a := 5) (by omega) (by omega))]
          · rw [decide_eq_false en, if_pos b01_f]
            rfl
    · refine ⟨0, ?_, ?_, fun q => absurd q (by decide)⟩
      · rw [if_neg e83]
      · rw [decide_eq_false e83, if_pos b01_f]
        rfl
end TX
theorem c_fault : Eqv (fun H => FX9_fault 0 H) (fun H => FX10_fault 22 H) := by
  intro c m h
  obtain ⟨r, q1, q2, _⟩ := fault_both (c' := c) h.1
  refine ⟨r, c, m, ?_, q2, h⟩
  show FX9_fault 0 (hp c m) = _
  unfold FX9_fault
  rw [hA0_0, bd_some, gp_pos hO1, q1, bd2_some]
