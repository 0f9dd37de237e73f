/-! Sets that grow until they grow no more. -/
def sub (S T : Nat) : Prop := ∀ i, S.testBit i = true → T.testBit i = true
theorem sub_rf (S : Nat) : sub S S := fun _ h => h
theorem sub_tr {A B C : Nat} (h1 : sub A B) (h2 : sub B C) : sub A C := fun i h => h2 i (h1 i h)
theorem sub_asm {A B : Nat} (h1 : sub A B) (h2 : sub B A) : A = B := by
  apply Nat.eq_of_testBit_eq
  intro i
  cases h : A.testBit i with
  | true => exact (h1 i h).symm
  | false =>
    cases h3 : B.testBit i with
    | false => rfl
    | true => rw [h2 i h3] at h; cases h
theorem sub_orl (A B : Nat) : sub A (A ||| B) := fun i h => by rw [Nat.testBit_or, h, Bool.true_or]
theorem sub_orr (A B : Nat) : sub B (A ||| B) := fun i h => by rw [Nat.testBit_or, h, Bool.or_true]
theorem sub_or {A B C : Nat} (h1 : sub A C) (h2 : sub B C) : sub (A ||| B) C := by
  intro i h
  rw [Nat.testBit_or, Bool.or_eq_true] at h
  rcases h with h | h
  · exact h1 i h
  · exact h2 i h
theorem or_eq {A B : Nat} (h : sub B A) : A ||| B = A := sub_asm (sub_or (sub_rf A) h) (sub_orl A B)
theorem of_or_eq {A B : Nat} (h : A ||| B = A) : sub B A := by
  rw [← h]
  exact sub_orr A B
theorem and_sub {A B : Nat} (h : A &&& B = A) : sub A B := by
  intro i hi
  rw [← h, Nat.testBit_and, Bool.and_eq_true] at hi
  exact hi.2
theorem sub_and {A B : Nat} (h : sub A B) : A &&& B = A := by
  apply Nat.eq_of_testBit_eq
  intro i
  rw [Nat.testBit_and]
  cases h1 : A.testBit i with
  | false => rfl
  | true => rw [h i h1]; rfl
theorem and_ne {A B : Nat} : ¬ A &&& B = 0 ↔ ∃ i, A.testBit i = true ∧ B.testBit i = true := by
  constructor
  · intro h
    refine Classical.byContradiction fun hx => h ?_
    apply Nat.eq_of_testBit_eq
    intro i
    rw [Nat.testBit_and, Nat.zero_testBit]
    cases h1 : A.testBit i with
    | false => rfl
    | true =>
      cases h2 : B.testBit i with
      | false => rfl
      | true => exact absurd ⟨i, h1, h2⟩ hx
  · rintro ⟨i, h1, h2⟩ h
    have h3 : (A &&& B).testBit i = true := by rw [Nat.testBit_and, h1, h2]; rfl
    rw [h, Nat.zero_testBit] at h3
    cases h3
theorem tb1 (s i : Nat) : (1 <<< s).testBit i = decide (s = i) := by
  rw [Nat.shiftLeft_eq, Nat.one_mul, Nat.testBit_two_pow]
theorem sub1 {s T : Nat} (h : T.testBit s = true) : sub (1 <<< s) T := by
  intro i hi
  rw [tb1, decide_eq_true_eq] at hi
  rw [← hi]
  exact h
theorem lt_bit {S n i : Nat} (hS : S < 2 ^ n) (h : S.testBit i = true) : i < n := by
  rcases Nat.lt_or_ge i n with h1 | h1
  · exact h1
  · have h2 : S < 2 ^ i := Nat.lt_of_lt_of_le hS (Nat.pow_le_pow_right (by decide) h1)
    rw [Nat.testBit_lt_two_pow h2] at h
    cases h
theorem all_bit {n i : Nat} (hi : i < n) : (2 ^ n - 1).testBit i = true := by
  rw [Nat.testBit_two_pow_sub_one]
  exact decide_eq_true hi
theorem sub_all {S n : Nat} (hS : S < 2 ^ n) : sub S (2 ^ n - 1) := fun i h => all_bit (lt_bit hS h)
theorem popc_grow0 : (allN 32 fun S => allN 32 fun T => !(Nat.beq (S &&& T) S) || (Nat.beq S T || Nat.blt (popc S) (popc T))) = true := by decide +kernel
theorem popc_grow {S T : Nat} (hS : S < 32) (hT : T < 32) (h : sub S T) (hne : S ≠ T) : popc S < popc T := by
  have q := allN_at (allN_at popc_grow0 S hS) T hT
  rw [sub_and h, Nat.beq_refl, beqF hne] at q
  simpa using q
theorem popc_le5 : ∀ n, n < 6 → ∀ S, S < 2 ^ n → popc S ≤ n := by decide +kernel
theorem popc_one : ∀ s, s < 8 → popc (1 <<< s) = 1 := by decide +kernel
theorem popc_pos0 : ∀ S, S < 32 → popc S = 0 → S = 0 := by decide +kernel
section SYS
variable {n : Nat} {sp : Nat → Nat → Nat}
/-- steps that only add, within n bits, and that stay within closed sets -/
def Sys (n : Nat) (sp : Nat → Nat → Nat) : Prop := n ≤ 5 ∧ (∀ i S, i < n → S < 2 ^ n → sub S (sp i S) ∧ sp i S < 2 ^ n) ∧ (∀ i S T, i < n → S < 2 ^ n → T < 2 ^ n → sub S T → sp i T = T → sub (sp i S) T)
def Cls (n : Nat) (sp : Nat → Nat → Nat) (T : Nat) : Prop := T < 2 ^ n ∧ ∀ i, i < n → sp i T = T
theorem up_grow (hs : Sys n sp) : ∀ (m i S : Nat), i + m ≤ n → S < 2 ^ n → sub S (up sp i m S) ∧ up sp i m S < 2 ^ n
  | 0, i, S, _, hS => ⟨sub_rf S, hS⟩
  | m + 1, i, S, h, hS => by
    obtain ⟨h1, h2⟩ := hs.2.1 i S (by omega) hS
    obtain ⟨h3, h4⟩ := up_grow hs m (i + 1) (sp i S) (by omega) h2
    exact ⟨sub_tr h1 h3, h4⟩
theorem up_fix (hs : Sys n sp) : ∀ (m i S : Nat), i + m ≤ n → S < 2 ^ n → up sp i m S = S → ∀ j, i ≤ j → j < i + m → sp j S = S
  | 0, i, S, _, _, _, j, h1, h2 => by omega
  | m + 1, i, S, h, hS, he, j, h1, h2 => by
    obtain ⟨g1, g2⟩ := hs.2.1 i S (by omega) hS
    obtain ⟨g3, g4⟩ := up_grow hs m (i + 1) (sp i S) (by omega) g2
    have g5 : sp i S = S := sub_asm (by rw [show up sp i (m + 1) S = up sp (i + 1) m (sp i S) from rfl] at he; rw [he] at g3; exact g3) g1
    by_cases hj : j = i
    · rw [hj]; exact g5
    · refine up_fix hs m (i + 1) S (by omega) hS ?_ j (by omega) (by omega)
      rw [show up sp i (m + 1) S = up sp (i + 1) m (sp i S) from rfl, g5] at he
      exact he
theorem up_stay (hs : Sys n sp) {T : Nat} (hT : Cls n sp T) : ∀ (m i S : Nat), i + m ≤ n → S < 2 ^ n → sub S T → sub (up sp i m S) T
  | 0, i, S, _, _, h => h
  | m + 1, i, S, h, hS, hST => up_stay hs hT m (i + 1) (sp i S) (by omega) (hs.2.1 i S (by omega) hS).2 (hs.2.2 i S T (by omega) hS hT.1 hST (hT.2 i (by omega)))
/-- so many rounds -/
def itr (n : Nat) (sp : Nat → Nat → Nat) : Nat → Nat → Nat
  | 0, S => S
  | m + 1, S => itr n sp m (up sp 0 n S)
theorem itr_fix {S : Nat} (h : up sp 0 n S = S) : ∀ m, itr n sp m S = S
  | 0 => rfl
  | m + 1 => by rw [itr, h]; exact itr_fix h m
theorem itr_grow (hs : Sys n sp) : ∀ (m S : Nat), S < 2 ^ n → sub S (itr n sp m S) ∧ itr n sp m S < 2 ^ n
  | 0, S, hS => ⟨sub_rf S, hS⟩
  | m + 1, S, hS => by
    obtain ⟨h1, h2⟩ := up_grow hs n 0 S (by omega) hS
    obtain ⟨h3, h4⟩ := itr_grow hs m _ h2
    exact ⟨sub_tr h1 h3, h4⟩
theorem itr_stay (hs : Sys n sp) {T : Nat} (hT : Cls n sp T) : ∀ (m S : Nat), S < 2 ^ n → sub S T → sub (itr n sp m S) T
  | 0, S, _, h => h
  | m + 1, S, hS, h => itr_stay hs hT m _ (up_grow hs n 0 S (by omega) hS).2 (up_stay hs hT n 0 S (by omega) hS h)
theorem itr_cls (hs : Sys n sp) : ∀ (m S : Nat), S < 2 ^ n → n ≤ m + popc S → Cls n sp (itr n sp m S)
  | 0, S, hS, hp => by
    have hn := hs.1
    have h32 : 2 ^ n ≤ 2 ^ 5 := Nat.pow_le_pow_right (by decide) hn
    obtain ⟨h1, h2⟩ := up_grow hs n 0 S (by omega) hS
    have he : up sp 0 n S = S := Classical.byContradiction fun hx => by
      have h3 := popc_grow (by omega) (by omega) h1 (fun e => hx e.symm)
      have h4 := popc_le5 n (by omega) _ h2
      omega
    exact ⟨hS, fun i hi => up_fix hs n 0 S (by omega) hS he i (by omega) (by omega)⟩
  | m + 1, S, hS, hp => by
    have hn := hs.1
    have h32 : 2 ^ n ≤ 2 ^ 5 := Nat.pow_le_pow_right (by decide) hn
    obtain ⟨h1, h2⟩ := up_grow hs n 0 S (by omega) hS
    by_cases he : up sp 0 n S = S
    · rw [itr, he, itr_fix he]
      exact ⟨hS, fun i hi => up_fix hs n 0 S (by omega) hS he i (by omega) (by omega)⟩
    · have h3 := popc_grow (by omega) (by omega) h1 (fun e => he e.symm)
      exact itr_cls hs m _ h2 (by omega)
/-- two such systems with the same closed sets above the start come to the same set -/
theorem itr_same {sp2 : Nat → Nat → Nat} (hs : Sys n sp) (hs2 : Sys n sp2) {S m m2 : Nat} (hS : S < 2 ^ n) (hm : n ≤ m + popc S) (hm2 : n ≤ m2 + popc S) (h1 : Cls n sp2 (itr n sp m S)) (h2 : Cls n sp (itr n sp2 m2 S)) : itr n sp m S = itr n sp2 m2 S :=
  sub_asm (itr_stay hs h2 m S hS (itr_grow hs2 m2 S hS).1) (itr_stay hs2 h1 m2 S hS (itr_grow hs m S hS).1)
theorem itr_more (hs : Sys n sp) {S m m2 : Nat} (hS : S < 2 ^ n) (hm : n ≤ m + popc S) (hm2 : n ≤ m2 + popc S) : itr n sp m S = itr n sp m2 S := itr_same hs hs hS hm hm2 (itr_cls hs m S hS hm) (itr_cls hs m2 S hS hm2)
end SYS
-- a mask: what meets it takes it whole
def tk (A S : Nat) : Nat := if A &&& S = 0 then S else S ||| A
theorem tk_sub (A S : Nat) : sub S (tk A S) := by
  unfold tk
  split
  · exact sub_rf S
  · exact sub_orl S A
theorem tk_lt {A S n : Nat} (hA : A < 2 ^ n) (hS : S < 2 ^ n) : tk A S < 2 ^ n := by
  unfold tk
  split
  · exact hS
  · exact Nat.or_lt_two_pow hS hA
theorem tk_fix {A T : Nat} : tk A T = T ↔ (A &&& T = 0 ∨ sub A T) := by
  unfold tk
  constructor
  · intro h
    by_cases e : A &&& T = 0
    · exact Or.inl e
    · rw [if_neg e] at h
      exact Or.inr (of_or_eq h)
  · rintro (h | h)
    · rw [if_pos h]
    · by_cases e : A &&& T = 0
      · rw [if_pos e]
      · rw [if_neg e]
        exact or_eq h
theorem tk_stay {A S T : Nat} (h : sub S T) (hT : tk A T = T) : sub (tk A S) T := by
  unfold tk
  by_cases e : A &&& S = 0
  · rw [if_pos e]; exact h
  · rw [if_neg e]
    obtain ⟨i, h1, h2⟩ := and_ne.mp e
    rcases tk_fix.mp hT with h3 | h3
    · exact absurd h3 (and_ne.mpr ⟨i, h1, h i h2⟩)
    · exact sub_or h h3
/-- without -/
def wo (S T n : Nat) : Nat := S &&& (T ^^^ (2 ^ n - 1))
theorem wo_bit {S T n i : Nat} (hS : S < 2 ^ n) : (wo S T n).testBit i = (S.testBit i && !T.testBit i) := by
  unfold wo
  rw [Nat.testBit_and, Nat.testBit_xor]
  cases h : S.testBit i with
  | false => rfl
  | true =>
    rw [all_bit (lt_bit hS h)]
    cases T.testBit i <;> rfl
theorem wo_lt {S T n : Nat} (hS : S < 2 ^ n) : wo S T n < 2 ^ n := Nat.lt_of_le_of_lt Nat.and_le_left hS
theorem tk_wo {A S T n : Nat} (hS : S < 2 ^ n) (h1 : tk A S = S) (h2 : tk A T = T) : tk A (wo S T n) = wo S T n := by
  refine tk_fix.mpr ?_
  by_cases e : A &&& wo S T n = 0
  · exact Or.inl e
  · refine Or.inr ?_
    obtain ⟨i, g1, g2⟩ := and_ne.mp e
    rw [wo_bit hS, Bool.and_eq_true] at g2
    have hAS : sub A S := by
      rcases tk_fix.mp h1 with h | h
      · exact absurd h (and_ne.mpr ⟨i, g1, g2.1⟩)
      · exact h
    have hAT : A &&& T = 0 := by
      rcases tk_fix.mp h2 with h | h
      · exact h
      · rw [h i g1] at g2
        exact absurd g2.2 (by decide)
    intro j hj
    rw [wo_bit hS, hAS j hj, Bool.true_and]
    cases hT : T.testBit j with
    | false => rfl
    | true => exact absurd hAT (and_ne.mpr ⟨j, hj, hT⟩)
