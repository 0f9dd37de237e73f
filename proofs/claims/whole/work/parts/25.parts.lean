/-! Pieces and bands: what the class finds, what the reference finds. -/
def gk (c : Bool) (A S : Nat) : Nat := bif c then tk A S else S
def sy2 (c1 c2 : Nat → Bool) (A1 A2 : Nat → Nat) (i S : Nat) : Nat := gk (c2 i) (A2 i) (gk (c1 i) (A1 i) S)
theorem gk_sub (c : Bool) (A S : Nat) : sub S (gk c A S) := by
  cases c
  · exact sub_rf S
  · exact tk_sub A S
theorem gk_lt {c : Bool} {A S n : Nat} (hA : A < 2 ^ n) (hS : S < 2 ^ n) : gk c A S < 2 ^ n := by
  cases c
  · exact hS
  · exact tk_lt hA hS
theorem gk_stay {c : Bool} {A S T : Nat} (h : sub S T) (hT : gk c A T = T) : sub (gk c A S) T := by
  cases c
  · exact h
  · exact tk_stay h hT
theorem gk_wo {c : Bool} {A S T n : Nat} (hS : S < 2 ^ n) (h1 : gk c A S = S) (h2 : gk c A T = T) : gk c A (wo S T n) = wo S T n := by
  cases c
  · rfl
  · exact tk_wo hS h1 h2
theorem sy2_fix {c1 c2 : Nat → Bool} {A1 A2 : Nat → Nat} {i T : Nat} : sy2 c1 c2 A1 A2 i T = T ↔ (gk (c1 i) (A1 i) T = T ∧ gk (c2 i) (A2 i) T = T) := by
  unfold sy2
  constructor
  · intro h
    have h1 : gk (c1 i) (A1 i) T = T := sub_asm (by have := gk_sub (c2 i) (A2 i) (gk (c1 i) (A1 i) T); rw [h] at this; exact this) (gk_sub _ _ _)
    rw [h1] at h
    exact ⟨h1, h⟩
  · rintro ⟨h1, h2⟩
    rw [h1, h2]
theorem sy2_sys {c1 c2 : Nat → Bool} {A1 A2 : Nat → Nat} {n : Nat} (hn : n ≤ 5) (h1 : ∀ i, i < n → A1 i < 2 ^ n) (h2 : ∀ i, i < n → A2 i < 2 ^ n) : Sys n (sy2 c1 c2 A1 A2) := by
  refine ⟨hn, fun i S hi hS => ⟨sub_tr (gk_sub _ _ _) (gk_sub _ _ _), gk_lt (h2 i hi) (gk_lt (h1 i hi) hS)⟩, fun i S T hi hS hT hST hf => ?_⟩
  obtain ⟨g1, g2⟩ := sy2_fix.mp hf
  exact gk_stay (gk_stay hST g1) g2
theorem sy2_wo {c1 c2 : Nat → Bool} {A1 A2 : Nat → Nat} {n S T : Nat} (h1 : Cls n (sy2 c1 c2 A1 A2) S) (h2 : Cls n (sy2 c1 c2 A1 A2) T) : Cls n (sy2 c1 c2 A1 A2) (wo S T n) := by
  refine ⟨wo_lt h1.1, fun i hi => ?_⟩
  obtain ⟨a1, a2⟩ := sy2_fix.mp (h1.2 i hi)
  obtain ⟨b1, b2⟩ := sy2_fix.mp (h2.2 i hi)
  exact sy2_fix.mpr ⟨gk_wo h1.1 a1 b1, gk_wo h1.1 a2 b2⟩
/-- sets that part the squares -/
def Part (n : Nat) (C : Nat → Nat) : Prop := (∀ i, i < n → C i < 2 ^ n ∧ (C i).testBit i = true) ∧ ∀ i j, i < n → j < n → (C i).testBit j = true → C j = C i
theorem part_of {n : Nat} {sp : Nat → Nat → Nat} {b : Nat → Nat} {m : Nat} (hs : Sys n sp) (hw : ∀ S T, Cls n sp S → Cls n sp T → Cls n sp (wo S T n)) (hb : ∀ i, i < n → b i < 2 ^ n ∧ (b i).testBit i = true ∧ n ≤ m + popc (b i)) (h1 : ∀ i j, i < n → j < n → (itr n sp m (b j)).testBit i = true → sub (b i) (itr n sp m (b j))) (h2 : ∀ i j x, i < n → j < n → (b i).testBit x = true → (itr n sp m (b j)).testBit x = true → (itr n sp m (b j)).testBit i = true) : Part n (fun i => itr n sp m (b i)) := by
  have hc : ∀ i, i < n → Cls n sp (itr n sp m (b i)) := fun i hi => itr_cls hs m _ (hb i hi).1 (hb i hi).2.2
  have hg : ∀ i, i < n → sub (b i) (itr n sp m (b i)) := fun i hi => (itr_grow hs m _ (hb i hi).1).1
  refine ⟨fun i hi => ⟨(hc i hi).1, hg i hi i (hb i hi).2.1⟩, fun i j hi hj hij => ?_⟩
  have hji : (itr n sp m (b j)).testBit i = true := by
    refine Classical.byContradiction fun hx => ?_
    have hU := hw _ _ (hc i hi) (hc j hj)
    have hsub : sub (b i) (wo (itr n sp m (b i)) (itr n sp m (b j)) n) := by
      intro x hxb
      rw [wo_bit (hc i hi).1, hg i hi x hxb, Bool.true_and]
      cases hT : (itr n sp m (b j)).testBit x with
      | false => rfl
      | true => exact absurd (h2 i j x hi hj hxb hT) hx
    have h3 := itr_stay hs hU m _ (hb i hi).1 hsub j hij
    rw [wo_bit (hc i hi).1, hij, hg j hj j (hb j hj).2.1] at h3
    cases h3
  exact sub_asm (itr_stay hs (hc i hi) m _ (hb j hj).1 (h1 j i hj hi hij)) (itr_stay hs (hc j hj) m _ (hb i hi).1 (h1 i j hi hj hji))
/-- counting by what is met already, and by the least: the same -/
def metL (C : Nat → Nat) : Nat → Nat → Nat → Nat → Nat
  | 0, _, _, c => c
  | m + 1, i, b, c => if b.testBit i then metL C m (i + 1) b c else metL C m (i + 1) (b ||| C i) (c + 1)
theorem met_least {n : Nat} {C : Nat → Nat} (hC : Part n C) : ∀ (m i b c : Nat), i + m = n → (∀ j, b.testBit j = true ↔ ∃ k, k < i ∧ (C k).testBit j = true) → metL C m i b c = leastL C m i c
  | 0, i, b, c, _, _ => rfl
  | m + 1, i, b, c, h, hb => by
    have key : b.testBit i = true ↔ ¬ C i &&& (2 ^ i - 1) = 0 := by
      rw [and_ne, hb i]
      constructor
      · rintro ⟨k, h1, h2⟩
        refine ⟨k, ?_, all_bit h1⟩
        rw [hC.2 k i (by omega) (by omega) h2]
        exact (hC.1 k (by omega)).2
      · rintro ⟨k, h1, h2⟩
        have hk : k < i := by
          rw [Nat.testBit_two_pow_sub_one, decide_eq_true_eq] at h2
          exact h2
        refine ⟨k, hk, ?_⟩
        rw [hC.2 i k (by omega) (by omega) h1]
        exact (hC.1 i (by omega)).2
    rw [metL, leastL]
    by_cases e : b.testBit i = true
    · rw [if_pos e, if_neg (key.mp e)]
      refine met_least hC m (i + 1) b c (by omega) (fun j => ?_)
      rw [hb j]
      constructor
      · rintro ⟨k, h1, h2⟩
        exact ⟨k, by omega, h2⟩
      · rintro ⟨k, h1, h2⟩
        by_cases hk : k = i
        · subst hk
          obtain ⟨k2, g1, g2⟩ := (hb k).mp e
          refine ⟨k2, g1, ?_⟩
          rw [← hC.2 k2 k (by omega) (by omega) g2]
          exact h2
        · exact ⟨k, by omega, h2⟩
    · rw [if_neg e, if_pos (Classical.byContradiction fun q => e (key.mpr q))]
      refine met_least hC m (i + 1) _ _ (by omega) (fun j => ?_)
      rw [Nat.testBit_or, Bool.or_eq_true, hb j]
      constructor
      · rintro (⟨k, h1, h2⟩ | h2)
        · exact ⟨k, by omega, h2⟩
        · exact ⟨i, by omega, h2⟩
      · rintro ⟨k, h1, h2⟩
        by_cases hk : k = i
        · subst hk
          exact Or.inr h2
        · exact Or.inl ⟨k, by omega, h2⟩
theorem met_least0 {n : Nat} {C : Nat → Nat} (hC : Part n C) : metL C n 0 0 0 = leastL C n 0 0 := met_least hC n 0 0 0 (by omega) (fun j => by
  rw [Nat.zero_testBit]
  constructor
  · intro h; cases h
  · rintro ⟨k, h1, -⟩; omega)
-- pieces
theorem two_lt {s n : Nat} (hs : s < n) : 1 <<< s < 2 ^ n := by
  rw [Nat.shiftLeft_eq, Nat.one_mul]
  exact Nat.pow_lt_pow_right (by decide) hs
theorem pairn_lt {i j n : Nat} (hi : i < n) (hj : j < n) : pair i j < 2 ^ n := Nat.or_lt_two_pow (two_lt hi) (two_lt hj)
def pc1 (r come opn i : Nat) : Bool := !opn.testBit i && decide (pair i (dg r i) &&& come = pair i (dg r i))
def pc2 (u come i : Nat) : Bool := decide (pair i (dg u i) &&& come = pair i (dg u i))
def spP (r u come opn : Nat) : Nat → Nat → Nat := sy2 (pc1 r come opn) (pc2 u come) (fun i => pair i (dg r i)) (fun i => pair i (dg u i))
theorem join_gk (b A come : Nat) : joinN b A come = gk (decide (A &&& come = A)) A b := by
  unfold joinN gk tk
  by_cases h : A &&& come = A
  · rw [if_pos h, decide_eq_true h]; rfl
  · rw [if_neg h, decide_eq_false h]; rfl
theorem step_sp (r u come opn i b : Nat) : stepN r u come opn i b = spP r u come opn i b := by
  unfold stepN spP sy2 pc1 pc2
  rw [join_gk, join_gk]
  cases opn.testBit i <;> rfl
theorem step_fun (r u come opn : Nat) : stepN r u come opn = spP r u come opn := by
  funext i b
  exact step_sp r u come opn i b
theorem sysP {n r u : Nat} (hr : r ∈ P n) (hu : u ∈ P n) (come opn : Nat) : Sys n (spP r u come opn) :=
  sy2_sys (P_n hr).2 (fun i hi => pairn_lt hi (P_dg hr hi)) (fun i hi => pairn_lt hi (P_dg hu hi))
theorem reachL_itr {n r u come opn : Nat} : ∀ (m b : Nat), reachL n r u come opn m b = itr n (spP r u come opn) m b
  | 0, b => rfl
  | m + 1, b => by
    rw [reachL, itr]
    unfold passN
    rw [step_fun]
    by_cases e : up (spP r u come opn) 0 n b = b
    · rw [if_pos e, e, itr_fix e]
    · rw [if_neg e]
      have := reachL_itr (n := n) (r := r) (u := u) (come := come) (opn := opn) m (up (spP r u come opn) 0 n b)
      exact this
/-- the class stops after n - 1 rounds, the reference after five: the same -/
theorem reach_itr {n r u : Nat} (hr : r ∈ P n) (hu : u ∈ P n) (come opn : Nat) {s : Nat} (hs : s < n) : reachN n r u s come opn = itr n (spP r u come opn) 5 (1 <<< s) := by
  have hn := P_n hr
  unfold reachN
  rw [reachL_itr]
  have h1 := popc_one s (by omega)
  exact itr_more (sysP hr hu come opn) (two_lt hs) (by omega) (by omega)
theorem pieceN_lt {n r u : Nat} (hr : r ∈ P n) (hu : u ∈ P n) {s : Nat} (hs : s < n) : pieceN n r u s < 2 ^ n := by
  unfold pieceN
  rw [reach_itr hr hu _ _ hs]
  exact (itr_grow (sysP hr hu _ _) 5 _ (two_lt hs)).2
theorem piece_part {n r u : Nat} (hr : r ∈ P n) (hu : u ∈ P n) : Part n (pieceN n r u) := by
  have hn := P_n hr
  have h := part_of (n := n) (sp := spP r u (2 ^ n - 1) 0) (b := fun i => 1 <<< i) (m := 5) (sysP hr hu _ _) (fun S T => sy2_wo) (fun i hi => ⟨two_lt hi, by rw [tb1]; exact decide_eq_true rfl, by omega⟩) (fun i j hi hj h => sub1 h) (fun i j x hi hj h1 h2 => by
    rw [tb1, decide_eq_true_eq] at h1
    subst h1
    exact h2)
  refine ⟨fun i hi => ?_, fun i j hi hj => ?_⟩
  · unfold pieceN
    rw [reach_itr hr hu _ _ hi]
    exact h.1 i hi
  · unfold pieceN
    rw [reach_itr hr hu _ _ hi, reach_itr hr hu _ _ hj]
    exact h.2 i j hi hj
-- the reference's pieces: a square takes the one to the right and the one above
def spD (r u : Nat) (k S : Nat) : Nat := if S.testBit k then S ||| pair (dg r k) (dg u k) else S
theorem spD_fix {r u k T : Nat} : spD r u k T = T ↔ (T.testBit k = true → T.testBit (dg r k) = true ∧ T.testBit (dg u k) = true) := by
  unfold spD
  constructor
  · intro h hk
    rw [if_pos hk] at h
    have h1 := of_or_eq h
    exact ⟨h1 _ (sub_orl _ _ _ (by rw [tb1]; exact decide_eq_true rfl)), h1 _ (sub_orr _ _ _ (by rw [tb1]; exact decide_eq_true rfl))⟩
  · intro h
    by_cases hk : T.testBit k = true
    · rw [if_pos hk]
      obtain ⟨h1, h2⟩ := h hk
      exact or_eq (sub_or (sub1 h1) (sub1 h2))
    · rw [if_neg hk]
theorem sysD {n r u : Nat} (hr : r ∈ P n) (hu : u ∈ P n) : Sys n (spD r u) := by
  refine ⟨(P_n hr).2, fun i S hi hS => ?_, fun i S T hi hS hT hST hf => ?_⟩
  · unfold spD
    split
    · exact ⟨sub_orl _ _, Nat.or_lt_two_pow hS (pairn_lt (P_dg hr hi) (P_dg hu hi))⟩
    · exact ⟨sub_rf S, hS⟩
  · unfold spD
    by_cases hk : S.testBit i = true
    · rw [if_pos hk]
      obtain ⟨h1, h2⟩ := spD_fix.mp hf (hST i hk)
      exact sub_or hST (sub_or (sub1 h1) (sub1 h2))
    · rw [if_neg hk]
      exact hST
/-- a set that a permutation keeps, its inverse keeps too -/
theorem keep0 : (allN 6 fun n => (P n).all fun r => allN (2 ^ n) fun S => !(allN n fun k => !S.testBit k || S.testBit (dg r k)) || (allN n fun k => !S.testBit (dg r k) || S.testBit k)) = true := by decide +kernel
theorem allN_of {p : Nat → Bool} : ∀ {n : Nat}, (∀ i, i < n → p i = true) → allN n p = true
  | 0, _ => rfl
  | n + 1, h => by
    show (allN n p && p n) = true
    rw [allN_of (fun i hi => h i (by omega)), h n (by omega)]
    rfl
theorem keep {n r S : Nat} (hr : r ∈ P n) (hS : S < 2 ^ n) (h : ∀ k, k < n → S.testBit k = true → S.testBit (dg r k) = true) : ∀ k, k < n → S.testBit (dg r k) = true → S.testBit k = true := by
  have hn := P_n hr
  have q := allN_at (List.all_eq_true.mp (allN_at keep0 n (by omega)) r hr) S hS
  have h1 : (allN n fun k => !S.testBit k || S.testBit (dg r k)) = true := allN_of (fun k hk => by
    cases h2 : S.testBit k with
    | false => rfl
    | true => rw [h k hk h2]; rfl)
  rw [h1, Bool.not_true, Bool.false_or] at q
  intro k hk h3
  have q2 := allN_at q k hk
  rw [h3, Bool.not_true, Bool.false_or] at q2
  exact q2
theorem pair_bit {i j k : Nat} : (pair i j).testBit k = true ↔ i = k ∨ j = k := by
  unfold pair
  rw [Nat.testBit_or, tb1, tb1, Bool.or_eq_true, decide_eq_true_eq, decide_eq_true_eq]
theorem tk_pair {i j T : Nat} : tk (pair i j) T = T ↔ (T.testBit i = true ↔ T.testBit j = true) := by
  rw [tk_fix]
  constructor
  · rintro (h | h)
    · constructor
      · intro hi
        exact absurd h (and_ne.mpr ⟨i, pair_bit.mpr (Or.inl rfl), hi⟩)
      · intro hj
        exact absurd h (and_ne.mpr ⟨j, pair_bit.mpr (Or.inr rfl), hj⟩)
    · exact ⟨fun _ => h j (pair_bit.mpr (Or.inr rfl)), fun _ => h i (pair_bit.mpr (Or.inl rfl))⟩
  · intro h
    by_cases hi : T.testBit i = true
    · exact Or.inr (sub_or (sub1 hi) (sub1 (h.mp hi)))
    · refine Or.inl (Classical.byContradiction fun hx => ?_)
      obtain ⟨k, h1, h2⟩ := and_ne.mp hx
      rcases pair_bit.mp h1 with rfl | rfl
      · exact hi h2
      · exact hi (h.mpr h2)
theorem clsP_all {n r u T : Nat} (hr : r ∈ P n) (hu : u ∈ P n) : Cls n (spP r u (2 ^ n - 1) 0) T ↔ (T < 2 ^ n ∧ ∀ k, k < n → (T.testBit k = true ↔ T.testBit (dg r k) = true) ∧ (T.testBit k = true ↔ T.testBit (dg u k) = true)) := by
  have h1 : ∀ k, k < n → pc1 r (2 ^ n - 1) 0 k = true := fun k hk => by
    unfold pc1
    rw [Nat.zero_testBit, sub_and (sub_all (pairn_lt hk (P_dg hr hk)))]
    simp
  have h2 : ∀ k, k < n → pc2 u (2 ^ n - 1) k = true := fun k hk => by
    unfold pc2
    rw [sub_and (sub_all (pairn_lt hk (P_dg hu hk)))]
    simp
  constructor
  · rintro ⟨hT, h⟩
    refine ⟨hT, fun k hk => ?_⟩
    obtain ⟨g1, g2⟩ := sy2_fix.mp (h k hk)
    rw [h1 k hk] at g1
    rw [h2 k hk] at g2
    exact ⟨tk_pair.mp g1, tk_pair.mp g2⟩
  · rintro ⟨hT, h⟩
    refine ⟨hT, fun k hk => sy2_fix.mpr ?_⟩
    rw [h1 k hk, h2 k hk]
    exact ⟨tk_pair.mpr (h k hk).1, tk_pair.mpr (h k hk).2⟩
theorem piece_dir {n r u : Nat} (hr : r ∈ P n) (hu : u ∈ P n) {s : Nat} (hs : s < n) : itr n (spD r u) 5 (1 <<< s) = pieceN n r u s := by
  have hn := P_n hr
  unfold pieceN
  rw [reach_itr hr hu _ _ hs]
  have hp := popc_one s (by omega)
  have c1 := itr_cls (sysP hr hu (2 ^ n - 1) 0) 5 _ (two_lt hs) (by omega)
  have c2 := itr_cls (sysD hr hu) 5 _ (two_lt hs) (by omega)
  refine itr_same (sysD hr hu) (sysP hr hu (2 ^ n - 1) 0) (two_lt hs) (by omega) (by omega) ?_ ?_
  · refine (clsP_all hr hu).mpr ⟨c2.1, fun k hk => ?_⟩
    have h3 : ∀ k, k < n → (itr n (spD r u) 5 (1 <<< s)).testBit k = true → (itr n (spD r u) 5 (1 <<< s)).testBit (dg r k) = true := fun k hk h => (spD_fix.mp (c2.2 k hk) h).1
    have h4 : ∀ k, k < n → (itr n (spD r u) 5 (1 <<< s)).testBit k = true → (itr n (spD r u) 5 (1 <<< s)).testBit (dg u k) = true := fun k hk h => (spD_fix.mp (c2.2 k hk) h).2
    exact ⟨⟨h3 k hk, keep hr c2.1 h3 k hk⟩, ⟨h4 k hk, keep hu c2.1 h4 k hk⟩⟩
  · obtain ⟨g1, g2⟩ := (clsP_all hr hu).mp c1
    exact ⟨g1, fun k hk => spD_fix.mpr (fun h => ⟨(g2 k hk).1.mp h, (g2 k hk).2.mp h⟩)⟩
