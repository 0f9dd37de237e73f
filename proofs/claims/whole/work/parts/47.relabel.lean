/-! Names do not hang on how squares are numbered. -/
def mkL : List Nat → Nat
  | [] => 0
  | x :: L => mkL L ||| (1 <<< x)
theorem mk_bit {j : Nat} : ∀ (L : List Nat), (mkL L).testBit j = true ↔ j ∈ L
  | [] => by rw [mkL, Nat.zero_testBit]; simp
  | x :: L => by
    rw [mkL, Nat.testBit_or, Bool.or_eq_true, mk_bit L, tb1, decide_eq_true_eq, List.mem_cons]
    constructor
    · rintro (h | h)
      · exact .inr h
      · exact .inl h.symm
    · rintro (h | h)
      · exact .inr h.symm
      · exact .inl h
theorem mk_lt {n : Nat} : ∀ (L : List Nat), (∀ x ∈ L, x < n) → mkL L < 2 ^ n
  | [], _ => Nat.two_pow_pos n
  | x :: L, h => Nat.or_lt_two_pow (mk_lt L (fun y hy => h y (List.mem_cons_of_mem x hy))) (two_lt (h x List.mem_cons_self))
theorem popc_fl : ∀ b, b < 32 → popc b = ((List.range 5).filter (fun i => b.testBit i)).length := by decide +kernel
theorem popc_msk {L : List Nat} (hL : Lok 5 L) : popc (mkL L) = L.length := by
  have hb : mkL L < 32 := mk_lt (n := 5) L hL.2
  rw [popc_fl _ hb]
  have hm : ∀ x, x ∈ (List.range 5).filter (fun i => (mkL L).testBit i) ↔ x ∈ L := by
    intro x
    rw [List.mem_filter, List.mem_range, mk_bit]
    exact ⟨fun q => q.2, fun q => ⟨hL.2 x q, q⟩⟩
  refine Nat.le_antisymm (nodup_sub _ _ (List.Pairwise.filter _ List.nodup_range) (fun x hx => (hm x).mp hx)) (nodup_sub _ _ hL.1 (fun x hx => (hm x).mpr hx))
theorem bfs_in {r u : Nat} {C : Nat → Prop} (h : ∀ x, C x → C (dg r x) ∧ C (dg u x)) : ∀ (m k : Nat) (L : List Nat), (∀ x ∈ L, C x) → ∀ x ∈ bfs r u m k L, C x
  | 0, _, _, hL => hL
  | m + 1, k, L, hL => by
    rw [bfs]
    split
    · rename_i hk
      have h0 := hL _ (getD_mem hk)
      refine bfs_in h m (k + 1) _ (fun x hx => ?_)
      rw [adL_mem, adL_mem] at hx
      rcases hx with (hx | rfl) | rfl
      · exact hL x hx
      · exact (h _ h0).1
      · exact (h _ h0).2
    · exact hL
theorem bfs_sub {r u x : Nat} : ∀ (m k : Nat) (L : List Nat), x ∈ L → x ∈ bfs r u m k L
  | 0, _, _, hL => hL
  | m + 1, k, L, hL => by
    rw [bfs]
    split
    · exact bfs_sub m (k + 1) _ (adL_mem.mpr (.inl (adL_mem.mpr (.inl hL))))
    · exact hL
theorem bfs_get {r u i : Nat} : ∀ (m k : Nat) (L : List Nat), i < L.length → (bfs r u m k L).getD i 0 = L.getD i 0
  | 0, _, _, _ => rfl
  | m + 1, k, L, hL => by
    rw [bfs]
    split
    · have l1 := adL_len L (dg r (L.getD k 0))
      have l2 := adL_len (adL L (dg r (L.getD k 0))) (dg u (L.getD k 0))
      rw [bfs_get m (k + 1) _ (by omega), adL_get (by omega), adL_get (by omega)]
    · rfl
section RL
variable {n r u s : Nat}
theorem BL_ok (hr : r ∈ P n) (hu : u ∈ P n) (hs : s < n) : Lok n (bfs r u (n + 1) 0 [s]) ∧ Seen r u (bfs r u (n + 1) 0 [s]).length (bfs r u (n + 1) 0 [s]) := bfs_ok hr hu (n + 1) 0 [s] (by omega) (by omega) (lok_one hs) (fun i hi => by omega)
theorem piece_msk (hr : r ∈ P n) (hu : u ∈ P n) (hs : s < n) : pieceN n r u s = mkL (bfs r u (n + 1) 0 [s]) := by
  have hn := P_n hr
  obtain ⟨hL, hS⟩ := BL_ok hr hu hs
  obtain ⟨c1, c2⟩ := seen_all hS
  have hin : s ∈ bfs r u (n + 1) 0 [s] := bfs_sub _ _ _ List.mem_cons_self
  rw [← piece_dir hr hu hs]
  have hp1 : popc (1 <<< s) = 1 := popc_one s (by omega)
  have hc := itr_cls (sysD hr hu) 5 (1 <<< s) (two_lt hs) (by omega)
  have hg := itr_grow (sysD hr hu) 5 (1 <<< s) (two_lt hs)
  refine sub_asm ?_ ?_
  · refine itr_stay (sysD hr hu) ⟨mk_lt _ hL.2, fun i hi => ?_⟩ 5 (1 <<< s) (two_lt hs) (sub1 ((mk_bit _).mpr hin))
    rw [spD_fix]
    intro hb
    have := (mk_bit _).mp hb
    exact ⟨(mk_bit _).mpr (c1 _ this), (mk_bit _).mpr (c2 _ this)⟩
  · intro j hj
    have hj := (mk_bit _).mp hj
    refine (bfs_in (C := fun x => x < n ∧ (itr n (spD r u) 5 (1 <<< s)).testBit x = true) (fun x hx => ?_) (n + 1) 0 [s] (fun x hx => ?_) j hj).2
    · have := spD_fix.mp (hc.2 x hx.1) hx.2
      exact ⟨⟨P_dg hr hx.1, this.1⟩, ⟨P_dg hu hx.1, this.2⟩⟩
    · rw [List.mem_singleton] at hx
      subst hx
      refine ⟨hs, hg.1 x ?_⟩
      rw [tb1]
      exact decide_eq_true rfl
theorem popc_piece (hr : r ∈ P n) (hu : u ∈ P n) (hs : s < n) : popc (pieceN n r u s) = (bfs r u (n + 1) 0 [s]).length := by
  have hn := P_n hr
  obtain ⟨hL, _⟩ := BL_ok hr hu hs
  rw [piece_msk hr hu hs]
  exact popc_msk ⟨hL.1, fun x hx => Nat.lt_of_lt_of_le (hL.2 x hx) hn.2⟩
theorem bfs_fuel {k : Nat} (hr : r ∈ P n) (hu : u ∈ P n) (e : Nat) : ∀ (q k : Nat) (L : List Nat), n + 1 ≤ k + q → k ≤ L.length → Lok n L → bfs r u (q + e) k L = bfs r u q k L
  | 0, k, L, h1, h2, hL => by
    have := nodup_le n L hL
    omega
  | q + 1, k, L, h1, h2, hL => by
    by_cases hk : k < L.length
    · have hsq := hL.2 _ (getD_mem hk)
      have l1 := adL_len L (dg r (L.getD k 0))
      have l2 := adL_len (adL L (dg r (L.getD k 0))) (dg u (L.getD k 0))
      rw [show q + 1 + e = (q + e) + 1 by omega, bfs_step r u _ k hk, bfs_step r u _ k hk]
      exact bfs_fuel (k := k) hr hu e q (k + 1) _ (by omega) (by omega) (adL_ok (adL_ok hL (P_dg hr hsq)) (P_dg hu hsq))
    · rw [bfs_end r u _ _ (by omega), bfs_end r u _ _ (by omega)]
end RL
/-- the row as the list L numbers it -/
def rlN (r : Nat) (L : List Nat) : Nat := rowOf (fun i => L.idxOf (dg r (L.getD i 0))) L.length
section RM
variable {n r u : Nat} {L : List Nat}
theorem rl_dg (h5 : L.length ≤ 5) {i : Nat} (hi : i < L.length) : dg (rlN r L) i = L.idxOf (dg r (L.getD i 0)) := by
  unfold rlN
  exact dg_rowOf (fun i => Nat.lt_of_le_of_lt List.idxOf_le_length (by omega)) (by omega) hi
theorem gd_inj (hL : L.Nodup) {i j : Nat} (hi : i < L.length) (hj : j < L.length) (h : L.getD i 0 = L.getD j 0) : i = j := by
  rw [← idx_get hL hi, h, idx_get hL hj]
theorem rl_P (hr : r ∈ P n) (hL : Lok n L) (h1 : 1 ≤ L.length) (hc : ∀ x ∈ L, dg r x ∈ L) : rlN r L ∈ P L.length := by
  have hn := P_n hr
  have hl := nodup_le n L hL
  refine P_of h1 (by omega) (fun i hi => idx_lt (hc _ (getD_mem hi))) (fun i j hij hj he => ?_)
  have m1 := mem_get (hc _ (getD_mem (show i < L.length by omega)))
  have m2 := mem_get (hc _ (getD_mem hj))
  rw [he, m2.2] at m1
  have := P_inj hr (hL.2 _ (getD_mem hj)) (hL.2 _ (getD_mem (show i < L.length by omega))) m1.2
  have := gd_inj hL.1 (by omega) (by omega) this
  omega
theorem rl_get (h5 : L.length ≤ 5) (hc : ∀ x ∈ L, dg r x ∈ L) {i : Nat} (hi : i < L.length) : L.getD (dg (rlN r L) i) 0 = dg r (L.getD i 0) ∧ dg (rlN r L) i < L.length := by
  rw [rl_dg h5 hi]
  have := mem_get (hc _ (getD_mem hi))
  exact ⟨this.2, this.1⟩
theorem mp_get {M : List Nat} {f : Nat → Nat} {k : Nat} (hk : k < M.length) : (M.map f).getD k 0 = f (M.getD k 0) := by
  rw [List.getD_eq_getElem?_getD, List.getElem?_map, List.getD_eq_getElem?_getD, List.getElem?_eq_getElem hk]
  rfl
theorem mp_mem (hL : L.Nodup) {M : List Nat} {y : Nat} (hM : ∀ x ∈ M, x < L.length) (hy : y < L.length) : L.getD y 0 ∈ M.map (fun i => L.getD i 0) ↔ y ∈ M := by
  rw [List.mem_map]
  constructor
  · rintro ⟨x, h1, h2⟩
    rw [← gd_inj hL (hM x h1) hy h2]
    exact h1
  · intro h
    exact ⟨y, h, rfl⟩
theorem mp_adL (hL : L.Nodup) {M : List Nat} {y : Nat} (hM : ∀ x ∈ M, x < L.length) (hy : y < L.length) : (adL M y).map (fun i => L.getD i 0) = adL (M.map (fun i => L.getD i 0)) (L.getD y 0) := by
  unfold adL
  by_cases h : y ∈ M
  · rw [if_pos h, if_pos ((mp_mem hL hM hy).mpr h)]
  · rw [if_neg h, if_neg (fun q => h ((mp_mem hL hM hy).mp q)), List.map_append]
    rfl
theorem mp_idx (hL : L.Nodup) {y : Nat} (hy : y < L.length) : ∀ (M : List Nat), (∀ x ∈ M, x < L.length) → (M.map (fun i => L.getD i 0)).idxOf (L.getD y 0) = M.idxOf y
  | [], _ => rfl
  | x :: M, hM => by
    rw [List.map_cons, List.idxOf_cons, List.idxOf_cons, mp_idx hL hy M (fun z hz => hM z (List.mem_cons_of_mem x hz))]
    by_cases e : x = y
    · subst e
      simp
    · have h1 : (x == y) = false := by simpa using e
      have h2 : (L.getD x 0 == L.getD y 0) = false := by
        rw [beq_eq_false_iff_ne]
        exact fun q => e (gd_inj hL (hM x List.mem_cons_self) hy q)
      rw [h1, h2]
theorem mp_bfs (h5 : L.length ≤ 5) (hL : L.Nodup) (hc : ∀ x ∈ L, dg r x ∈ L) (hd : ∀ x ∈ L, dg u x ∈ L) : ∀ (q k : Nat) (M : List Nat), (∀ x ∈ M, x < L.length) → (bfs (rlN r L) (rlN u L) q k M).map (fun i => L.getD i 0) = bfs r u q k (M.map (fun i => L.getD i 0))
  | 0, _, _, _ => rfl
  | q + 1, k, M, hM => by
    by_cases hk : k < M.length
    · have hx := hM _ (getD_mem hk)
      have g1 := rl_get h5 hc hx
      have g2 := rl_get h5 hd hx
      have hM1 : ∀ x ∈ adL M (dg (rlN r L) (M.getD k 0)), x < L.length := fun x hx => by
        rw [adL_mem] at hx
        rcases hx with hx | rfl
        · exact hM x hx
        · exact g1.2
      rw [bfs_step _ _ _ _ hk, bfs_step _ _ _ _ (by rw [List.length_map]; exact hk), mp_get hk, mp_bfs h5 hL hc hd q (k + 1) _ (fun x hx => by
        rw [adL_mem] at hx
        rcases hx with hx | rfl
        · exact hM1 x hx
        · exact g2.2), mp_adL hL hM1 g2.2, mp_adL hL hM g1.2, g1.1, g2.1]
    · rw [bfs_end _ _ _ _ (by omega), bfs_end _ _ _ _ (by rw [List.length_map]; omega)]
theorem mp_nm (h5 : L.length ≤ 5) (hL : L.Nodup) (hc : ∀ x ∈ L, dg r x ∈ L) {M : List Nat} (hM : ∀ x ∈ M, x < L.length) : ∀ (q k a : Nat), k + q ≤ M.length → nmL r (M.map (fun i => L.getD i 0)) q k a = nmL (rlN r L) M q k a
  | 0, _, _, _ => rfl
  | q + 1, k, a, h => by
    have hx := hM _ (getD_mem (show k < M.length by omega))
    have g1 := rl_get h5 hc hx
    rw [nmL, nmL, mp_get (by omega), ← g1.1, mp_idx hL g1.2 M hM]
    exact mp_nm h5 hL hc hM q (k + 1) _ (by omega)
theorem mp_name (hr : r ∈ P n) (hu : u ∈ P n) (hL : Lok n L) (h1 : 1 ≤ L.length) (hc : ∀ x ∈ L, dg r x ∈ L) (hd : ∀ x ∈ L, dg u x ∈ L) {i : Nat} (hi : i < L.length) : nameN n r u (L.getD i 0) = nameN L.length (rlN r L) (rlN u L) i := by
  have hn := P_n hr
  have hl := nodup_le n L hL
  have hr' := rl_P hr hL h1 hc
  have hu' := rl_P hu hL h1 hd
  have e : bfs r u (n + 1) 0 [L.getD i 0] = (bfs (rlN r L) (rlN u L) (L.length + 1) 0 [i]).map (fun i => L.getD i 0) := by
    rw [← bfs_fuel (k := 0) hr' hu' (n - L.length) (L.length + 1) 0 [i] (by omega) (by omega) (lok_one hi), show L.length + 1 + (n - L.length) = n + 1 by omega, mp_bfs (by omega) hL.1 hc hd (n + 1) 0 [i] (fun x hx => by rw [List.mem_singleton] at hx; omega)]
    rfl
  have hM := (BL_ok hr' hu' hi).1.2
  unfold nameN
  rw [e, List.length_map, mp_nm (by omega) hL.1 hc hM _ _ _ (by omega), mp_nm (by omega) hL.1 hd hM _ _ _ (by omega)]
end RM
theorem leastNL_ch {n r u S : Nat} : ∀ (m i a : Nat), leastNL n r u S m i a ≤ a ∧ (∀ j, i ≤ j → j < i + m → S.testBit j = true → leastNL n r u S m i a ≤ nameN n r u j) ∧ (leastNL n r u S m i a = a ∨ ∃ j, i ≤ j ∧ j < i + m ∧ S.testBit j = true ∧ leastNL n r u S m i a = nameN n r u j)
  | 0, i, a => ⟨Nat.le_refl a, fun j h1 h2 => by omega, .inl rfl⟩
  | m + 1, i, a => by
    rw [leastNL]
    obtain ⟨h1, h2, h3⟩ := leastNL_ch (n := n) (r := r) (u := u) (S := S) m (i + 1) (if S.testBit i && decide (nameN n r u i < a) then nameN n r u i else a)
    revert h1 h2 h3
    generalize hb : (if S.testBit i && decide (nameN n r u i < a) then nameN n r u i else a) = b
    intro h1 h2 h3
    have hba : b ≤ a := by
      rw [← hb]
      split
      · rename_i q
        rw [Bool.and_eq_true, decide_eq_true_eq] at q
        omega
      · exact Nat.le_refl a
    have hbi : S.testBit i = true → b ≤ nameN n r u i := by
      intro q
      rw [← hb, q, Bool.true_and]
      by_cases e : nameN n r u i < a
      · rw [decide_eq_true e, if_pos rfl]; exact Nat.le_refl _
      · rw [decide_eq_false e, if_neg (by decide)]; omega
    refine ⟨by omega, fun j g1 g2 g3 => ?_, ?_⟩
    · by_cases e : j = i
      · rw [e] at g3 ⊢
        exact Nat.le_trans h1 (hbi g3)
      · exact h2 j (by omega) (by omega) g3
    · rcases h3 with h3 | ⟨j, g1, g2, g3, g4⟩
      · rw [h3, ← hb]
        split
        · rename_i q
          rw [Bool.and_eq_true] at q
          exact .inr ⟨i, Nat.le_refl i, by omega, q.1, rfl⟩
        · exact .inl rfl
      · exact .inr ⟨j, by omega, by omega, g3, g4⟩
theorem least_ch {n r u s : Nat} (hr : r ∈ P n) (hu : u ∈ P n) (hs : s < n) : (∀ j ∈ bfs r u (n + 1) 0 [s], leastN n r u s ≤ nameN n r u j) ∧ ∃ j ∈ bfs r u (n + 1) 0 [s], leastN n r u s = nameN n r u j := by
  obtain ⟨h1, h2, h3⟩ := leastNL_ch (n := n) (r := r) (u := u) (S := pieceN n r u s) n 0 (nameN n r u s)
  have hL := (BL_ok hr hu hs).1
  have hb : ∀ j, (pieceN n r u s).testBit j = true ↔ j ∈ bfs r u (n + 1) 0 [s] := fun j => by
    rw [piece_msk hr hu hs]
    exact mk_bit _
  refine ⟨fun j hj => h2 j (Nat.zero_le j) (by have := hL.2 j hj; omega) ((hb j).mpr hj), ?_⟩
  rcases h3 with h3 | ⟨j, g1, g2, g3, g4⟩
  · exact ⟨s, bfs_sub _ _ _ List.mem_cons_self, h3⟩
  · exact ⟨j, (hb j).mp g3, g4⟩
/-- a piece by itself, squares numbered as they are met -/
theorem least_rl {n r u s : Nat} (hr : r ∈ P n) (hu : u ∈ P n) (hs : s < n) : ∃ m r' u', m = popc (pieceN n r u s) ∧ r' ∈ P m ∧ u' ∈ P m ∧ bfs r' u' (m + 1) 0 [0] = List.range m ∧ leastN n r u s = leastN m r' u' 0 := by
  have hn := P_n hr
  obtain ⟨hL, hS⟩ := BL_ok hr hu hs
  obtain ⟨c1, c2⟩ := seen_all hS
  have hin : s ∈ bfs r u (n + 1) 0 [s] := bfs_sub _ _ _ List.mem_cons_self
  have h0 : (bfs r u (n + 1) 0 [s]).getD 0 0 = s := bfs_get (n + 1) 0 [s] Nat.zero_lt_one
  have hch := least_ch hr hu hs
  rw [popc_piece hr hu hs]
  have eL : bfs r u (n + 1) 0 [s] = bfs r u (n + 1) 0 [s] := rfl
  revert eL hL hS c1 c2 hin h0 hch
  generalize hM : bfs r u (n + 1) 0 [s] = L
  intro hL hS c1 c2 hin h0 hch _
  have h1 : 1 ≤ L.length := List.length_pos_of_mem hin
  have hl := nodup_le n L hL
  have hr' := rl_P hr hL h1 c1
  have hu' := rl_P hu hL h1 c2
  have hB := (BL_ok hr' hu' (s := 0) h1).1
  have e : (bfs (rlN r L) (rlN u L) (L.length + 1) 0 [0]).map (fun i => L.getD i 0) = L := by
    rw [← bfs_fuel (k := 0) hr' hu' (n - L.length) (L.length + 1) 0 [0] (by omega) (by omega) (lok_one h1), show L.length + 1 + (n - L.length) = n + 1 by omega, mp_bfs (by omega) hL.1 c1 c2 (n + 1) 0 [0] (fun x hx => by rw [List.mem_singleton] at hx; omega)]
    show bfs r u (n + 1) 0 [L.getD 0 0] = L
    rw [h0, hM]
  have el : (bfs (rlN r L) (rlN u L) (L.length + 1) 0 [0]).length = L.length := by
    have := congrArg List.length e
    rwa [List.length_map] at this
  have er : bfs (rlN r L) (rlN u L) (L.length + 1) 0 [0] = List.range L.length := by
    refine List.ext_getElem (by rw [el, List.length_range]) (fun i g1 g2 => ?_)
    rw [List.getElem_range]
    have gi : i < L.length := by rw [← el]; exact g1
    have := mp_get (M := bfs (rlN r L) (rlN u L) (L.length + 1) 0 [0]) (f := fun i => L.getD i 0) g1
    rw [e] at this
    have q := gd_inj hL.1 gi (hB.2 _ (getD_mem g1)) this
    rw [List.getD_eq_getElem?_getD, List.getElem?_eq_getElem g1] at q
    exact q.symm
  refine ⟨L.length, rlN r L, rlN u L, rfl, hr', hu', er, ?_⟩
  obtain ⟨a1, j, a2, a3⟩ := hch
  obtain ⟨b1, i, b2, b3⟩ := least_ch hr' hu' (s := 0) h1
  rw [er] at b1 b2
  have hi := List.mem_range.mp b2
  refine Nat.le_antisymm ?_ ?_
  · rw [b3, ← mp_name hr hu hL h1 c1 c2 hi]
    exact a1 _ (getD_mem hi)
  · have hj := mem_get a2
    rw [a3, ← hj.2, mp_name hr hu hL h1 c1 c2 hj.1]
    exact b1 _ (List.mem_range.mpr hj.1)
