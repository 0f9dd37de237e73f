/-! Names of pieces: squares in the order in which they are met. -/
def adL (L : List Nat) (x : Nat) : List Nat := if x ∈ L then L else L ++ [x]
def bfs (r u : Nat) : Nat → Nat → List Nat → List Nat
  | 0, _, L => L
  | m + 1, k, L => if k < L.length then bfs r u m (k + 1) (adL (adL L (dg r (L.getD k 0))) (dg u (L.getD k 0))) else L
/-- unlike squares, all below n -/
def Lok (n : Nat) (L : List Nat) : Prop := L.Nodup ∧ ∀ x ∈ L, x < n
theorem nodup_le : ∀ (n : Nat) (L : List Nat), Lok n L → L.length ≤ n
  | n, L, h => by
    have h1 : ∀ i, i < L.length → L.getD i 0 < n := fun i hi => by
      rw [List.getD_eq_getElem?_getD, List.getElem?_eq_getElem hi]
      exact h.2 _ (List.getElem_mem hi)
    refine fb_holes n L.length (fun i => L.getD i 0) h1 (fun i j hij hj he => ?_)
    rw [List.getD_eq_getElem?_getD, List.getElem?_eq_getElem (by omega), List.getD_eq_getElem?_getD, List.getElem?_eq_getElem hj] at he
    have := (List.getElem_inj (h₀ := by omega) (h₁ := hj) h.1).mp he
    omega
theorem adL_ok {n : Nat} {L : List Nat} {x : Nat} (h : Lok n L) (hx : x < n) : Lok n (adL L x) := by
  unfold adL
  split
  · exact h
  · rename_i hm
    refine ⟨?_, fun y hy => ?_⟩
    · rw [List.nodup_append]
      refine ⟨h.1, by simp, fun a ha b hb => ?_⟩
      rw [List.mem_singleton] at hb
      subst hb
      exact fun e => hm (e ▸ ha)
    · rw [List.mem_append, List.mem_singleton] at hy
      rcases hy with hy | rfl
      · exact h.2 y hy
      · exact hx
theorem adL_len (L : List Nat) (x : Nat) : L.length ≤ (adL L x).length := by
  unfold adL
  split
  · exact Nat.le_refl _
  · rw [List.length_append]; omega
theorem adL_get {L : List Nat} {x i : Nat} (hi : i < L.length) : (adL L x).getD i 0 = L.getD i 0 := by
  unfold adL
  split
  · rfl
  · rw [List.getD_eq_getElem?_getD, List.getD_eq_getElem?_getD, List.getElem?_append_left hi]
theorem getD_mem {L : List Nat} {i : Nat} (hi : i < L.length) : L.getD i 0 ∈ L := by
  rw [List.getD_eq_getElem?_getD, List.getElem?_eq_getElem hi]
  exact List.getElem_mem hi
theorem idx_get {L : List Nat} (hL : L.Nodup) {i : Nat} (hi : i < L.length) : L.idxOf (L.getD i 0) = i := by
  rw [List.getD_eq_getElem?_getD, List.getElem?_eq_getElem hi]
  exact List.Nodup.idxOf_getElem hL i hi
theorem idx_lt {L : List Nat} {x : Nat} (h : x ∈ L) : L.idxOf x < L.length := List.idxOf_lt_length_iff.mpr h
theorem idx_app {L : List Nat} {x y : Nat} : (L ++ [x]).idxOf y = if y ∈ L then L.idxOf y else (if y = x then L.length else L.length + 1) := by
  rw [List.idxOf_append]
  by_cases h : y ∈ L
  · rw [if_pos h, if_pos h]
  · rw [if_neg h, if_neg h]
    by_cases e : y = x
    · subst e
      rw [if_pos rfl]
      simp
    · rw [if_neg e]
      have : List.idxOf y [x] = 1 := by
        rw [List.idxOf_cons]
        have hne : (x == y) = false := by simpa using fun q => e q.symm
        rw [hne]
        simp
      rw [this]
      omega
/-- the figures of a name behind those that stand -/
def nmL (w : Nat) (L : List Nat) : Nat → Nat → Nat → Nat
  | 0, _, a => a
  | m + 1, k, a => nmL w L m (k + 1) (a * 10 + L.idxOf (dg w (L.getD k 0)))
def nameN (n r u s : Nat) : Nat := nmL u (bfs r u (n + 1) 0 [s]) (bfs r u (n + 1) 0 [s]).length 0 (nmL r (bfs r u (n + 1) 0 [s]) (bfs r u (n + 1) 0 [s]).length 0 0)
theorem L_10 : (10 : Int64) = lN 10 := rfl
-- the class's words for what was met
def NC (o nu me : Nat) (L : List Nat) : Prop := (∀ i, i < 6 → dg o i = if i < L.length then L.getD i 0 else 0) ∧ (∀ x, x < 8 → (me.testBit x = true ↔ x ∈ L)) ∧ (∀ x, x < 6 → dg nu x = if x ∈ L then L.idxOf x else 0) ∧ o < 32768 ∧ nu < 32768 ∧ me < 256
theorem nc_app {o nu me x : Nat} {L : List Nat} (h : NC o nu me L) (hx : x < 5) (hl : L.length < 5) (hm : x ∉ L) : NC (putN o L.length x) (putN nu x L.length) (me ||| (1 <<< x)) (L ++ [x]) := by
  obtain ⟨h1, h2, h3, h4, h5, h6⟩ := h
  refine ⟨fun i hi => ?_, fun y hy => ?_, fun y hy => ?_, put_lt (k := 5) (by omega) (by omega) h4, put_lt (k := 5) (by omega) (by omega) h5, or_lt256 h6 (by omega)⟩
  · rw [dg_put (by omega) (by omega) hi, List.length_append, List.length_singleton, h1 i hi]
    by_cases e : L.length = i
    · subst e
      rw [if_pos rfl, if_neg (by omega), if_pos (by omega), Nat.zero_or, List.getD_eq_getElem?_getD, List.getElem?_append_right (by omega), Nat.sub_self]
      rfl
    · rw [if_neg e]
      by_cases e2 : i < L.length
      · rw [if_pos e2, if_pos (by omega), List.getD_eq_getElem?_getD, List.getD_eq_getElem?_getD, List.getElem?_append_left e2]
      · rw [if_neg e2, if_neg (by omega)]
  · rw [Nat.testBit_or, tb1, Bool.or_eq_true, decide_eq_true_eq, h2 y hy, List.mem_append, List.mem_singleton]
    constructor
    · rintro (h | h)
      · exact Or.inl h
      · exact Or.inr h.symm
    · rintro (h | h)
      · exact Or.inl h
      · exact Or.inr h.symm
  · rw [dg_put (by omega) (by omega) hy, h3 y hy, idx_app]
    by_cases e : x = y
    · subst e
      rw [if_pos rfl, if_neg hm, if_pos (List.mem_append.mpr (Or.inr (List.mem_singleton.mpr rfl))), if_pos rfl, if_neg hm, Nat.zero_or]
    · rw [if_neg e]
      by_cases e2 : y ∈ L
      · rw [if_pos e2, if_pos (List.mem_append.mpr (Or.inl e2)), if_pos e2]
      · rw [if_neg e2, if_neg]
        intro q
        rw [List.mem_append, List.mem_singleton] at q
        rcases q with q | q
        · exact e2 q
        · exact e q.symm
section NMS
variable {H : Hp} {k p n r u : Nat}
theorem eFigL {w o nu : Nat} {L : List Nat} (hw : w ∈ P n) (hL : Lok n L) {me : Nat} (hc : NC o nu me L) (hcl : ∀ x ∈ L, dg w x ∈ L) (H : Hp) : ∀ (m i d a : Nat), i + m = L.length → m < d → fX2_figures_6 d (nI w) (nI o) (nI nu) (nI L.length) (lN a) (nI i) H = some (lN (nmL w L m i a), H) := by
  have hn := P_n hw
  have hw2 := P_lt hw
  have hll := nodup_le n L hL
  obtain ⟨h1, h2, h3, h4, h5, h6⟩ := hc
  intro m
  induction m with
  | zero =>
    intro i d a hk hd
    obtain ⟨d, rfl⟩ : ∃ e, d = e + 1 := ⟨d - 1, by omega⟩
    show bX2_figures_6 (fX2_figures_6 d) _ _ _ _ _ _ H = _
    unfold bX2_figures_6
    rw [if_pos (nI_le (by omega) (by omega))]
    rfl
  | succ m ih =>
    intro i d a hk hd
    obtain ⟨d, rfl⟩ : ∃ e, d = e + 1 := ⟨d - 1, by omega⟩
    show bX2_figures_6 (fX2_figures_6 d) _ _ _ _ _ _ H = _
    unfold bX2_figures_6
    have g1 : L.getD i 0 ∈ L := getD_mem (by omega)
    have g2 := hL.2 _ g1
    have g3 := hcl _ g1
    have g4 := hL.2 _ g3
    have g5 := idx_lt g3
    rw [if_neg (nI_ge (by omega) (by omega)), eAt (by omega) (by omega), bd2_some, h1 i (by omega), if_pos (by omega), eAt (by omega) (by omega), bd2_some, eAt (by omega) (by omega), bd2_some, h3 _ (by omega), if_pos g3, L_10, lN_mul, nI_l (by omega), lN_add, nI_1]
    exact ih (i + 1) d _ (by omega) (by omega)
/-- one side: the next square is met, or it was -/
theorem eSide (h : gl H k n r u) (hn : n ≤ 5) {K15 : Nat → Int32 → Int32 → Int32 → Int32 → Int32 → Hp → Option (Int64 × Hp)} {K42 : Nat → Int32 → Int32 → Int32 → Int32 → Int32 → Int32 → Int32 → Hp → Option (Int64 × Hp)} {w o nu me i s sd : Nat} {L : List Nat} (hw : w ∈ P n) (hs : s < n) (hL : Lok n L) (hc : NC o nu me L) : ∃ o' nu' me', NC o' nu' me' (adL L (dg w s)) ∧ fX2_nameFrom_64 K15 K42 k (nI o) (nI nu) (nI me) (nI L.length) (nI i) (nI s) (nI sd) (nI w) H = K42 k (nI o') (nI nu') (nI me') (nI (adL L (dg w s)).length) (nI i) (nI s) (nI (sd + 1)) H := by
  have hw2 := P_lt hw
  have hx := P_dg hw hs
  have hll := nodup_le n L hL
  have hc' := hc
  obtain ⟨h1, h2, h3, h4, h5, h6⟩ := hc'
  unfold fX2_nameFrom_64
  rw [eAt (by omega) (by omega), bd2_some, eIsIn (by omega) (by omega), bd2_some]
  by_cases e : dg w s ∈ L
  · have ha : adL L (dg w s) = L := by unfold adL; rw [if_pos e]
    rw [bit01_t ((h2 _ (by omega)).mpr e), if_neg (by decide), ha, nI_1]
    exact ⟨o, nu, me, hc, rfl⟩
  · have ha : adL L (dg w s) = L ++ [dg w s] := by unfold adL; rw [if_neg e]
    have hl2 := nodup_le n _ (adL_ok hL hx)
    rw [ha, List.length_append, List.length_singleton] at hl2
    rw [bit01_f (fun q => e ((h2 _ (by omega)).mp q)), if_pos rfl, ePut (by omega) (by omega), bd2_some, ePut (by omega) (by omega), bd2_some, shl1 (by omega), fa_or, nI_1, nI_1, ha, List.length_append, List.length_singleton]
    exact ⟨_, _, _, nc_app hc (by omega) (by omega) e, rfl⟩
theorem bfs_step (r u m k : Nat) {L : List Nat} (h : k < L.length) : bfs r u (m + 1) k L = bfs r u m (k + 1) (adL (adL L (dg r (L.getD k 0))) (dg u (L.getD k 0))) := by
  rw [bfs, if_pos h]
theorem bfs_end (r u : Nat) {L : List Nat} : ∀ (m k : Nat), L.length ≤ k → bfs r u m k L = L
  | 0, k, _ => rfl
  | m + 1, k, h => by rw [bfs, if_neg (by omega)]
/-- what stands ahead of k is closed -/
def Seen (r u k : Nat) (L : List Nat) : Prop := ∀ i, i < k → dg r (L.getD i 0) ∈ L ∧ dg u (L.getD i 0) ∈ L
theorem adL_mem {L : List Nat} {x y : Nat} : y ∈ adL L x ↔ y ∈ L ∨ y = x := by
  unfold adL
  split
  · rename_i h
    constructor
    · exact Or.inl
    · rintro (q | rfl)
      · exact q
      · exact h
  · rw [List.mem_append, List.mem_singleton]
theorem seen_step {k : Nat} {L : List Nat} (hk : k < L.length) (h : Seen r u k L) : Seen r u (k + 1) (adL (adL L (dg r (L.getD k 0))) (dg u (L.getD k 0))) := by
  have hl := adL_len L (dg r (L.getD k 0))
  intro i hi
  rw [adL_get (by omega), adL_get (by omega)]
  by_cases e : i = k
  · subst e
    exact ⟨adL_mem.mpr (Or.inl (adL_mem.mpr (Or.inr rfl))), adL_mem.mpr (Or.inr rfl)⟩
  · obtain ⟨h1, h2⟩ := h i (by omega)
    exact ⟨adL_mem.mpr (Or.inl (adL_mem.mpr (Or.inl h1))), adL_mem.mpr (Or.inl (adL_mem.mpr (Or.inl h2)))⟩
theorem seen_all {L : List Nat} (h : Seen r u L.length L) : (∀ x ∈ L, dg r x ∈ L) ∧ ∀ x ∈ L, dg u x ∈ L := by
  have key : ∀ x ∈ L, dg r x ∈ L ∧ dg u x ∈ L := by
    intro x hx
    have hi := idx_lt hx
    have h2 := h _ hi
    rw [List.getD_eq_getElem?_getD, List.getElem?_eq_getElem hi, Option.getD_some, List.getElem_idxOf] at h2
    exact h2
  exact ⟨fun x hx => (key x hx).1, fun x hx => (key x hx).2⟩
theorem eName123 (h : gl H k n r u) (hr : r ∈ P n) (hu : u ∈ P n) {o nu me : Nat} {L : List Nat} (hL : Lok n L) (hc : NC o nu me L) (hs : Seen r u L.length L) : fX2_nameFrom_123 k (nI o) (nI nu) (nI L.length) H = some (lN (nmL u L L.length 0 (nmL r L L.length 0 0)), H) := by
  have hn := P_n hr
  have hll := nodup_le n L hL
  obtain ⟨s1, s2⟩ := seen_all hs
  unfold fX2_nameFrom_123 FX2_figures
  rw [gl1 h, bd_some, show (0 : Int64) = lN 0 from rfl, show (0 : Int32) = nI 0 from rfl, eFigL hr hL hc s1 H L.length 0 4096 0 (by omega) (by omega), bd2_some, gl2 h, bd_some, eFigL hu hL hc s2 H L.length 0 4096 _ (by omega) (by omega), bd2_some]
theorem eNameL (h : gl H k n r u) (hr : r ∈ P n) (hu : u ∈ P n) : ∀ (m i d o nu me : Nat) (L : List Nat), n + 1 ≤ i + m → m < d → i ≤ L.length → Lok n L → NC o nu me L → Seen r u i L → fX2_nameFrom_15 d k (nI o) (nI nu) (nI me) (nI L.length) (nI i) H = some (lN (nmL u (bfs r u m i L) (bfs r u m i L).length 0 (nmL r (bfs r u m i L) (bfs r u m i L).length 0 0)), H) := by
  have hn := P_n hr
  intro m
  induction m with
  | zero =>
    intro i d o nu me L h1 h2 h3 hL hc hs
    have := nodup_le n L hL
    omega
  | succ m ih =>
    intro i d o nu me L h1 h2 h3 hL hc hs
    have hll := nodup_le n L hL
    obtain ⟨d, rfl⟩ : ∃ e, d = e + 1 := ⟨d - 1, by omega⟩
    show bX2_nameFrom_15 (fX2_nameFrom_15 d) _ _ _ _ _ _ H = _
    unfold bX2_nameFrom_15
    by_cases e : L.length ≤ i
    · have e2 : i = L.length := by omega
      subst e2
      rw [if_pos (nI_le (by omega) (by omega)), bfs_end r u (m + 1) _ (Nat.le_refl _)]
      exact eName123 h hr hu hL hc hs
    · have hi : i < L.length := by omega
      have hc' := hc
      obtain ⟨c1, c2, c3, c4, c5, c6⟩ := hc'
      have hsq := hL.2 _ (getD_mem hi)
      rw [if_neg (nI_ge (by omega) (by omega)), gl0 h, bd_some, if_neg (nI_ge (by omega) (by omega)), eAt (by omega) (by omega), bd2_some, c1 i (by omega), if_pos hi, bfs_step r u m i hi]
      have hL1 := adL_ok hL (P_dg hr hsq)
      have hL2 := adL_ok hL1 (P_dg hu hsq)
      -- the three turns of the loop over the sides
      show bX2_nameFrom_42 (fX2_nameFrom_15 d) (fX2_nameFrom_42 (fX2_nameFrom_15 d) 4095) _ _ _ _ _ _ _ _ H = _
      unfold bX2_nameFrom_42
      rw [if_neg (by decide), if_pos rfl, gl1 h, bd_some]
      obtain ⟨o1, nu1, me1, hc1, q1⟩ := eSide h hn.2 (K15 := fX2_nameFrom_15 d) (K42 := fX2_nameFrom_42 (fX2_nameFrom_15 d) 4095) (i := i) (sd := 0) hr hsq hL hc
      rw [show (0 : Int32) = nI 0 from rfl, q1]
      show bX2_nameFrom_42 (fX2_nameFrom_15 d) (fX2_nameFrom_42 (fX2_nameFrom_15 d) 4094) _ _ _ _ _ _ _ _ H = _
      unfold bX2_nameFrom_42
      rw [if_neg (by decide), if_neg (by decide), gl2 h, bd_some]
      obtain ⟨o2, nu2, me2, hc2, q2⟩ := eSide h hn.2 (K15 := fX2_nameFrom_15 d) (K42 := fX2_nameFrom_42 (fX2_nameFrom_15 d) 4094) (i := i) (sd := 1) hu hsq hL1 hc1
      rw [q2]
      show bX2_nameFrom_42 (fX2_nameFrom_15 d) (fX2_nameFrom_42 (fX2_nameFrom_15 d) 4093) _ _ _ _ _ _ _ _ H = _
      unfold bX2_nameFrom_42
      rw [if_pos (by decide), nI_1]
      have l1 := adL_len L (dg r (L.getD i 0))
      have l2 := adL_len (adL L (dg r (L.getD i 0))) (dg u (L.getD i 0))
      exact ih (i + 1) d o2 nu2 me2 _ (by omega) (by omega) (by omega) hL2 hc2 (seen_step hi hs)
theorem lok_one {s : Nat} (hs : s < n) : Lok n [s] := ⟨by simp, fun x hx => by rw [List.mem_singleton] at hx; omega⟩
theorem nc_one0 : ∀ s, s < 5 → (∀ i, i < 6 → dg s i = if i < 1 then s else 0) ∧ (∀ x, x < 8 → ((1 <<< s).testBit x = true ↔ x = s)) := by decide +kernel
theorem nc_one {s : Nat} (hs : s < 5) : NC s 0 (1 <<< s) [s] := by
  obtain ⟨h1, h2⟩ := nc_one0 s hs
  refine ⟨fun i hi => ?_, fun x hx => ?_, fun x hx => ?_, by omega, by omega, one_lt (by omega)⟩
  · rw [h1 i hi]
    by_cases e : i < 1
    · have : i = 0 := by omega
      subst this
      rfl
    · rw [if_neg e, if_neg (show ¬ i < [s].length from e)]
  · rw [h2 x hx, List.mem_singleton]
  · rw [dg_zero]
    split
    · rename_i hm
      rw [List.mem_singleton] at hm
      subst hm
      simp
    · rfl
theorem eNameFrom (h : gl H k n r u) (hr : r ∈ P n) (hu : u ∈ P n) {s : Nat} (hs : s < n) : FX2_nameFrom k (nI s) H = some (lN (nameN n r u s), H) := by
  unfold FX2_nameFrom nameN
  have hn := P_n hr
  rw [shl1 (by omega)]
  exact eNameL h hr hu (n + 1) 0 4096 s 0 (1 <<< s) [s] (by omega) (by omega) (by omega) (lok_one hs) (nc_one (by omega)) (fun i hi => by omega)
/-- the least name of a piece -/
def leastNL (n r u S : Nat) : Nat → Nat → Nat → Nat
  | 0, _, a => a
  | m + 1, i, a => leastNL n r u S m (i + 1) (if S.testBit i && decide (nameN n r u i < a) then nameN n r u i else a)
def leastN (n r u s : Nat) : Nat := leastNL n r u (pieceN n r u s) n 0 (nameN n r u s)
theorem nmL_lt (w : Nat) {L : List Nat} : ∀ (m i a B : Nat), L.length ≤ 10 → (∀ j, i ≤ j → j < i + m → dg w (L.getD j 0) ∈ L) → a < B → nmL w L m i a < B * 10 ^ m
  | 0, i, a, B, _, _, ha => by rw [Nat.pow_zero, Nat.mul_one]; exact ha
  | m + 1, i, a, B, hl, hc, ha => by
    have h1 := idx_lt (hc i (Nat.le_refl _) (by omega))
    have h2 := nmL_lt w m (i + 1) (a * 10 + L.idxOf (dg w (L.getD i 0))) (B * 10) hl (fun j g1 g2 => hc j (by omega) (by omega)) (by omega)
    rw [nmL, Nat.pow_succ]
    have h3 : B * 10 * 10 ^ m = B * (10 ^ m * 10) := by rw [Nat.mul_assoc, Nat.mul_comm 10]
    omega
theorem bfs_ok (hr : r ∈ P n) (hu : u ∈ P n) : ∀ (m i : Nat) (L : List Nat), n + 1 ≤ i + m → i ≤ L.length → Lok n L → Seen r u i L → Lok n (bfs r u m i L) ∧ Seen r u (bfs r u m i L).length (bfs r u m i L)
  | 0, i, L, h1, h2, hL, hs => by
    have := nodup_le n L hL
    omega
  | m + 1, i, L, h1, h2, hL, hs => by
    by_cases e : L.length ≤ i
    · have e2 : i = L.length := by omega
      subst e2
      rw [bfs_end r u (m + 1) _ (Nat.le_refl _)]
      exact ⟨hL, hs⟩
    · have hi : i < L.length := by omega
      have hsq := hL.2 _ (getD_mem hi)
      have hL1 := adL_ok hL (P_dg hr hsq)
      have hL2 := adL_ok hL1 (P_dg hu hsq)
      have l1 := adL_len L (dg r (L.getD i 0))
      have l2 := adL_len (adL L (dg r (L.getD i 0))) (dg u (L.getD i 0))
      rw [bfs_step r u m i hi]
      exact bfs_ok hr hu m (i + 1) _ (by omega) (by omega) hL2 (seen_step hi hs)
theorem name_lt (hr : r ∈ P n) (hu : u ∈ P n) {s : Nat} (hs : s < n) : nameN n r u s < 2 ^ 62 := by
  have hn := P_n hr
  obtain ⟨hL, hS⟩ := bfs_ok hr hu (n + 1) 0 [s] (by omega) (by omega) (lok_one hs) (fun i hi => by omega)
  have hll := nodup_le n _ hL
  unfold nameN
  generalize bfs r u (n + 1) 0 [s] = L at hL hS hll
  have h1 := nmL_lt r L.length 0 0 1 (by omega) (fun j _ hj => (hS j (by omega)).1) (by omega)
  have h2 := nmL_lt u L.length 0 _ _ (by omega) (fun j _ hj => (hS j (by omega)).2) h1
  have h3 : 10 ^ L.length ≤ 10 ^ 5 := Nat.pow_le_pow_right (by decide) (by omega)
  have h4 : 1 * 10 ^ L.length * 10 ^ L.length ≤ 10 ^ 5 * 10 ^ 5 := Nat.mul_le_mul (by omega) h3
  omega
theorem lN_ltI {a b : Nat} (ha : a < 2 ^ 62) (hb : b < 2 ^ 62) : lN a < lN b ↔ a < b := by
  rw [fa_lt64]
  unfold lN
  rw [lg_ofNat_toInt (by omega), lg_ofNat_toInt (by omega)]
  omega
theorem eLeastL (h : gl H k n r u) (hr : r ∈ P n) (hu : u ∈ P n) {S : Nat} (hS : S < 65536) : ∀ (m i d a : Nat), i + m = n → m < d → a < 2 ^ 62 → fX2_leastName_20 d k (nI S) (lN a) (nI i) H = some (lN (leastNL n r u S m i a), H) := by
  have hn := P_n hr
  intro m
  induction m with
  | zero =>
    intro i d a hk hd ha
    obtain ⟨d, rfl⟩ : ∃ e, d = e + 1 := ⟨d - 1, by omega⟩
    show bX2_leastName_20 (fX2_leastName_20 d) _ _ _ _ H = _
    unfold bX2_leastName_20
    rw [gl0 h, bd_some, if_pos (nI_le (by omega) (by omega))]
    rfl
  | succ m ih =>
    intro i d a hk hd ha
    obtain ⟨d, rfl⟩ : ∃ e, d = e + 1 := ⟨d - 1, by omega⟩
    show bX2_leastName_20 (fX2_leastName_20 d) _ _ _ _ H = _
    unfold bX2_leastName_20
    rw [gl0 h, bd_some, if_neg (nI_ge (by omega) (by omega)), eIsIn hS (by omega), bd2_some, leastNL]
    by_cases e : S.testBit i = true
    · have hnl := name_lt hr hu (s := i) (by omega)
      rw [bit01_t e, if_neg (by decide), gp_pos (glO h), eNameFrom h hr hu (by omega), bd2_some, nI_1, e, Bool.true_and]
      by_cases e2 : nameN n r u i < a
      · rw [if_pos ((lN_ltI hnl ha).mpr e2), decide_eq_true e2, if_pos rfl]
        exact ih (i + 1) d _ (by omega) (by omega) hnl
      · rw [if_neg (fun q => e2 ((lN_ltI hnl ha).mp q)), decide_eq_false e2, if_neg (by decide)]
        exact ih (i + 1) d _ (by omega) (by omega) ha
    · have e2 : S.testBit i = false := by simpa using e
      rw [bit01_f e, if_pos rfl, nI_1, e2, Bool.false_and, if_neg (by decide)]
      exact ih (i + 1) d _ (by omega) (by omega) ha
theorem eLeast (h : gl H k n r u) (hr : r ∈ P n) (hu : u ∈ P n) {s : Nat} (hs : s < n) : FX2_leastName k (nI s) H = some (lN (leastN n r u s), H) := by
  unfold FX2_leastName leastN
  have hn := P_n hr
  have b1 := P_lt hr
  have b2 := P_lt hu
  have hl := lt32 hn.2 (pieceN_lt hr hu hs)
  unfold pieceN at hl ⊢
  rw [gp_pos (glO h), eAll h hn.2, bd2_some, gp_pos (glO h), show (0 : Int32) = nI 0 from rfl, eReach h hn.1 hn.2 (by omega) (by omega) (by omega) (by omega), bd2_some, gp_pos (glO h), eNameFrom h hr hu hs, bd2_some]
  exact eLeastL h hr hu (by omega) n 0 4096 _ (by omega) (by omega) (name_lt hr hu hs)
end NMS
