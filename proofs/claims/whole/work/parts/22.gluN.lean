/-! Gluing's methods over numbers. -/
/-- a Gluing at a place -/
def gl (H : Hp) (k n r u : Nat) : Prop := H[k]? = some (.inr (2, [.int (nI n), .int (nI r), .int (nI u)]))
theorem gI_of {H : Hp} {k ci j : Nat} {fs : List Value} {x : Int32} (h : H[k]? = some (.inr (ci, fs))) (hj : fs[j]? = some (.int x)) : gI H k ci j = some x := by
  unfold gI
  rw [h]
  simp only [hj, Nat.beq_refl]
theorem gJ_of {H : Hp} {k ci j : Nat} {fs : List Value} {x : Int64} (h : H[k]? = some (.inr (ci, fs))) (hj : fs[j]? = some (.long x)) : gJ H k ci j = some x := by
  unfold gJ
  rw [h]
  simp only [hj, Nat.beq_refl]
theorem gA_of {H : Hp} {k ci j : Nat} {fs : List Value} {x : Nat} (h : H[k]? = some (.inr (ci, fs))) (hj : fs[j]? = some (.ref x)) : gA H k ci j = some x := by
  unfold gA
  rw [h]
  simp only [hj, Nat.beq_refl]
theorem isO_of {H : Hp} {k ci : Nat} {fs : List Value} (h : H[k]? = some (.inr (ci, fs))) : isO H k ci = true := by
  unfold isO
  rw [h]
  exact Nat.beq_refl ci
theorem pV_of {H : Hp} {k ci j : Nat} {fs : List Value} {w v : Value} (h : H[k]? = some (.inr (ci, fs))) (hj : fs[j]? = some w) : pV H k ci j v = some (H.set k (.inr (ci, fs.set j v))) := by
  unfold pV
  rw [h]
  simp only [hj, Nat.beq_refl]
def cN (n r u : Nat) : Nat := thenN (thenN r u n) (thenN (backN r n) (backN u n) n) n
theorem P_c {n r u : Nat} (hr : r ∈ P n) (hu : u ∈ P n) : cN n r u ∈ P n := P_then (P_then hr hu) (P_then (P_back hr) (P_back hu))
section GLU
variable {H : Hp} {k n r u : Nat}
theorem gl0 (h : gl H k n r u) : gI H k 2 0 = some (nI n) := gI_of h rfl
theorem gl1 (h : gl H k n r u) : gI H k 2 1 = some (nI r) := gI_of h rfl
theorem gl2 (h : gl H k n r u) : gI H k 2 2 = some (nI u) := gI_of h rfl
theorem glO (h : gl H k n r u) : isO H k 2 = true := isO_of h
theorem eAll (h : gl H k n r u) (hn : n ≤ 5) : FX2_all k H = some (nI (2 ^ n - 1), H) := by
  unfold FX2_all
  have h2 : 1 ≤ 2 ^ n := Nat.one_le_two_pow
  rw [gl0 h, bd_some, shl1 (by omega), l_1, Nat.shiftLeft_eq, Nat.one_mul, pk_sub h2]
theorem eLeft (h : gl H k n r u) (hr : r ∈ P n) : FX2_left k H = some (nI (backN r n), H) := by
  unfold FX2_left
  rw [gl1 h, bd_some, gl0 h, bd_some, eBack hr, bd2_some]
theorem eDown (h : gl H k n r u) (hu : u ∈ P n) : FX2_down k H = some (nI (backN u n), H) := by
  unfold FX2_down
  rw [gl2 h, bd_some, gl0 h, bd_some, eBack hu, bd2_some]
theorem eTurned (h : gl H k n r u) (hr : r ∈ P n) (hu : u ∈ P n) : FX2_turnedRound k H = some (nI (cN n r u), H) := by
  unfold FX2_turnedRound
  have hn := P_n hr
  have b1 := P_lt hr
  have b2 := P_lt hu
  have b3 := P_lt (P_back hr)
  have b4 := P_lt (P_back hu)
  have b5 := P_lt (P_then hr hu)
  have b6 := P_lt (P_then (P_back hr) (P_back hu))
  rw [gl1 h, bd_some, gl2 h, bd_some, gl0 h, bd_some, eThen (by omega) (by omega) (by omega), bd2_some, gp_pos (glO h), eLeft h hr, bd2_some, gp_pos (glO h), eDown h hu, bd2_some, gl0 h, bd_some, eThen (by omega) (by omega) (by omega), bd2_some, gl0 h, bd_some, eThen (by omega) (by omega) (by omega), bd2_some]
  rfl
theorem eCorners (h : gl H k n r u) (hr : r ∈ P n) (hu : u ∈ P n) : FX2_corners k H = some (nI (ringsN (cN n r u) n n 0 0 0), H) := by
  unfold FX2_corners
  have hn := P_n hr
  have b1 := P_lt (P_c hr hu)
  rw [gp_pos (glO h), eTurned h hr hu, bd2_some, gl0 h, bd_some, eRings (by omega) (by omega), bd2_some]
theorem eRowsC (h : gl H k n r u) (hr : r ∈ P n) : FX2_rows k H = some (nI (ringsN r n n 0 0 0), H) := by
  unfold FX2_rows
  have hn := P_n hr
  have b1 := P_lt hr
  rw [gl1 h, bd_some, gl0 h, bd_some, eRings (by omega) (by omega), bd2_some]
/-- how many squares stay -/
def ordN (c : Nat) : Nat → Nat → Nat → Nat
  | 0, _, a => a
  | m + 1, i, a => ordN c m (i + 1) (if dg c i = i then a + 1 else a)
theorem eOrdL (h : gl H k n r u) (hn : n ≤ 5) {c : Nat} (hc : c < 65536) : ∀ (m i d a : Nat), i + m = n → m < d → fX2_ordinaryCorners_9 d k (nI c) (nI a) (nI i) H = some (nI (ordN c m i a), H) := by
  intro m
  induction m with
  | zero =>
    intro i d a hk hd
    obtain ⟨d, rfl⟩ : ∃ e, d = e + 1 := ⟨d - 1, by omega⟩
    show bX2_ordinaryCorners_9 (fX2_ordinaryCorners_9 d) _ _ _ _ H = _
    unfold bX2_ordinaryCorners_9
    rw [gl0 h, bd_some, if_pos (nI_le (by omega) (by omega))]
    rfl
  | succ m ih =>
    intro i d a hk hd
    obtain ⟨d, rfl⟩ : ∃ e, d = e + 1 := ⟨d - 1, by omega⟩
    show bX2_ordinaryCorners_9 (fX2_ordinaryCorners_9 d) _ _ _ _ H = _
    unfold bX2_ordinaryCorners_9
    have h8 := dg_lt c i
    rw [gl0 h, bd_some, if_neg (nI_ge (by omega) (by omega)), eAt hc (by omega), bd2_some, ordN]
    by_cases e : dg c i = i
    · rw [if_pos (by rw [e]), if_pos e, nI_1, nI_1]
      exact ih (i + 1) d _ (by omega) (by omega)
    · rw [if_neg (fun q => e ((nI_eq (by omega) (by omega)).mp q)), if_neg e, nI_1]
      exact ih (i + 1) d _ (by omega) (by omega)
theorem eOrd (h : gl H k n r u) (hr : r ∈ P n) (hu : u ∈ P n) : FX2_ordinaryCorners k H = some (nI (ordN (cN n r u) n 0 0), H) := by
  unfold FX2_ordinaryCorners
  have hn := P_n hr
  have b1 := P_lt (P_c hr hu)
  rw [gp_pos (glO h), eTurned h hr hu, bd2_some]
  exact eOrdL h hn.2 (by omega) n 0 4096 0 (by omega) (by omega)
def popc (b : Nat) : Nat := b % 2 + b / 2 % 2 + b / 4 % 2 + b / 8 % 2 + b / 16 % 2 + b / 32 % 2 + b / 64 % 2 + b / 128 % 2
theorem eBits0 : ∀ b, b < 256 → (FJ6_bitCount_0f7a4 (nI b) []).map (fun q => q.1) = some (nI (popc b)) := by decide +kernel
theorem eBits {b : Nat} (hb : b < 256) (H : Hp) : FJ6_bitCount_0f7a4 (nI b) H = some (nI (popc b), H) := by
  have h := eBits0 b hb
  unfold FJ6_bitCount_0f7a4 at h ⊢
  exact congrArg (fun x => some (x, H)) (Option.some.inj h)
theorem popc_le : ∀ b, b < 256 → popc b ≤ 8 := by decide +kernel
/-- the longest ring -/
def mostN (c n : Nat) : Nat → Nat → Nat → Nat
  | 0, _, a => a
  | m + 1, i, a => mostN c n m (i + 1) (if a < popc (ringN c n i 0) then popc (ringN c n i 0) else a)
theorem eMostL (h : gl H k n r u) (hn : n ≤ 5) {c : Nat} (hc : c < 65536) : ∀ (m i d a : Nat), i + m = n → m < d → a < 100 → fX2_mostTurns_9 d k (nI c) (nI a) (nI i) H = some (nI (mostN c n m i a), H) := by
  intro m
  induction m with
  | zero =>
    intro i d a hk hd ha
    obtain ⟨d, rfl⟩ : ∃ e, d = e + 1 := ⟨d - 1, by omega⟩
    show bX2_mostTurns_9 (fX2_mostTurns_9 d) _ _ _ _ H = _
    unfold bX2_mostTurns_9
    rw [gl0 h, bd_some, if_pos (nI_le (by omega) (by omega))]
    rfl
  | succ m ih =>
    intro i d a hk hd ha
    obtain ⟨d, rfl⟩ : ∃ e, d = e + 1 := ⟨d - 1, by omega⟩
    show bX2_mostTurns_9 (fX2_mostTurns_9 d) _ _ _ _ H = _
    unfold bX2_mostTurns_9
    have hl := ring_lt c n i 0 (by omega) (by omega)
    have hp := popc_le _ hl
    rw [gl0 h, bd_some, if_neg (nI_ge (by omega) (by omega)), bd_some, eRing hc (by omega) (by omega), bd2_some, eBits hl, bd2_some, nI_1, mostN]
    by_cases e : a < popc (ringN c n i 0)
    · rw [if_pos (nI_lt e (by omega)), if_pos e]
      exact ih (i + 1) d _ (by omega) (by omega) (by omega)
    · rw [if_neg (nI_nlt (by omega) (by omega)), if_neg e]
      exact ih (i + 1) d _ (by omega) (by omega) ha
theorem eMost (h : gl H k n r u) (hr : r ∈ P n) (hu : u ∈ P n) : FX2_mostTurns k H = some (nI (mostN (cN n r u) n n 0 0), H) := by
  unfold FX2_mostTurns
  have hn := P_n hr
  have b1 := P_lt (P_c hr hu)
  rw [gp_pos (glO h), eTurned h hr hu, bd2_some]
  exact eMostL h hn.2 (by omega) n 0 4096 0 (by omega) (by omega) (by omega)
-- hanging together
def joinN (b pair come : Nat) : Nat := if pair &&& come = pair then (if pair &&& b = 0 then b else b ||| pair) else b
theorem eJoin {b pair come : Nat} (hb : b < 256) (hp : pair < 256) (H : Hp) : FX2_joined (nI b) (nI pair) (nI come) H = some (nI (joinN b pair come), H) := by
  unfold FX2_joined joinN
  rw [fa_and, fa_and, fa_or, l_0]
  have h1 : pair &&& come ≤ pair := Nat.and_le_left
  have h2 : pair &&& b ≤ pair := Nat.and_le_left
  by_cases e1 : pair &&& come = pair
  · rw [if_pos (by rw [e1]), if_pos e1]
    by_cases e2 : pair &&& b = 0
    · rw [if_pos (by rw [e2]), if_pos e2]
    · rw [if_neg (fun q => e2 ((nI_eq (by omega) (by omega)).mp q)), if_neg e2]
  · rw [if_neg (fun q => e1 ((nI_eq (by omega) (by omega)).mp q)), if_neg e1]
theorem join_lt {b pair come : Nat} (hb : b < 256) (hp : pair < 256) : joinN b pair come < 256 := by
  unfold joinN
  split
  · split
    · exact hb
    · exact or_lt256' hb hp
  · exact hb
def pair (i j : Nat) : Nat := (1 <<< i) ||| (1 <<< j)
theorem pair_lt {i j : Nat} (hi : i < 8) (hj : j < 8) : pair i j < 256 := or_lt256 (by have := or_lt256 (a := 0) (by decide) hi; rwa [Nat.zero_or] at this) hj
def stepN (r u come opn i b : Nat) : Nat := joinN (if opn.testBit i then b else joinN b (pair i (dg r i)) come) (pair i (dg u i)) come
theorem step_lt {r u come opn i b : Nat} (hi : i < 8) (hb : b < 256) : stepN r u come opn i b < 256 := by
  unfold stepN
  refine join_lt ?_ (pair_lt hi (dg_lt _ _))
  split
  · exact hb
  · exact join_lt hb (pair_lt hi (dg_lt _ _))
theorem up_inv {α : Type} {f : Nat → α → α} {Q : α → Prop} : ∀ (m i : Nat) (a : α), (∀ j a, i ≤ j → j < i + m → Q a → Q (f j a)) → Q a → Q (up f i m a)
  | 0, i, a, _, ha => ha
  | m + 1, i, a, hf, ha => up_inv m (i + 1) _ (fun j a h1 h2 => hf j a (by omega) (by omega)) (hf i a (Nat.le_refl _) (by omega) ha)
theorem eReachI (h : gl H k n r u) (hn : n ≤ 5) (hr : r < 65536) (hu : u < 65536) {come opn : Nat} (ho : opn < 65536) {K8 : Nat → Int32 → Int32 → Int32 → Int32 → Hp → Option (Int32 × Hp)} {rd bf : Nat} (hbf : bf < 256) : ∀ (m i d b : Nat), i + m = n → m < d → b < 256 → fX2_reach_24 K8 d k (nI come) (nI opn) (nI b) (nI rd) (nI bf) (nI i) H = if up (stepN r u come opn) i m b = bf then some (nI (up (stepN r u come opn) i m b), H) else K8 k (nI come) (nI opn) (nI (up (stepN r u come opn) i m b)) (nI (rd + 1)) H := by
  intro m
  induction m with
  | zero =>
    intro i d b hk hd hb
    obtain ⟨d, rfl⟩ : ∃ e, d = e + 1 := ⟨d - 1, by omega⟩
    show bX2_reach_24 K8 (fX2_reach_24 K8 d) _ _ _ _ _ _ _ H = _
    unfold bX2_reach_24
    rw [gl0 h, bd_some, if_pos (nI_le (by omega) (by omega)), nI_1]
    show _ = if b = bf then some (nI b, H) else _
    by_cases e : b = bf
    · rw [if_pos (by rw [e]), if_pos e]
    · rw [if_neg (fun q => e ((nI_eq (by omega) (by omega)).mp q)), if_neg e]
      rfl
  | succ m ih =>
    intro i d b hk hd hb
    obtain ⟨d, rfl⟩ : ∃ e, d = e + 1 := ⟨d - 1, by omega⟩
    show bX2_reach_24 K8 (fX2_reach_24 K8 d) _ _ _ _ _ _ _ H = _
    have h66 : ∀ b, b < 256 → fX2_reach_66 K8 (fX2_reach_24 K8 d) k (nI come) (nI opn) (nI b) (nI rd) (nI bf) (nI i) H = fX2_reach_24 K8 d k (nI come) (nI opn) (nI (joinN b (pair i (dg u i)) come)) (nI rd) (nI bf) (nI (i + 1)) H := by
      intro b hb
      unfold fX2_reach_66
      rw [gl2 h, bd_some, eAt hu (by omega), bd2_some, shl1 (by omega), shl1 (by have := dg_lt u i; omega), fa_or, show (1 <<< i) ||| (1 <<< dg u i) = pair i (dg u i) from rfl, eJoin hb (pair_lt (by omega) (dg_lt _ _)), bd2_some, nI_1]
    unfold bX2_reach_24
    rw [gl0 h, bd_some, if_neg (nI_ge (by omega) (by omega)), eIsIn ho (by omega), bd2_some]
    by_cases e : opn.testBit i = true
    · rw [bit01_t e, if_neg (by decide), h66 b hb, ih (i + 1) d _ (by omega) (by omega) (join_lt hb (pair_lt (by omega) (dg_lt _ _)))]
      rw [show up (stepN r u come opn) i (m + 1) b = up (stepN r u come opn) (i + 1) m (stepN r u come opn i b) from rfl, show stepN r u come opn i b = joinN b (pair i (dg u i)) come by unfold stepN; rw [if_pos e]]
    · have hj := join_lt (come := come) hb (pair_lt (i := i) (by omega) (dg_lt r i))
      rw [bit01_f e, if_pos rfl, gl1 h, bd_some, eAt hr (by omega), bd2_some, shl1 (by omega), shl1 (by have := dg_lt r i; omega), fa_or, show (1 <<< i) ||| (1 <<< dg r i) = pair i (dg r i) from rfl, eJoin hb (pair_lt (by omega) (dg_lt _ _)), bd2_some, h66 _ hj, ih (i + 1) d _ (by omega) (by omega) (join_lt hj (pair_lt (by omega) (dg_lt _ _)))]
      rw [show up (stepN r u come opn) i (m + 1) b = up (stepN r u come opn) (i + 1) m (stepN r u come opn i b) from rfl, show stepN r u come opn i b = joinN (joinN b (pair i (dg r i)) come) (pair i (dg u i)) come by unfold stepN; rw [if_neg e]]
/-- one round over all squares -/
def passN (n r u come opn b : Nat) : Nat := up (stepN r u come opn) 0 n b
def reachL (n r u come opn : Nat) : Nat → Nat → Nat
  | 0, b => b
  | m + 1, b => if passN n r u come opn b = b then b else reachL n r u come opn m (passN n r u come opn b)
theorem pass_lt {n r u come opn b : Nat} (hn : n ≤ 5) (hb : b < 256) : passN n r u come opn b < 256 := up_inv (Q := fun b => b < 256) n 0 b (fun j a _ h2 ha => step_lt (by omega) ha) hb
theorem eReachO (h : gl H k n r u) (hn : n ≤ 5) (hr : r < 65536) (hu : u < 65536) {come opn : Nat} (ho : opn < 65536) : ∀ (m rd d b : Nat), rd + m = n → m < d → b < 256 → fX2_reach_8 d k (nI come) (nI opn) (nI b) (nI rd) H = some (nI (reachL n r u come opn m b), H) := by
  intro m
  induction m with
  | zero =>
    intro rd d b hk hd hb
    obtain ⟨d, rfl⟩ : ∃ e, d = e + 1 := ⟨d - 1, by omega⟩
    show bX2_reach_8 (fX2_reach_8 d) _ _ _ _ _ H = _
    unfold bX2_reach_8
    rw [gl0 h, bd_some, if_pos (nI_le (by omega) (by omega))]
    rfl
  | succ m ih =>
    intro rd d b hk hd hb
    obtain ⟨d, rfl⟩ : ∃ e, d = e + 1 := ⟨d - 1, by omega⟩
    show bX2_reach_8 (fX2_reach_8 d) _ _ _ _ _ H = _
    unfold bX2_reach_8
    rw [gl0 h, bd_some, if_neg (nI_ge (by omega) (by omega)), show (0 : Int32) = nI 0 from rfl, eReachI h hn hr hu ho hb n 0 4096 b (by omega) (by omega) hb]
    show (if passN n r u come opn b = b then some (nI (passN n r u come opn b), H) else _) = some (nI (if passN n r u come opn b = b then b else _), H)
    by_cases e : passN n r u come opn b = b
    · rw [if_pos e, if_pos e, e]
    · rw [if_neg e, if_neg e]
      exact ih (rd + 1) d _ (by omega) (by omega) (pass_lt hn hb)
def reachN (n r u s come opn : Nat) : Nat := reachL n r u come opn (n - 1) (1 <<< s)
theorem one_lt {s : Nat} (hs : s < 8) : 1 <<< s < 256 := by
  have := or_lt256 (a := 0) (by decide) hs
  rwa [Nat.zero_or] at this
theorem eReach (h : gl H k n r u) (h1 : 1 ≤ n) (hn : n ≤ 5) (hr : r < 65536) (hu : u < 65536) {s come opn : Nat} (hs : s < 8) (ho : opn < 65536) : FX2_reach k (nI s) (nI come) (nI opn) H = some (nI (reachN n r u s come opn), H) := by
  unfold FX2_reach
  rw [shl1 (by omega)]
  exact eReachO h hn hr hu ho (n - 1) 1 4096 _ (by omega) (by omega) (one_lt hs)
theorem reachL_lt {n r u come opn : Nat} (hn : n ≤ 5) : ∀ (m b : Nat), b < 256 → reachL n r u come opn m b < 256
  | 0, b, hb => hb
  | m + 1, b, hb => by
    unfold reachL
    split
    · exact hb
    · exact reachL_lt hn m _ (pass_lt hn hb)
theorem reach_lt {n r u s come opn : Nat} (hn : n ≤ 5) (hs : s < 8) : reachN n r u s come opn < 256 := reachL_lt hn _ _ (one_lt hs)
def pieceN (n r u s : Nat) : Nat := reachN n r u s (2 ^ n - 1) 0
theorem ePiece (h : gl H k n r u) (hr : r ∈ P n) (hu : u ∈ P n) {s : Nat} (hs : s < 8) : FX2_piece k (nI s) H = some (nI (pieceN n r u s), H) := by
  unfold FX2_piece
  have hn := P_n hr
  have b1 := P_lt hr
  have b2 := P_lt hu
  rw [gp_pos (glO h), eAll h hn.2, bd2_some, gp_pos (glO h), show (0 : Int32) = nI 0 from rfl, eReach h hn.1 hn.2 (by omega) (by omega) hs (by omega), bd2_some]
  rfl
/-- how many pieces among those that have come -/
def piecesL (n r u come : Nat) : Nat → Nat → Nat → Nat → Nat
  | 0, _, _, c => c
  | m + 1, i, b, c => if come.testBit i && !b.testBit i then piecesL n r u come m (i + 1) (b ||| reachN n r u i come 0) (c + 1) else piecesL n r u come m (i + 1) b c
theorem ePiecesL (h : gl H k n r u) (hr : r ∈ P n) (hu : u ∈ P n) {come : Nat} (hc : come < 65536) : ∀ (m i d b c : Nat), i + m = n → m < d → b < 256 → fX2_pieces_7 d k (nI come) (nI b) (nI c) (nI i) H = some (nI (piecesL n r u come m i b c), H) := by
  have hn := P_n hr
  have b1 := P_lt hr
  have b2 := P_lt hu
  intro m
  induction m with
  | zero =>
    intro i d b c hk hd hb
    obtain ⟨d, rfl⟩ : ∃ e, d = e + 1 := ⟨d - 1, by omega⟩
    show bX2_pieces_7 (fX2_pieces_7 d) _ _ _ _ _ H = _
    unfold bX2_pieces_7
    rw [gl0 h, bd_some, if_pos (nI_le (by omega) (by omega))]
    rfl
  | succ m ih =>
    intro i d b c hk hd hb
    obtain ⟨d, rfl⟩ : ∃ e, d = e + 1 := ⟨d - 1, by omega⟩
    show bX2_pieces_7 (fX2_pieces_7 d) _ _ _ _ _ H = _
    unfold bX2_pieces_7
    rw [gl0 h, bd_some, if_neg (nI_ge (by omega) (by omega)), eIsIn hc (by omega), bd2_some, piecesL]
    by_cases e1 : come.testBit i = true
    · rw [bit01_t e1, if_neg (by decide), eIsIn (by omega) (by omega), bd2_some, e1]
      by_cases e2 : b.testBit i = true
      · rw [bit01_t e2, if_neg (by decide), nI_1, e2]
        exact ih (i + 1) d b c (by omega) (by omega) hb
      · have e3 : b.testBit i = false := by simpa using e2
        rw [bit01_f e2, if_pos rfl, gp_pos (glO h), show (0 : Int32) = nI 0 from rfl, eReach h hn.1 hn.2 (by omega) (by omega) (by omega) (by omega), bd2_some, fa_or, nI_1, nI_1, e3]
        exact ih (i + 1) d _ _ (by omega) (by omega) (or_lt256' hb (reach_lt hn.2 (by omega)))
    · have e3 : come.testBit i = false := by simpa using e1
      rw [bit01_f e1, if_pos rfl, nI_1, e3]
      exact ih (i + 1) d b c (by omega) (by omega) hb
def piecesN (n r u come : Nat) : Nat := piecesL n r u come n 0 0 0
theorem ePieces (h : gl H k n r u) (hr : r ∈ P n) (hu : u ∈ P n) {come : Nat} (hc : come < 65536) : FX2_pieces k (nI come) H = some (nI (piecesN n r u come), H) := by
  unfold FX2_pieces
  exact ePiecesL h hr hu hc n 0 4096 0 0 (by omega) (by have := P_n hr; omega) (by omega)
end GLU
