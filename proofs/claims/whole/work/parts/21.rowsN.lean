/-! Row's methods over numbers. -/
theorem l_3 : (3 : Int32) = nI 3 := rfl
theorem l_7 : (7 : Int32) = nI 7 := rfl
theorem l_1 : (1 : Int32) = nI 1 := rfl
theorem l_0 : (0 : Int32) = nI 0 := rfl
theorem eAt {w i : Nat} (hw : w < 65536) (hi : i < 10) (H : Hp) : FX6_at (nI w) (nI i) H = some (nI (dg w i), H) := by
  unfold FX6_at iushrF dg
  rw [l_3, l_7, pk_mul, nx_ush hw (by omega), fa_and]
theorem shlN {s k : Nat} (hk : k < 32) (h : s * 2 ^ k < 2 ^ 32) : nI s <<< (nI k &&& 31) = nI (s <<< k) := by
  rw [Nat.shiftLeft_eq]
  exact pk_shlN _ k (s_l k hk) h
theorem ePut {w i s : Nat} (hi : i < 6) (hs : s < 8) (H : Hp) : FX6_put (nI w) (nI i) (nI s) H = some (nI (putN w i s), H) := by
  unfold FX6_put putN
  have h : s * 2 ^ (3 * i) < 2 ^ 32 := by
    have h1 : 2 ^ (3 * i) ≤ 2 ^ 15 := Nat.pow_le_pow_right (by decide) (by omega)
    have h2 : s * 2 ^ (3 * i) ≤ 7 * 2 ^ 15 := Nat.mul_le_mul (by omega) h1
    omega
  rw [l_3, pk_mul, shlN (by omega) h, fa_or]
def bit01 (b i : Nat) : Int32 := if b.testBit i then 1 else 0
theorem tb_and (b i : Nat) : (b >>> i) &&& 1 = if b.testBit i then 1 else 0 := by
  have h : b.testBit i = ((b >>> i) &&& 1 != 0) := by rw [Nat.testBit, Nat.and_comm]
  have h2 : (b >>> i) &&& 1 < 2 := Nat.lt_of_le_of_lt Nat.and_le_right (by decide)
  rw [h]
  generalize (b >>> i) &&& 1 = x at h2 ⊢
  match x, h2 with
  | 0, _ => rfl
  | 1, _ => rfl
theorem eIsIn {b i : Nat} (hb : b < 65536) (hi : i < 32) (H : Hp) : FX6_isIn (nI b) (nI i) H = some (bit01 b i, H) := by
  unfold FX6_isIn iushrF bit01
  rw [nx_ush hb hi, l_1, fa_and, tb_and]
  by_cases h : b.testBit i = true
  · rw [if_pos h, if_pos h, if_pos rfl]
  · rw [if_neg h, if_neg h, if_neg (by decide)]
theorem eThenL {a b n : Nat} (ha : a < 65536) (hb : b < 65536) (hn : n ≤ 6) (H : Hp) : ∀ (m k d w : Nat), k + m = n → m < d → fX6_then_5 d (nI a) (nI b) (nI n) (nI w) (nI k) H = some (nI (up (fun i w => putN w i (dg b (dg a i))) k m w), H) := by
  intro m
  induction m with
  | zero =>
    intro k d w hk hd
    obtain ⟨d, rfl⟩ : ∃ e, d = e + 1 := ⟨d - 1, by omega⟩
    show bX6_then_5 (fX6_then_5 d) _ _ _ _ _ H = _
    unfold bX6_then_5
    rw [if_pos (nI_le (by omega) (by omega))]
    rfl
  | succ m ih =>
    intro k d w hk hd
    obtain ⟨d, rfl⟩ : ∃ e, d = e + 1 := ⟨d - 1, by omega⟩
    show bX6_then_5 (fX6_then_5 d) _ _ _ _ _ H = _
    unfold bX6_then_5
    have h8 := dg_lt a k
    rw [if_neg (nI_ge (by omega) (by omega)), eAt ha (by omega), bd2_some, eAt hb (by omega), bd2_some, ePut (by omega) (dg_lt _ _), bd2_some, nI_1]
    exact ih (k + 1) d _ (by omega) (by omega)
theorem eThen {a b n : Nat} (ha : a < 65536) (hb : b < 65536) (hn : n ≤ 6) (H : Hp) : FX6_then (nI a) (nI b) (nI n) H = some (nI (thenN a b n), H) := by
  unfold FX6_then
  exact eThenL ha hb hn H n 0 4096 0 (by omega) (by omega)
theorem eBackL {a n : Nat} (ha : a < 65536) (hn : n ≤ 6) (h6 : ∀ i, i < n → dg a i < 6) (H : Hp) : ∀ (m k d w : Nat), k + m = n → m < d → fX6_back_4 d (nI a) (nI n) (nI w) (nI k) H = some (nI (up (fun i w => putN w (dg a i) i) k m w), H) := by
  intro m
  induction m with
  | zero =>
    intro k d w hk hd
    obtain ⟨d, rfl⟩ : ∃ e, d = e + 1 := ⟨d - 1, by omega⟩
    show bX6_back_4 (fX6_back_4 d) _ _ _ _ H = _
    unfold bX6_back_4
    rw [if_pos (nI_le (by omega) (by omega))]
    rfl
  | succ m ih =>
    intro k d w hk hd
    obtain ⟨d, rfl⟩ : ∃ e, d = e + 1 := ⟨d - 1, by omega⟩
    show bX6_back_4 (fX6_back_4 d) _ _ _ _ H = _
    unfold bX6_back_4
    rw [if_neg (nI_ge (by omega) (by omega)), eAt ha (by omega), bd2_some, ePut (h6 k (by omega)) (by omega), bd2_some, nI_1]
    exact ih (k + 1) d _ (by omega) (by omega)
theorem eBack {a n : Nat} (ha : a ∈ P n) (H : Hp) : FX6_back (nI a) (nI n) H = some (nI (backN a n), H) := by
  have hn := P_n ha
  have hl := P_lt ha
  unfold FX6_back
  exact eBackL (by omega) (by omega) (fun i hi => by have := P_dg ha hi; omega) H n 0 4096 0 (by omega) (by omega)
/-- the ring of a square, as bits, in so many steps -/
def ringN (w : Nat) : Nat → Nat → Nat → Nat
  | 0, _, b => b
  | m + 1, s, b => ringN w m (dg w s) (b ||| (1 <<< s))
theorem or_lt256 {a s : Nat} (ha : a < 256) (hs : s < 8) : a ||| (1 <<< s) < 256 := by
  refine Nat.or_lt_two_pow (n := 8) ha ?_
  rw [Nat.shiftLeft_eq, Nat.one_mul]
  exact Nat.pow_lt_pow_right (by decide) hs
theorem shl1 {s : Nat} (hs : s < 16) : (1 : Int32) <<< (nI s &&& 31) = nI (1 <<< s) := by
  rw [l_1]
  refine shlN (by omega) ?_
  rw [Nat.one_mul]
  exact Nat.pow_lt_pow_right (by decide) (by omega)
theorem eRingL {w n : Nat} (hw : w < 65536) (hn : n ≤ 6) (H : Hp) : ∀ (m k d s b : Nat), k + m = n → m < d → s < 8 → fX6_ring_8 d (nI w) (nI n) (nI b) (nI s) (nI k) H = some (nI (ringN w m s b), H) := by
  intro m
  induction m with
  | zero =>
    intro k d s b hk hd hs
    obtain ⟨d, rfl⟩ : ∃ e, d = e + 1 := ⟨d - 1, by omega⟩
    show bX6_ring_8 (fX6_ring_8 d) _ _ _ _ _ H = _
    unfold bX6_ring_8
    rw [if_pos (nI_le (by omega) (by omega))]
    rfl
  | succ m ih =>
    intro k d s b hk hd hs
    obtain ⟨d, rfl⟩ : ∃ e, d = e + 1 := ⟨d - 1, by omega⟩
    show bX6_ring_8 (fX6_ring_8 d) _ _ _ _ _ H = _
    unfold bX6_ring_8
    rw [if_neg (nI_ge (by omega) (by omega)), eAt hw (by omega), bd2_some, nI_1, shl1 (by omega), fa_or]
    exact ih (k + 1) d _ _ (by omega) (by omega) (dg_lt _ _)
theorem eRing {w n s : Nat} (hw : w < 65536) (hn : n ≤ 6) (hs : s < 8) (H : Hp) : FX6_ring (nI w) (nI s) (nI n) H = some (nI (ringN w n s 0), H) := by
  unfold FX6_ring
  exact eRingL hw hn H n 0 4096 s 0 (by omega) (by omega) hs
theorem ring_lt (w : Nat) : ∀ (m s b : Nat), s < 8 → b < 256 → ringN w m s b < 256
  | 0, s, b, _, hb => hb
  | m + 1, s, b, hs, hb => ring_lt w m _ _ (dg_lt _ _) (or_lt256 hb hs)
/-- how many rings -/
def ringsN (w n : Nat) : Nat → Nat → Nat → Nat → Nat
  | 0, _, _, c => c
  | m + 1, i, b, c => if b.testBit i then ringsN w n m (i + 1) b c else ringsN w n m (i + 1) (b ||| ringN w n i 0) (c + 1)
theorem or_lt256' {a b : Nat} (ha : a < 256) (hb : b < 256) : a ||| b < 256 := Nat.or_lt_two_pow (n := 8) ha hb
theorem bit01_t {b i : Nat} (h : b.testBit i = true) : bit01 b i = 1 := by unfold bit01; rw [if_pos h]
theorem bit01_f {b i : Nat} (h : ¬ b.testBit i = true) : bit01 b i = 0 := by unfold bit01; rw [if_neg h]
theorem eRingsL {w n : Nat} (hw : w < 65536) (hn : n ≤ 6) (H : Hp) : ∀ (m k d b c : Nat), k + m = n → m < d → b < 256 → fX6_rings_7 d (nI w) (nI n) (nI b) (nI c) (nI k) H = some (nI (ringsN w n m k b c), H) := by
  intro m
  induction m with
  | zero =>
    intro k d b c hk hd hb
    obtain ⟨d, rfl⟩ : ∃ e, d = e + 1 := ⟨d - 1, by omega⟩
    show bX6_rings_7 (fX6_rings_7 d) _ _ _ _ _ H = _
    unfold bX6_rings_7
    rw [if_pos (nI_le (by omega) (by omega))]
    rfl
  | succ m ih =>
    intro k d b c hk hd hb
    obtain ⟨d, rfl⟩ : ∃ e, d = e + 1 := ⟨d - 1, by omega⟩
    show bX6_rings_7 (fX6_rings_7 d) _ _ _ _ _ H = _
    unfold bX6_rings_7
    rw [if_neg (nI_ge (by omega) (by omega)), eIsIn (by omega) (by omega), bd2_some]
    by_cases h : b.testBit k = true
    · rw [bit01_t h, if_neg (by decide), nI_1, ih (k + 1) d b c (by omega) (by omega) hb, ringsN, if_pos h]
    · rw [bit01_f h, if_pos rfl, eRing hw hn (by omega), bd2_some, fa_or, nI_1, nI_1, ih (k + 1) d _ _ (by omega) (by omega) (or_lt256' hb (ring_lt w n k 0 (by omega) (by omega))), ringsN, if_neg h]
theorem eRings {w n : Nat} (hw : w < 65536) (hn : n ≤ 6) (H : Hp) : FX6_rings (nI w) (nI n) H = some (nI (ringsN w n n 0 0 0), H) := by
  unfold FX6_rings
  exact eRingsL hw hn H n 0 4096 0 0 (by omega) (by omega) (by omega)
