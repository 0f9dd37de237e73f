/-! Shares: over all orders. -/
def orN (k : Nat) : Nat := ([1, 1, 2, 6, 24, 120] : List Nat).getD k 1
theorem eOr0 : ∀ k, k < 6 → (FX2_orders (nI k) []).map (fun q => q.1) = some (nI (orN k)) := by decide +kernel
theorem eOr {k : Nat} (hk : k < 6) (H : Hp) : FX2_orders (nI k) H = some (nI (orN k), H) := by
  have h := eOr0 k hk
  unfold FX2_orders at h ⊢
  have hc : (nI k).toNatClampNeg = k := nI_clamp (by omega)
  rw [if_neg (nI_pos (by omega)), if_neg (show ¬ (6 : Int32) ≤ nI k from nI_ge (b := 6) hk (by decide)), gp_pos (by rw [hc]; rintro (q | q); exact nI_pos (by omega) q; omega)] at h ⊢
  have h : some (ordf (nI k).toNatClampNeg) = some (nI (orN k)) := h
  rw [Option.some.inj h]
def wN (n x : Nat) : Nat := orN (popc x) * orN (n - 1 - popc x)
def sumC (n s : Nat) (f : Nat → Nat) : Nat → Nat → Nat → Nat
  | 0, _, a => a
  | q + 1, x, a => sumC n s f q (x + 1) (if x.testBit s then a else a + f x * wN n x)
theorem sub_add_sub (x y z w : Int32) : x - y + (z - w) = (x + z) - (y + w) := by
  rw [Int32.sub_eq_add_neg, Int32.sub_eq_add_neg, Int32.sub_eq_add_neg, Int32.neg_add, Int32.sub_eq_add_neg, Int32.add_assoc, Int32.add_assoc, ← Int32.add_assoc (-y), Int32.add_comm (-y) z, Int32.add_assoc z]
theorem pop_ck : (allN 6 fun n => allN n fun s => allN (2 ^ n) fun x => x.testBit s || Nat.blt (popc x) n) = true := by decide +kernel
theorem pop_lt {n s x : Nat} (hn : n ≤ 5) (hs : s < n) (hx : x < 2 ^ n) (h : x.testBit s = false) : popc x < n := by
  have q := allN_at (allN_at (allN_at pop_ck n (by omega)) s hs) x hx
  rw [h, Bool.false_or] at q
  exact Nat.le_of_ble_eq_true q
theorem eMoL {c : CS} {m : MS} {n r u s : Nat} (h : gl (hp c m) 3 n r u) (hr : r ∈ P n) (hu : u ∈ P n) (hs : s < n) : ∀ (q x d a b : Nat), x + q = 2 ^ n → q < d → fX2_moreInAllOrders_10 d 3 (nI s) (nI (2 ^ n - 1)) (nI a - nI b) (nI x) (hp c m) = some (nI (sumC n s (fun x => piecesN n r u (x ||| (1 <<< s))) q x a) - nI (sumC n s (fun x => piecesN n r u x) q x b), hp c m) := by
  have hn := P_n hr
  have hp2n : 2 ^ n ≤ 32 := Nat.pow_le_pow_right (n := 2) (by decide) hn.2
  have hp1 : 0 < 2 ^ n := Nat.two_pow_pos n
  intro q
  induction q with
  | zero =>
    intro x d a b hk hd
    obtain ⟨d, rfl⟩ : ∃ e, d = e + 1 := ⟨d - 1, by omega⟩
    show bX2_moreInAllOrders_10 (fX2_moreInAllOrders_10 d) _ _ _ _ _ _ = _
    unfold bX2_moreInAllOrders_10
    rw [if_pos (nI_lt (by omega) (by omega))]
    rfl
  | succ q ih =>
    intro x d a b hk hd
    obtain ⟨d, rfl⟩ : ∃ e, d = e + 1 := ⟨d - 1, by omega⟩
    show bX2_moreInAllOrders_10 (fX2_moreInAllOrders_10 d) _ _ _ _ _ _ = _
    unfold bX2_moreInAllOrders_10
    rw [if_neg (nI_nlt (by omega) (by omega)), eIsIn (by omega) (by omega), bd2_some, nI_1]
    show _ = some (nI (sumC n s (fun x => piecesN n r u (x ||| (1 <<< s))) q (x + 1) (if x.testBit s then a else a + piecesN n r u (x ||| (1 <<< s)) * wN n x)) - nI (sumC n s (fun x => piecesN n r u x) q (x + 1) (if x.testBit s then b else b + piecesN n r u x * wN n x)), hp c m)
    cases e : x.testBit s with
    | true =>
      rw [bit01_t e, if_neg (by decide), if_pos rfl, if_pos rfl]
      exact ih (x + 1) d a b (by omega) (by omega)
    | false =>
      have hpo := pop_lt hn.2 hs (show x < 2 ^ n by omega) e
      have h1 : x ||| (1 <<< s) < 2 ^ n := Nat.or_lt_two_pow (by omega) (two_lt hs)
      rw [bit01_f (by rw [e]; decide), if_pos rfl, eBits (by omega), bd2_some, gp_pos (glO h), shl1 (by omega), fa_or, ePieces h hr hu (by omega), bd2_some, gp_pos (glO h), ePieces h hr hu (by omega), bd2_some, eOr (by omega), bd2_some, gl0 h, bd_some, show nI n - 1 = nI (n - 1) from pk_sub (b := 1) hn.1, pk_sub (by omega), eOr (by omega), bd2_some, if_neg (show ¬ false = true from by decide), if_neg (show ¬ false = true from by decide), Int32.sub_mul, Int32.sub_mul, nI_mul, nI_mul, nI_mul, nI_mul, sub_add_sub, nI_add, nI_add, Nat.mul_assoc, Nat.mul_assoc]
      exact ih (x + 1) d _ _ (by omega) (by omega)
theorem eMo {c : CS} {m : MS} {n r u s : Nat} (h : gl (hp c m) 3 n r u) (hr : r ∈ P n) (hu : u ∈ P n) (hs : s < n) : FX2_moreInAllOrders 3 (nI s) (hp c m) = some (nI (sumC n s (fun x => piecesN n r u (x ||| (1 <<< s))) (2 ^ n) 0 0) - nI (sumC n s (fun x => piecesN n r u x) (2 ^ n) 0 0), hp c m) := by
  have hn := P_n hr
  have hp2n : 2 ^ n ≤ 32 := Nat.pow_le_pow_right (n := 2) (by decide) hn.2
  unfold FX2_moreInAllOrders
  rw [gp_pos (glO h), eAll h hn.2, bd2_some]
  exact eMoL h hr hu hs (2 ^ n) 0 4096 0 0 (by omega) (by omega)
-- the reference: all numbers that are an order
def sqA (o k : Nat) : Nat := o / 5 ^ k % 5
def isoL (o : Nat) : Nat → Nat → Nat → Nat
  | 0, _, b => b
  | q + 1, k, b => isoL o q (k + 1) (b ||| (1 <<< sqA o k))
def isO' (n o : Nat) : Bool := Nat.beq (isoL o n 0 0) (2 ^ n - 1)
theorem sqA_lt (o k : Nat) : sqA o k < 5 := Nat.mod_lt _ (by decide)
theorem iso_lt (o : Nat) : ∀ (q k b : Nat), b < 32 → isoL o q k b < 32
  | 0, _, _, h => h
  | q + 1, k, b, h => iso_lt o q (k + 1) _ (bit5 h (sqA_lt o k) (t := 0) (by decide)).1
theorem iso_bit (o : Nat) : ∀ (q k b j : Nat), (isoL o q k b).testBit j = true ↔ (b.testBit j = true ∨ ∃ i, k ≤ i ∧ i < k + q ∧ sqA o i = j)
  | 0, k, b, j => ⟨fun h => .inl h, fun h => by
    rcases h with h | ⟨i, h1, h2, _⟩
    · exact h
    · omega⟩
  | q + 1, k, b, j => by
    show (isoL o q (k + 1) (b ||| (1 <<< sqA o k))).testBit j = true ↔ _
    rw [iso_bit o q (k + 1) _ j, Nat.testBit_or, tb1, Bool.or_eq_true, decide_eq_true_eq]
    constructor
    · rintro ((h | h) | ⟨i, h1, h2, h3⟩)
      · exact .inl h
      · exact .inr ⟨k, Nat.le_refl k, by omega, h⟩
      · exact .inr ⟨i, by omega, by omega, h3⟩
    · rintro (h | ⟨i, h1, h2, h3⟩)
      · exact .inl (.inl h)
      · by_cases e : i = k
        · rw [e] at h3; exact .inl (.inr h3)
        · exact .inr ⟨i, by omega, by omega, h3⟩
def coF (s o : Nat) : Nat → Nat → Nat → Nat
  | 0, _, b => b
  | q + 1, k, b => if sqA o k = s then b else coF s o q (k + 1) (b ||| (1 <<< sqA o k))
theorem isO_all {n o : Nat} (h : isO' n o = true) : (∀ j, j < n → ∃ i, i < n ∧ sqA o i = j) ∧ ∀ i, i < n → sqA o i < n := by
  have h := Nat.eq_of_beq_eq_true h
  refine ⟨fun j hj => ?_, fun i hi => ?_⟩
  · have := all_bit hj
    rw [← h, iso_bit] at this
    rcases this with q | ⟨i, h1, h2, h3⟩
    · rw [Nat.zero_testBit] at q; cases q
    · exact ⟨i, by omega, h3⟩
  · have : (isoL o n 0 0).testBit (sqA o i) = true := (iso_bit o n 0 0 _).mpr (.inr ⟨i, by omega, by omega, rfl⟩)
    rw [h] at this
    exact lt_bit (Nat.sub_lt (Nat.two_pow_pos n) (by decide)) this
theorem coF_lt {n s o : Nat} (h : ∀ i, i < n → sqA o i < n) : ∀ (q k b : Nat), k + q ≤ n → b < 2 ^ n → coF s o q k b < 2 ^ n
  | 0, _, _, _, hb => hb
  | q + 1, k, b, hq, hb => by
    unfold coF
    split
    · exact hb
    · exact coF_lt h q (k + 1) _ (by omega) (Nat.or_lt_two_pow hb (two_lt (h k (by omega))))
def lst (n : Nat) : Nat → Nat → List Nat
  | 0, _ => []
  | q + 1, o => if isO' n o then o :: lst n q (o + 1) else lst n q (o + 1)
theorem lst_add (n : Nat) : ∀ (a b o : Nat), lst n (a + b) o = lst n a o ++ lst n b (o + a)
  | 0, b, o => by rw [Nat.zero_add]; rfl
  | a + 1, b, o => by
    rw [show a + 1 + b = (a + b) + 1 by omega]
    show (if isO' n o then o :: lst n (a + b) (o + 1) else lst n (a + b) (o + 1)) = (if isO' n o then o :: lst n a (o + 1) else lst n a (o + 1)) ++ lst n b (o + (a + 1))
    rw [lst_add n a b (o + 1), show o + 1 + a = o + (a + 1) by omega]
    cases isO' n o with
    | true => rfl
    | false => rfl
def blk (n : Nat) : Nat → Nat → List Nat
  | 0, o => if isO' n o then [o] else []
  | k + 1, o => blk n k o ++ (blk n k (o + 5 ^ k) ++ (blk n k (o + 2 * 5 ^ k) ++ (blk n k (o + 3 * 5 ^ k) ++ blk n k (o + 4 * 5 ^ k))))
theorem lst_blk (n : Nat) : ∀ (k o : Nat), lst n (5 ^ k) o = blk n k o
  | 0, o => rfl
  | k + 1, o => by
    rw [show 5 ^ (k + 1) = 5 ^ k + (5 ^ k + (5 ^ k + (5 ^ k + 5 ^ k))) by rw [Nat.pow_succ]; omega, lst_add, lst_add, lst_add, lst_add, lst_blk n k, lst_blk n k, lst_blk n k, lst_blk n k, lst_blk n k]
    show _ = blk n k o ++ (blk n k (o + 5 ^ k) ++ (blk n k (o + 2 * 5 ^ k) ++ (blk n k (o + 3 * 5 ^ k) ++ blk n k (o + 4 * 5 ^ k))))
    rw [show o + 5 ^ k + 5 ^ k = o + 2 * 5 ^ k by omega, show o + 2 * 5 ^ k + 5 ^ k = o + 3 * 5 ^ k by omega, show o + 3 * 5 ^ k + 5 ^ k = o + 4 * 5 ^ k by omega]
def OL : Nat → List Nat
  | 1 => [0]
  | 2 => [1, 5]
  | 3 => [7, 11, 27, 35, 51, 55]
  | 4 => [38, 42, 58, 66, 82, 86, 138, 142, 178, 190, 202, 210, 258, 266, 278, 290, 326, 330, 382, 386, 402, 410, 426, 430]
  | 5 => [194, 198, 214, 222, 238, 242, 294, 298, 334, 346, 358, 366, 414, 422, 434, 446, 482, 486, 538, 542, 558, 566, 582, 586, 694, 698, 714, 722, 738, 742, 894, 898, 954, 970, 978, 990, 1014, 1022, 1054, 1070, 1102, 1110, 1138, 1142, 1178, 1190, 1202, 1210, 1294, 1298, 1334, 1346, 1358, 1366, 1394, 1398, 1454, 1470, 1478, 1490, 1634, 1646, 1654, 1670, 1726, 1730, 1758, 1766, 1778, 1790, 1826, 1830, 1914, 1922, 1934, 1946, 1982, 1986, 2014, 2022, 2054, 2070, 2102, 2110, 2134, 2146, 2154, 2170, 2226, 2230, 2382, 2386, 2402, 2410, 2426, 2430, 2538, 2542, 2558, 2566, 2582, 2586, 2638, 2642, 2678, 2690, 2702, 2710, 2758, 2766, 2778, 2790, 2826, 2830, 2882, 2886, 2902, 2910, 2926, 2930]
  | _ => []
theorem ol1 : blk 1 1 0 = OL 1 := by decide +kernel
theorem ol2 : blk 2 2 0 = OL 2 := by decide +kernel
theorem ol3 : blk 3 3 0 = OL 3 := by decide +kernel
theorem ol4 : blk 4 4 0 = OL 4 := by decide +kernel
theorem ol5 : blk 5 5 0 = OL 5 := by decide +kernel
theorem lst_ol {n : Nat} (h1 : 1 ≤ n) (h5 : n ≤ 5) : lst n (5 ^ n) 0 = OL n := by
  rw [lst_blk]
  have : n = 1 ∨ n = 2 ∨ n = 3 ∨ n = 4 ∨ n = 5 := by omega
  rcases this with rfl | rfl | rfl | rfl | rfl
  · exact ol1
  · exact ol2
  · exact ol3
  · exact ol4
  · exact ol5
def CL : Nat → Nat → List Nat
  | 1, 0 => [0]
  | 2, 0 => [2, 0]
  | 2, 1 => [0, 1]
  | 3, 0 => [6, 6, 4, 0, 2, 0]
  | 3, 1 => [4, 0, 5, 5, 0, 1]
  | 3, 2 => [0, 2, 0, 1, 3, 3]
  | 4, 0 => [14, 14, 14, 14, 14, 14, 12, 12, 8, 0, 4, 0, 10, 10, 8, 0, 2, 0, 6, 6, 4, 0, 2, 0]
  | 4, 1 => [12, 12, 8, 0, 4, 0, 13, 13, 13, 13, 13, 13, 8, 0, 9, 9, 0, 1, 4, 0, 5, 5, 0, 1]
  | 4, 2 => [8, 0, 10, 10, 0, 2, 8, 0, 9, 9, 0, 1, 11, 11, 11, 11, 11, 11, 0, 2, 0, 1, 3, 3]
  | 4, 3 => [0, 4, 0, 2, 6, 6, 0, 4, 0, 1, 5, 5, 0, 2, 0, 1, 3, 3, 7, 7, 7, 7, 7, 7]
  | 5, 0 => [30, 30, 30, 30, 30, 30, 30, 30, 30, 30, 30, 30, 30, 30, 30, 30, 30, 30, 30, 30, 30, 30, 30, 30, 28, 28, 28, 28, 28, 28, 24, 24, 16, 0, 8, 0, 20, 20, 16, 0, 4, 0, 12, 12, 8, 0, 4, 0, 26, 26, 26, 26, 26, 26, 24, 24, 16, 0, 8, 0, 18, 18, 16, 0, 2, 0, 10, 10, 8, 0, 2, 0, 22, 22, 22, 22, 22, 22, 20, 20, 16, 0, 4, 0, 18, 18, 16, 0, 2, 0, 6, 6, 4, 0, 2, 0, 14, 14, 14, 14, 14, 14, 12, 12, 8, 0, 4, 0, 10, 10, 8, 0, 2, 0, 6, 6, 4, 0, 2, 0]
  | 5, 1 => [28, 28, 28, 28, 28, 28, 24, 24, 16, 0, 8, 0, 20, 20, 16, 0, 4, 0, 12, 12, 8, 0, 4, 0, 29, 29, 29, 29, 29, 29, 29, 29, 29, 29, 29, 29, 29, 29, 29, 29, 29, 29, 29, 29, 29, 29, 29, 29, 24, 24, 16, 0, 8, 0, 25, 25, 25, 25, 25, 25, 16, 0, 17, 17, 0, 1, 8, 0, 9, 9, 0, 1, 20, 20, 16, 0, 4, 0, 21, 21, 21, 21, 21, 21, 16, 0, 17, 17, 0, 1, 4, 0, 5, 5, 0, 1, 12, 12, 8, 0, 4, 0, 13, 13, 13, 13, 13, 13, 8, 0, 9, 9, 0, 1, 4, 0, 5, 5, 0, 1]
  | 5, 2 => [24, 24, 16, 0, 8, 0, 26, 26, 26, 26, 26, 26, 16, 0, 18, 18, 0, 2, 8, 0, 10, 10, 0, 2, 24, 24, 16, 0, 8, 0, 25, 25, 25, 25, 25, 25, 16, 0, 17, 17, 0, 1, 8, 0, 9, 9, 0, 1, 27, 27, 27, 27, 27, 27, 27, 27, 27, 27, 27, 27, 27, 27, 27, 27, 27, 27, 27, 27, 27, 27, 27, 27, 16, 0, 18, 18, 0, 2, 16, 0, 17, 17, 0, 1, 19, 19, 19, 19, 19, 19, 0, 2, 0, 1, 3, 3, 8, 0, 10, 10, 0, 2, 8, 0, 9, 9, 0, 1, 11, 11, 11, 11, 11, 11, 0, 2, 0, 1, 3, 3]
  | 5, 3 => [16, 0, 20, 20, 0, 4, 16, 0, 18, 18, 0, 2, 22, 22, 22, 22, 22, 22, 0, 4, 0, 2, 6, 6, 16, 0, 20, 20, 0, 4, 16, 0, 17, 17, 0, 1, 21, 21, 21, 21, 21, 21, 0, 4, 0, 1, 5, 5, 16, 0, 18, 18, 0, 2, 16, 0, 17, 17, 0, 1, 19, 19, 19, 19, 19, 19, 0, 2, 0, 1, 3, 3, 23, 23, 23, 23, 23, 23, 23, 23, 23, 23, 23, 23, 23, 23, 23, 23, 23, 23, 23, 23, 23, 23, 23, 23, 0, 4, 0, 2, 6, 6, 0, 4, 0, 1, 5, 5, 0, 2, 0, 1, 3, 3, 7, 7, 7, 7, 7, 7]
  | 5, 4 => [0, 8, 0, 4, 12, 12, 0, 8, 0, 2, 10, 10, 0, 4, 0, 2, 6, 6, 14, 14, 14, 14, 14, 14, 0, 8, 0, 4, 12, 12, 0, 8, 0, 1, 9, 9, 0, 4, 0, 1, 5, 5, 13, 13, 13, 13, 13, 13, 0, 8, 0, 2, 10, 10, 0, 8, 0, 1, 9, 9, 0, 2, 0, 1, 3, 3, 11, 11, 11, 11, 11, 11, 0, 4, 0, 2, 6, 6, 0, 4, 0, 1, 5, 5, 0, 2, 0, 1, 3, 3, 7, 7, 7, 7, 7, 7, 15, 15, 15, 15, 15, 15, 15, 15, 15, 15, 15, 15, 15, 15, 15, 15, 15, 15, 15, 15, 15, 15, 15, 15]
  | _, _ => []
theorem cl_ck : (allN 6 fun n => allN n fun s => decide ((OL n).map (fun o => coF s o n 0 0) = CL n s) && (CL n s).all (fun x => Nat.blt x (2 ^ n)) && Nat.beq (CL n s).length (orN n)) = true := by decide +kernel
theorem cc_ck : (allN 6 fun n => allN n fun s => allN (2 ^ n) fun x => Nat.beq ((CL n s).count x) (if x.testBit s then 0 else wN n x)) = true := by decide +kernel
def sumN (g : Nat → Nat) : Nat → Nat
  | 0 => 0
  | k + 1 => sumN g k + g k
theorem sumN_add (g h : Nat → Nat) : ∀ k, sumN (fun x => g x + h x) k = sumN g k + sumN h k
  | 0 => rfl
  | k + 1 => by
    show sumN (fun x => g x + h x) k + (g k + h k) = sumN g k + g k + (sumN h k + h k)
    rw [sumN_add g h k]
    omega
theorem sumN_one (f : Nat → Nat) (y : Nat) : ∀ k, sumN (fun x => if x = y then f x else 0) k = if y < k then f y else 0
  | 0 => rfl
  | k + 1 => by
    show sumN (fun x => if x = y then f x else 0) k + (if k = y then f k else 0) = _
    rw [sumN_one f y k]
    by_cases e : k = y
    · subst e
      rw [if_neg (by omega), if_pos rfl, if_pos (by omega)]
      omega
    · rw [if_neg e]
      by_cases e2 : y < k
      · rw [if_pos e2, if_pos (by omega), Nat.add_zero]
      · rw [if_neg e2, if_neg (by omega)]
theorem sumN_cong {g h : Nat → Nat} : ∀ k, (∀ x, x < k → g x = h x) → sumN g k = sumN h k
  | 0, _ => rfl
  | k + 1, e => by
    show sumN g k + g k = sumN h k + h k
    rw [sumN_cong k (fun x hx => e x (by omega)), e k (by omega)]
theorem cnt_sum (f : Nat → Nat) (N : Nat) : ∀ (L : List Nat), (∀ x ∈ L, x < N) → (L.map f).sum = sumN (fun x => L.count x * f x) N
  | [], _ => by
    have : ∀ k, sumN (fun x => ([] : List Nat).count x * f x) k = 0 := by
      intro k
      induction k with
      | zero => rfl
      | succ k ih =>
        show sumN (fun x => ([] : List Nat).count x * f x) k + ([] : List Nat).count k * f k = 0
        rw [ih, List.count_nil, Nat.zero_mul]
    rw [this]
    rfl
  | y :: L, h => by
    have hy := h y List.mem_cons_self
    rw [List.map_cons, List.sum_cons, cnt_sum f N L (fun x hx => h x (List.mem_cons_of_mem y hx))]
    have e : sumN (fun x => (y :: L).count x * f x) N = sumN (fun x => L.count x * f x + (if x = y then f x else 0)) N := by
      refine sumN_cong N (fun x _ => ?_)
      by_cases e : x = y
      · subst e
        rw [List.count_cons_self, if_pos rfl, Nat.succ_mul]
      · rw [List.count_cons_of_ne (fun q => e q.symm), if_neg e]
        omega
    rw [e, sumN_add, sumN_one, if_pos hy]
    omega
theorem sumC_sumN (n s : Nat) (f : Nat → Nat) : ∀ (q x : Nat), sumC n s f q x (sumN (fun x => if x.testBit s then 0 else f x * wN n x) x) = sumN (fun x => if x.testBit s then 0 else f x * wN n x) (x + q)
  | 0, x => rfl
  | q + 1, x => by
    unfold sumC
    rw [show (if x.testBit s then sumN (fun x => if x.testBit s then 0 else f x * wN n x) x else sumN (fun x => if x.testBit s then 0 else f x * wN n x) x + f x * wN n x) = sumN (fun x => if x.testBit s then 0 else f x * wN n x) (x + 1) from by
      show _ = sumN (fun x => if x.testBit s then 0 else f x * wN n x) x + (if x.testBit s then 0 else f x * wN n x)
      split
      · rfl
      · rfl, sumC_sumN n s f q (x + 1), show x + 1 + q = x + (q + 1) by omega]
/-- the sum over sets is the sum over orders -/
theorem sum_both {n s : Nat} (hn : n ≤ 5) (hs : s < n) (f : Nat → Nat) : ((OL n).map (fun o => f (coF s o n 0 0))).sum = sumC n s f (2 ^ n) 0 0 := by
  have h := allN_at (allN_at cl_ck n (by omega)) s hs
  rw [Bool.and_eq_true, Bool.and_eq_true] at h
  have h1 : (OL n).map (fun o => coF s o n 0 0) = CL n s := of_decide_eq_true h.1.1
  have h2 : ∀ x ∈ CL n s, x < 2 ^ n := fun x hx => Nat.le_of_ble_eq_true (List.all_eq_true.mp h.1.2 x hx)
  have e1 : (OL n).map (fun o => f (coF s o n 0 0)) = (CL n s).map f := by
    rw [← h1, List.map_map]
    rfl
  rw [e1, cnt_sum f (2 ^ n) (CL n s) h2]
  have e2 := sumC_sumN n s f (2 ^ n) 0
  rw [Nat.zero_add] at e2
  refine Eq.trans ?_ e2.symm
  refine sumN_cong _ (fun x hx => ?_)
  have h3 := Nat.eq_of_beq_eq_true (allN_at (allN_at (allN_at cc_ck n (by omega)) s hs) x hx)
  rw [h3]
  split
  · rw [Nat.zero_mul]
  · rw [Nat.mul_comm]
theorem ol_len {n : Nat} (h1 : 1 ≤ n) (hn : n ≤ 5) : (OL n).length = orN n := by
  have h := allN_at (allN_at cl_ck n (by omega)) 0 (by omega)
  rw [Bool.and_eq_true, Bool.and_eq_true] at h
  have h1 : (OL n).map (fun o => coF 0 o n 0 0) = CL n 0 := of_decide_eq_true h.1.1
  have h2 := Nat.eq_of_beq_eq_true h.2
  rw [← h1, List.length_map] at h2
  exact h2
