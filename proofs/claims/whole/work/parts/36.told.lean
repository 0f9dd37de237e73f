/-! Told doings judged; surfaces by a seed. -/
def shT (n r u t k : Nat) : Bool × Nat × Nat := if t / 100 % 10 = 0 ∧ t / 10 % 10 = 0 ∧ t % 10 = 0 then (true, shR n r u k, shU n r u k) else (false, r, u)
def tryN (n r u t : Nat) : Bool × Nat × Nat :=
  if t / 1000 = 1 then shT n r u t 0 else if t / 1000 = 2 then shT n r u t 1 else if t / 1000 = 3 then shT n r u t 2
  else if t / 1000 = 4 then (if t / 100 % 10 = 0 ∧ t / 10 % 10 < n ∧ t % 10 < n ∧ ¬ t / 10 % 10 = t % 10 then (true, tdN n r (t / 10 % 10) (t % 10), tdN n u (t / 10 % 10) (t % 10)) else (false, r, u))
  else if t / 1000 = 5 then (decide (t % 10 = 0 ∧ t / 100 % 10 < n ∧ t / 10 % 10 < n ∧ (pieceN n r u (t / 100 % 10)).testBit (t / 10 % 10) = true), r, u)
  else if t / 1000 = 6 then (decide (t / 100 % 10 = 0 ∧ t / 10 % 10 = 0 ∧ t % 10 ≤ ordN (cN n r u) n 0 0), r, u)
  else if t / 1000 = 7 then (decide (t / 10 % 10 = 0 ∧ t / 100 % 10 < n ∧ holesN n r u (t / 100 % 10) = t % 10), r, u)
  else (false, r, u)
theorem try_P {n r u : Nat} (hr : r ∈ P n) (hu : u ∈ P n) (t : Nat) : (tryN n r u t).2.1 ∈ P n ∧ (tryN n r u t).2.2 ∈ P n := by
  have hs : ∀ k, (shT n r u t k).2.1 ∈ P n ∧ (shT n r u t k).2.2 ∈ P n := by
    intro k
    unfold shT
    split
    · exact ⟨P_shR hr hu k, P_shU hr hu k⟩
    · exact ⟨hr, hu⟩
  unfold tryN
  by_cases e1 : t / 1000 = 1
  · rw [if_pos e1]; exact hs 0
  rw [if_neg e1]
  by_cases e2 : t / 1000 = 2
  · rw [if_pos e2]; exact hs 1
  rw [if_neg e2]
  by_cases e3 : t / 1000 = 3
  · rw [if_pos e3]; exact hs 2
  rw [if_neg e3]
  by_cases e4 : t / 1000 = 4
  · rw [if_pos e4]
    by_cases e : t / 100 % 10 = 0 ∧ t / 10 % 10 < n ∧ t % 10 < n ∧ ¬ t / 10 % 10 = t % 10
    · rw [if_pos e]
      exact ⟨P_td hr e.2.1 e.2.2.1, P_td hu e.2.1 e.2.2.1⟩
    · rw [if_neg e]; exact ⟨hr, hu⟩
  rw [if_neg e4]
  by_cases e5 : t / 1000 = 5
  · rw [if_pos e5]; exact ⟨hr, hu⟩
  rw [if_neg e5]
  by_cases e6 : t / 1000 = 6
  · rw [if_pos e6]; exact ⟨hr, hu⟩
  rw [if_neg e6]
  by_cases e7 : t / 1000 = 7
  · rw [if_pos e7]; exact ⟨hr, hu⟩
  rw [if_neg e7]
  exact ⟨hr, hu⟩
theorem isS_nI {n b : Nat} (hn : n ≤ 5) (hb : b < 10) : isS n (nI b) = decide (b < n) := by
  have h := isS_t (n := n) (x := nI b) (by omega)
  by_cases e : b < n
  · rw [h.mpr ⟨b, e, rfl⟩, decide_eq_true e]
  · rw [decide_eq_false e]
    cases q : isS n (nI b) with
    | false => rfl
    | true =>
      obtain ⟨s, h1, h2⟩ := h.mp q
      rw [nI_eq (by omega) (by omega)] at h2
      omega
theorem nz {b : Nat} (hb : b < 100) : nI b = 0 ↔ b = 0 := nI_eq (b := 0) (by omega) (by decide)
def triC (c : CS) (n r u : Nat) : CS := ((c.zn4 n).zr4 r).zu4 u
theorem triG {c : CS} {m : MS} {n r u : Nat} : gl (hp (triC c n r u) m) 4 n r u := rfl
theorem triS {c : CS} {m : MS} {n r u r2 u2 : Nat} : (hp (triC c n r u) m).set 4 (glE n r2 u2) = hp (triC c n r2 u2) m := rfl
theorem triO {c : CS} {m : MS} {n r u : Nat} : isO (hp (triC c n r u) m) 4 2 = true := rfl
theorem ord_le (c : Nat) : ∀ (m i a : Nat), ordN c m i a ≤ a + m
  | 0, _, _ => Nat.le_refl _
  | m + 1, i, a => by
    unfold ordN
    have h1 := ord_le c m (i + 1) (a + 1)
    have h2 := ord_le c m (i + 1) a
    split <;> omega
theorem holes_lt {n r u s : Nat} (hr : r ∈ P n) (hu : u ∈ P n) (hs : s < n) : holesN n r u s < 100 := by
  have h := holes_eq hr hu hs
  have h2 := popc_le (pieceN n r u s) (reach_lt (P_n hr).2 (by have := P_n hr; omega))
  unfold holesN
  omega
section TT
variable {c : CS} {m : MS} {n r u : Nat}
theorem eSh3 (hr : r ∈ P n) (hu : u ∈ P n) {t k : Nat} (ht : t < 10000) (hk : t / 1000 = k + 1) (hk3 : k < 3) : fX2_tryTold_68 4 (nI t) (nI (t / 100 % 10)) (nI (t / 10 % 10)) (nI (t % 10)) (hp (triC c n r u) m) = some (b01 (shT n r u t k).1, hp (triC c n (shT n r u t k).2.1 (shT n r u t k).2.2) m) := by
  unfold fX2_tryTold_68 shT
  by_cases e1 : t / 100 % 10 = 0
  · rw [if_pos ((nz (by omega)).mpr e1)]
    by_cases e2 : t / 10 % 10 = 0
    · rw [if_pos ((nz (by omega)).mpr e2)]
      by_cases e3 : t % 10 = 0
      · rw [if_pos ((nz (by omega)).mpr e3), if_pos ⟨e1, e2, e3⟩, gp_pos triO]
        unfold FX2_didShear
        rw [gp_pos triO, show nI t / 1000 = nI (t / 1000) from pk_div (d := 1000) (by omega) (by decide) (by decide), hk, nI_pred, eShear triG hr hu hk3, bd2_some, bd2_some, if_neg (by decide), triS]
        rfl
      · rw [if_neg (fun q => e3 ((nz (by omega)).mp q)), if_neg (fun q => e3 q.2.2)]
        rfl
    · rw [if_neg (fun q => e2 ((nz (by omega)).mp q)), if_neg (fun q => e2 q.2.1)]
      rfl
  · rw [if_neg (fun q => e1 ((nz (by omega)).mp q)), if_neg (fun q => e1 q.1)]
    rfl
theorem lit_ne {a b : Nat} {l : Int32} (e : l = nI b) (ha : a < 100) (hb : b < 100) (h : ¬ a = b) : ¬ nI a = l := by rw [e]; exact fun q => h ((nI_eq (by omega) (by omega)).mp q)
theorem lit_eq {a b : Nat} {l : Int32} (e : l = nI b) (h : a = b) : nI a = l := by rw [e, h]
theorem eTry (hr : r ∈ P n) (hu : u ∈ P n) {t : Nat} (ht : t < 10000) : FX2_tryTold 4 (nI t) (hp (triC c n r u) m) = some (b01 (tryN n r u t).1, hp (triC c n (tryN n r u t).2.1 (tryN n r u t).2.2) m) := by
  have hn := P_n hr
  have q0 : nI t / 1000 = nI (t / 1000) := pk_div (d := 1000) (by omega) (by decide) (by decide)
  have q1 : rI (nI t / 100) 10 = nI (t / 100 % 10) := by
    rw [show nI t / 100 = nI (t / 100) from pk_div (d := 100) (by omega) (by decide) (by decide)]
    exact rI_nI (d := 10) (by omega) (by decide) (by decide)
  have q2 : rI (nI t / 10) 10 = nI (t / 10 % 10) := by
    rw [show nI t / 10 = nI (t / 10) from pk_div (d := 10) (by omega) (by decide) (by decide)]
    exact rI_nI (d := 10) (by omega) (by decide) (by decide)
  have q3 : rI (nI t) 10 = nI (t % 10) := rI_nI (d := 10) (by omega) (by decide) (by decide)
  unfold FX2_tryTold tryN
  rw [q0, q1, q2, q3]
  by_cases e1 : t / 1000 = 1
  · rw [if_pos (lit_eq (l := 1) rfl e1), if_pos e1]; exact eSh3 hr hu ht e1 (by decide)
  rw [if_neg (lit_ne (l := 1) (b := 1) rfl (by omega) (by decide) e1), if_neg e1]
  by_cases e2 : t / 1000 = 2
  · rw [if_pos (lit_eq (l := 2) rfl e2), if_pos e2]; exact eSh3 hr hu ht e2 (by decide)
  rw [if_neg (lit_ne (l := 2) (b := 2) rfl (by omega) (by decide) e2), if_neg e2]
  by_cases e3 : t / 1000 = 3
  · rw [if_pos (lit_eq (l := 3) rfl e3), if_pos e3]; exact eSh3 hr hu ht e3 (by decide)
  rw [if_neg (lit_ne (l := 3) (b := 3) rfl (by omega) (by decide) e3), if_neg e3]
  by_cases e4 : t / 1000 = 4
  · rw [if_pos (lit_eq (l := 4) rfl e4), if_pos e4]
    by_cases b0 : t / 100 % 10 = 0
    · rw [if_pos ((nz (by omega)).mpr b0), gp_pos triO]
      unfold FX2_didTrade
      rw [gp_pos triO, eHas triG hn.2, bd2_some, isS_nI hn.2 (by omega)]
      by_cases b1 : t / 10 % 10 < n
      · rw [decide_eq_true b1, if_neg b01_1, gp_pos triO, eHas triG hn.2, bd2_some, isS_nI hn.2 (by omega)]
        by_cases b2 : t % 10 < n
        · rw [decide_eq_true b2, if_neg b01_1]
          by_cases b3 : t / 10 % 10 = t % 10
          · rw [if_pos (by rw [b3]), bd2_some, if_pos rfl, if_neg (fun q => q.2.2.2 b3)]
            rfl
          · rw [if_neg (fun q => b3 ((nI_eq (by omega) (by omega)).mp q)), gp_pos triO, eTrade triG hr hu b1 b2, bd2_some, bd2_some, if_neg (by decide), if_pos ⟨b0, b1, b2, b3⟩, triS]
            rfl
        · rw [decide_eq_false b2, if_pos b01_f, bd2_some, if_pos rfl, if_neg (fun q => b2 q.2.2.1)]
          rfl
      · rw [decide_eq_false b1, if_pos b01_f, bd2_some, if_pos rfl, if_neg (fun q => b1 q.2.1)]
        rfl
    · rw [if_neg (fun q => b0 ((nz (by omega)).mp q)), if_neg (fun q => b0 q.1)]
      rfl
  rw [if_neg (lit_ne (l := 4) (b := 4) rfl (by omega) (by decide) e4), if_neg e4]
  by_cases e5 : t / 1000 = 5
  · rw [if_pos (lit_eq (l := 5) rfl e5), if_pos e5]
    by_cases b0 : t % 10 = 0
    · rw [if_pos ((nz (by omega)).mpr b0), gp_pos triO, eHas triG hn.2, bd2_some, isS_nI hn.2 (by omega)]
      by_cases b1 : t / 100 % 10 < n
      · rw [decide_eq_true b1, if_neg b01_1, gp_pos triO, eHas triG hn.2, bd2_some, isS_nI hn.2 (by omega)]
        by_cases b2 : t / 10 % 10 < n
        · have hpl : pieceN n r u (t / 100 % 10) < 256 := reach_lt hn.2 (by omega)
          rw [decide_eq_true b2, if_neg b01_1, gp_pos triO, ePiece triG hr hu (by omega), bd2_some, eIsIn (by omega) (by omega), bd2_some]
          cases b3 : (pieceN n r u (t / 100 % 10)).testBit (t / 10 % 10) with
          | true =>
            rw [bit01_t b3, if_neg (by decide), decide_eq_true ⟨b0, b1, b2, rfl⟩]
            rfl
          | false =>
            rw [bit01_f (by rw [b3]; decide), if_pos rfl, decide_eq_false (fun q => by cases q.2.2.2)]
            rfl
        · rw [decide_eq_false b2, if_pos b01_f, decide_eq_false (fun q => b2 q.2.2.1)]
          rfl
      · rw [decide_eq_false b1, if_pos b01_f, decide_eq_false (fun q => b1 q.2.1)]
        rfl
    · rw [if_neg (fun q => b0 ((nz (by omega)).mp q)), decide_eq_false (fun q => b0 q.1)]
      rfl
  rw [if_neg (lit_ne (l := 5) (b := 5) rfl (by omega) (by decide) e5), if_neg e5]
  by_cases e6 : t / 1000 = 6
  · rw [if_pos (lit_eq (l := 6) rfl e6), if_pos e6]
    by_cases b0 : t / 100 % 10 = 0
    · rw [if_pos ((nz (by omega)).mpr b0)]
      by_cases b1 : t / 10 % 10 = 0
      · have hol := ord_le (cN n r u) n 0 0
        rw [if_pos ((nz (by omega)).mpr b1), gp_pos triO, eOrd triG hr hu, bd2_some]
        by_cases b2 : t % 10 ≤ ordN (cN n r u) n 0 0
        · rw [if_neg (nI_nlt b2 (by omega)), decide_eq_true ⟨b0, b1, b2⟩]
          rfl
        · rw [if_pos (nI_lt (by omega) (by omega)), decide_eq_false (fun q => b2 q.2.2)]
          rfl
      · rw [if_neg (fun q => b1 ((nz (by omega)).mp q)), decide_eq_false (fun q => b1 q.2.1)]
        rfl
    · rw [if_neg (fun q => b0 ((nz (by omega)).mp q)), decide_eq_false (fun q => b0 q.1)]
      rfl
  rw [if_neg (lit_ne (l := 6) (b := 6) rfl (by omega) (by decide) e6), if_neg e6]
  by_cases e7 : t / 1000 = 7
  · rw [if_pos (lit_eq (l := 7) rfl e7), if_pos e7]
    by_cases b0 : t / 10 % 10 = 0
    · rw [if_pos ((nz (by omega)).mpr b0), gp_pos triO, eHas triG hn.2, bd2_some, isS_nI hn.2 (by omega)]
      by_cases b1 : t / 100 % 10 < n
      · have hh := holes_lt hr hu b1
        rw [decide_eq_true b1, if_neg b01_1, gp_pos triO, eHoles triG hr hu b1, bd2_some]
        by_cases b2 : holesN n r u (t / 100 % 10) = t % 10
        · rw [if_pos (by rw [b2]), decide_eq_true ⟨b0, b1, b2⟩]
          rfl
        · rw [if_neg (fun q => b2 ((nI_eq (by omega) (by omega)).mp q)), decide_eq_false (fun q => b2 q.2.2)]
          rfl
      · rw [decide_eq_false b1, if_pos b01_f, decide_eq_false (fun q => b1 q.2.1)]
        rfl
    · rw [if_neg (fun q => b0 ((nz (by omega)).mp q)), decide_eq_false (fun q => b0 q.1)]
      rfl
  rw [if_neg (lit_ne (l := 7) (b := 7) rfl (by omega) (by decide) e7), if_neg e7]
  rfl
end TT
