/-! The reference counts the turns; about. -/
def b5L (w : Nat) : Nat → Nat → Nat
  | 0, a => a
  | i + 1, a => b5L w i (5 * a + dg w i)
def b5 (n w : Nat) : Nat := b5L w n 0
theorem b5_ck : (allN 6 fun n => (P n).all fun w => Nat.blt (b5 n w) 3125 && allN n fun i => Nat.beq (b5 n w / 5 ^ i % 5) (dg w i)) = true := by decide +kernel
theorem b5_at {n w : Nat} (hw : w ∈ P n) : b5 n w < 3125 ∧ ∀ i, i < n → b5 n w / 5 ^ i % 5 = dg w i := by
  have hn := P_n hw
  have h := List.all_eq_true.mp (allN_at b5_ck n (by omega)) w hw
  rw [Bool.and_eq_true] at h
  refine ⟨?_, fun i hi => Nat.eq_of_beq_eq_true (allN_at h.2 i hi)⟩
  have h1 := h.1
  unfold Nat.blt at h1
  exact Nat.le_of_ble_eq_true h1
theorem b5_inj {n a b : Nat} (ha : a ∈ P n) (hb : b ∈ P n) (h : b5 n a = b5 n b) : a = b := P_ext ha hb (fun i hi => by rw [← (b5_at ha).2 i hi, ← (b5_at hb).2 i hi, h])
theorem id_dg0 : ∀ n, n < 6 → ∀ i, i < n → dg (idN n) i = i := by decide +kernel
/-- a count that goes down -/
def ix (j : Nat) : Int32 := if j = 0 then -1 else nI (j - 1)
theorem ix_s (j : Nat) : ix (j + 1) = nI j := rfl
theorem ix_m (j : Nat) : nI j + (-1) = ix j := by
  unfold ix
  by_cases h : j = 0
  · rw [if_pos h, h]; decide
  · obtain ⟨k, rfl⟩ : ∃ k, j = k + 1 := ⟨j - 1, by omega⟩
    rw [if_neg h, nI_succ, Int32.add_assoc, show (1 : Int32) + -1 = 0 from by decide, Int32.add_zero]
    rfl
theorem nI_mul (a b : Nat) : nI a * nI b = nI (a * b) := (Int32.ofNat_mul a b).symm
theorem mPowL (H : Hp) {b e : Nat} (he : e < 100) : ∀ (q i d a : Nat), i + q = e → q < d → fX10_power_4 d (nI b) (nI e) (nI a) (nI i) H = some (nI (a * b ^ q), H) := by
  intro q
  induction q with
  | zero =>
    intro i d a hk hd
    obtain ⟨d, rfl⟩ : ∃ e, d = e + 1 := ⟨d - 1, by omega⟩
    show bX10_power_4 (fX10_power_4 d) _ _ _ _ H = _
    unfold bX10_power_4
    rw [if_pos (nI_le (by omega) (by omega)), Nat.pow_zero, Nat.mul_one]
  | succ q ih =>
    intro i d a hk hd
    obtain ⟨d, rfl⟩ : ∃ e, d = e + 1 := ⟨d - 1, by omega⟩
    show bX10_power_4 (fX10_power_4 d) _ _ _ _ H = _
    unfold bX10_power_4
    rw [if_neg (nI_ge (by omega) (by omega)), nI_mul, nI_1, ih (i + 1) d _ (by omega) (by omega), Nat.mul_assoc, Nat.mul_comm b, ← Nat.pow_succ]
theorem mPow (H : Hp) {b e : Nat} (he : e < 100) : FX10_power (nI b) (nI e) H = some (nI (b ^ e), H) := by
  unfold FX10_power
  refine (mPowL H he e 0 4096 1 (by omega) (by omega)).trans ?_
  rw [Nat.one_mul]
def GL (f : Nat → Int32) (n : Nat) (L : List Nat) : Prop := ∀ i, i < L.length → f i = nI (b5 n (L.getD i 0))
theorem p5_lt : ∀ i, i < 6 → 0 < 5 ^ i ∧ 5 ^ i < 10000 := by decide
section MG
variable {c : CS} {m : MS} {n r u : Nat} {K41 : Nat → Int32 → Int32 → Int32 → Hp → Option (Int32 × Hp)} {K50 : Nat → Int32 → Int32 → Int32 → Int32 → Hp → Option (Int32 × Hp)}
theorem mG64 (hml : ml (hp c m) 24 n r u) (hr : r ∈ P n) (hu : u ∈ P n) {sz k hw w W : Nat} (hk : k < 120) (hw3 : (hw = 1 ∧ W = r) ∨ (hw = 3 ∧ W = u)) (hwP : w ∈ P n) (hf : m.f37 k = nI (b5 n w)) : ∀ (j d a : Nat), j ≤ n → j < d → fX10_groupSize_64 K41 K50 d 22 (nI n) (nI sz) (nI k) (nI hw) (nI a) (ix j) (hp c m) = fX10_groupSize_113 K41 K50 4096 22 (nI n) (nI sz) (nI k) (nI hw) (nI (b5L (thenN w W n) j a)) 0 0 (hp c m) := by
  have hn := P_n hr
  intro j
  induction j with
  | zero =>
    intro d a hj hd
    obtain ⟨d, rfl⟩ : ∃ e, d = e + 1 := ⟨d - 1, by omega⟩
    show bX10_groupSize_64 K41 K50 (fX10_groupSize_64 K41 K50 d) _ _ _ _ _ _ _ _ = _
    unfold bX10_groupSize_64
    rw [if_pos (show ix 0 < 0 from by decide)]
    rfl
  | succ j ih =>
    intro d a hj hd
    obtain ⟨d, rfl⟩ : ∃ e, d = e + 1 := ⟨d - 1, by omega⟩
    show bX10_groupSize_64 K41 K50 (fX10_groupSize_64 K41 K50 d) _ _ _ _ _ _ _ _ = _
    unfold bX10_groupSize_64
    have h5 := p5_lt j (by omega)
    have hb := b5_at hwP
    have hd1 := P_dg hwP (i := j) (by omega)
    have hmv : movN n r u (dg w j) hw = dg (thenN w W n) j := by
      rw [dg_thenN (by omega) (by omega)]
      unfold movN
      rcases hw3 with ⟨h1, h2⟩ | ⟨h1, h2⟩
      · rw [if_pos h1, h2]
      · rw [if_neg (by omega), if_neg (by omega), if_pos h1, h2]
    rw [ix_s, if_neg (nI_pos (by omega)), hA22_2, bd_some, hA22_20, bd_some, hr37 hk, bd_some, hf, show FX10_power 5 (nI j) (hp c m) = some (nI (5 ^ j), hp c m) from mPow (b := 5) _ (by omega), bd2_some, gp_pos (nI_ne0 h5.1 (by omega)), pk_div (by omega) h5.1 (by omega), show rI (nI (b5 n w / 5 ^ j)) 5 = nI (b5 n w / 5 ^ j % 5) from rI_nI (d := 5) (Nat.lt_of_le_of_lt (Nat.div_le_self _ _) (by omega)) (by decide) (by decide), hb.2 j (by omega), mMoved hml hr hu hd1 (by omega), bd2_some, show (5 : Int32) * nI a = nI (5 * a) from nI_mul 5 a, nI_add, ix_m, hmv, ih d _ (by omega) (by omega)]
    rfl
theorem mG113 {sz k hw x : Nat} {L : List Nat} (hL : LM (P n) L) (hsz : sz = L.length) (hl : L.length ≤ 120) (hx : x ∈ P n) (hnl : x ∈ L ∨ L.length < 120) (hf : GL m.f37 n L) : ∃ f', GL f' n (adL L x) ∧ ∀ (q e d : Nat) (b : Bool), e + q = sz → q < d → (b = true ↔ ∃ j, j < e ∧ L.getD j 0 = x) → fX10_groupSize_113 K41 K50 d 22 (nI n) (nI sz) (nI k) (nI hw) (nI (b5 n x)) (b01 b) (nI e) (hp c m) = K50 22 (nI n) (nI (adL L x).length) (nI k) (nI (hw + 2)) (hp c (m.zf37 f')) := by
  refine ⟨if x ∈ L then m.f37 else upd m.f37 L.length (nI (b5 n x)), ?_, ?_⟩
  · unfold adL
    by_cases h : x ∈ L
    · rw [if_pos h, if_pos h]; exact hf
    · rw [if_neg h, if_neg h]
      intro i hi
      rw [List.length_append, List.length_singleton] at hi
      by_cases e : i = L.length
      · rw [e, upd_at, getD_app]
      · rw [upd_ne e, hf i (by omega), List.getD_eq_getElem?_getD, List.getD_eq_getElem?_getD, List.getElem?_append_left (by omega)]
  · intro q
    induction q with
    | zero =>
      intro e d b hk hd hb
      obtain ⟨d, rfl⟩ : ∃ e, d = e + 1 := ⟨d - 1, by omega⟩
      show bX10_groupSize_113 K41 K50 (fX10_groupSize_113 K41 K50 d) _ _ _ _ _ _ _ _ _ = _
      unfold bX10_groupSize_113
      have hbx : b = true ↔ x ∈ L := by
        rw [hb]
        constructor
        · rintro ⟨j, h1, h2⟩
          rw [← h2]; exact getD_mem (by omega)
        · intro h
          exact ⟨L.idxOf x, by have := (mem_get h).1; omega, (mem_get h).2⟩
      rw [if_pos (nI_le (by omega) (by omega)), show nI hw + 2 = nI (hw + 2) from nI_add hw 2]
      unfold adL
      cases b with
      | true =>
        have hxl := hbx.mp rfl
        rw [if_neg b01_1, if_pos hxl, if_pos hxl, hsz]
      | false =>
        have hxl : ¬ x ∈ L := fun h => by have := hbx.mpr h; cases this
        rw [if_pos b01_f, if_neg hxl, if_neg hxl, hA22_20, bd_some, hsz, hw37 (by rcases hnl with h | h; exact absurd h hxl; exact h), bd_some, nI_1, List.length_append, List.length_singleton]
    | succ q ih =>
      intro e d b hk hd hb
      obtain ⟨d, rfl⟩ : ∃ e, d = e + 1 := ⟨d - 1, by omega⟩
      show bX10_groupSize_113 K41 K50 (fX10_groupSize_113 K41 K50 d) _ _ _ _ _ _ _ _ _ = _
      unfold bX10_groupSize_113 fX10_groupSize_136
      have hel : e < L.length := by omega
      have hy := hL.2 _ (getD_mem hel)
      have b1 := (b5_at hy).1
      have b2 := (b5_at hx).1
      rw [if_neg (nI_ge (by omega) (by omega)), nI_1]
      cases b with
      | true =>
        rw [if_neg b01_1]
        refine ih (e + 1) d true (by omega) (by omega) ⟨fun _ => ?_, fun _ => rfl⟩
        obtain ⟨j, h1, h2⟩ := hb.mp rfl
        exact ⟨j, by omega, h2⟩
      | false =>
        rw [if_pos b01_f, hA22_20, bd_some, hr37 (by omega), bd_some, hf e hel]
        by_cases e2 : L.getD e 0 = x
        · rw [if_pos (by rw [e2])]
          exact ih (e + 1) d true (by omega) (by omega) ⟨fun _ => ⟨e, by omega, e2⟩, fun _ => rfl⟩
        · rw [if_neg (fun q => e2 (b5_inj hy hx ((nI_eq (by omega) (by omega)).mp q)))]
          refine ih (e + 1) d false (by omega) (by omega) ⟨fun q => (by cases q), fun q => ?_⟩
          obtain ⟨j, h1, h2⟩ := q
          by_cases ej : j = e
          · rw [ej] at h2; exact absurd h2 e2
          · exact hb.mpr ⟨j, by omega, h2⟩
theorem mG50 (hml : ml (hp c m) 24 n r u) (hr : r ∈ P n) (hu : u ∈ P n) {k hw w W : Nat} {L : List Nat} (hw3 : (hw = 1 ∧ W = r) ∨ (hw = 3 ∧ W = u)) (hL : LM (P n) L) (hk : k < L.length) (hw0 : L.getD k 0 = w) (hf : GL m.f37 n L) (d : Nat) : ∃ f', GL f' n (adL L (thenN w W n)) ∧ fX10_groupSize_50 K41 (d + 1) 22 (nI n) (nI L.length) (nI k) (nI hw) (hp c m) = fX10_groupSize_50 K41 d 22 (nI n) (nI (adL L (thenN w W n)).length) (nI k) (nI (hw + 2)) (hp c (m.zf37 f')) := by
  have hn := P_n hr
  have h120 := P_len n (by omega)
  have hlen := LM_len hL
  have hwP : w ∈ P n := by rw [← hw0]; exact hL.2 _ (getD_mem hk)
  have hWP : W ∈ P n := by
    rcases hw3 with ⟨_, h⟩ | ⟨_, h⟩
    · rw [h]; exact hr
    · rw [h]; exact hu
  have hx := P_then hwP hWP
  have hlen2 := LM_len (adL_LM hL hx)
  have hnl : thenN w W n ∈ L ∨ L.length < 120 := by
    by_cases h : thenN w W n ∈ L
    · exact .inl h
    · right
      unfold adL at hlen2
      rw [if_neg h, List.length_append, List.length_singleton] at hlen2
      omega
  obtain ⟨f', g1, g2⟩ := mG113 (c := c) (K41 := K41) (K50 := fX10_groupSize_50 K41 d) (k := k) (hw := hw) hL rfl (by omega) hx hnl hf
  refine ⟨f', g1, ?_⟩
  show bX10_groupSize_50 K41 (fX10_groupSize_50 K41 d) _ _ _ _ _ _ = _
  unfold bX10_groupSize_50
  rw [if_neg (show ¬ (4 : Int32) ≤ nI hw from nI_ge (b := 4) (by omega) (by decide)), show nI n - 1 = ix n from (by
    obtain ⟨j, rfl⟩ : ∃ j, n = j + 1 := ⟨n - 1, by omega⟩
    rw [nI_pred, ix_s])]
  refine (mG64 (K50 := fX10_groupSize_50 K41 d) hml hr hu (k := k) (by omega) hw3 hwP (by rw [hf k hk, hw0]) n 4096 0 (Nat.le_refl n) (by omega)).trans ?_
  exact g2 L.length 0 4096 false (by omega) (by omega) ⟨fun q => (by cases q), fun ⟨j, h, _⟩ => (by omega)⟩
theorem zm1 (m : MS) (f g : Nat → Int32) : (m.zf37 f).zf37 g = m.zf37 g := rfl
theorem mG41 (h24 : NW m.f24 n r u) (hr : r ∈ P n) (hu : u ∈ P n) : ∀ (q k d : Nat) (L : List Nat) (f : Nat → Int32), 121 ≤ k + q → q < d → k ≤ L.length → LM (P n) L → GL f n L → ∃ f', fX10_groupSize_41 d 22 (nI n) (nI L.length) (nI k) (hp c (m.zf37 f)) = some (nI (orbB (fun w => thenN w r n) (fun w => thenN w u n) q k L).length, hp c (m.zf37 f')) := by
  have hn := P_n hr
  have h120 := P_len n (by omega)
  intro q
  induction q with
  | zero =>
    intro k d L f hk hd hkl hL hf
    have := LM_len hL
    omega
  | succ q ih =>
    intro k d L f hk hd hkl hL hf
    obtain ⟨d, rfl⟩ : ∃ e, d = e + 1 := ⟨d - 1, by omega⟩
    have hlen := LM_len hL
    show ∃ f', bX10_groupSize_41 (fX10_groupSize_41 d) 22 (nI n) (nI L.length) (nI k) _ = _
    by_cases hk2 : k < L.length
    · have hw := hL.2 _ (getD_mem hk2)
      have hL1 := adL_LM hL (P_then hw hr)
      have hL2 := adL_LM hL1 (P_then hw hu)
      have a1 := adL_len L (thenN (L.getD k 0) r n)
      have a2 := adL_len (adL L (thenN (L.getD k 0) r n)) (thenN (L.getD k 0) u n)
      obtain ⟨f1, p1, p2⟩ := mG50 (K41 := fX10_groupSize_41 d) (nw_ml24 (c := c) (m := m.zf37 f) h24) hr hu (hw := 1) (W := r) (.inl ⟨rfl, rfl⟩) hL hk2 rfl hf 4095
      rw [zm1] at p2
      obtain ⟨f2, p3, p4⟩ := mG50 (K41 := fX10_groupSize_41 d) (nw_ml24 (c := c) (m := m.zf37 f1) h24) hr hu (k := k) (hw := 3) (W := u) (w := L.getD k 0) (.inr ⟨rfl, rfl⟩) hL1 (by omega) (adL_get hk2) p1 4094
      rw [zm1] at p4
      obtain ⟨f', e'⟩ := ih (k + 1) d _ f2 (by omega) (by omega) (by omega) hL2 p3
      refine ⟨f', ?_⟩
      rw [orbB_step _ _ _ hk2]
      refine Eq.trans ?_ e'
      unfold bX10_groupSize_41
      rw [if_neg (nI_ge hk2 (by omega))]
      refine Eq.trans p2 (Eq.trans p4 ?_)
      show bX10_groupSize_50 (fX10_groupSize_41 d) (fX10_groupSize_50 (fX10_groupSize_41 d) 4093) 22 (nI n) _ (nI k) (nI 5) _ = _
      unfold bX10_groupSize_50
      rw [if_pos (by decide), nI_1]
    · refine ⟨f, ?_⟩
      rw [orbB_end _ _ _ (by omega)]
      unfold bX10_groupSize_41
      rw [if_pos (nI_le (by omega) (by omega))]
theorem mG13 (hn : n ≤ 5) : ∀ (j d a : Nat), j ≤ n → j < d → fX10_groupSize_13 d 22 (nI n) (nI a) (ix j) (hp c m) = fX10_groupSize_41 4096 22 (nI n) 1 0 (hp c (m.zf37 (upd m.f37 0 (nI (b5L (idN n) j a))))) := by
  intro j
  induction j with
  | zero =>
    intro d a hj hd
    obtain ⟨d, rfl⟩ : ∃ e, d = e + 1 := ⟨d - 1, by omega⟩
    show bX10_groupSize_13 (fX10_groupSize_13 d) _ _ _ _ _ = _
    unfold bX10_groupSize_13
    rw [if_pos (show ix 0 < 0 from by decide), hA22_20, bd_some, show sI (hp c m) 37 0 0 (nI a) = some (hp c (m.zf37 (upd m.f37 0 (nI a)))) from hw37 (i := 0) (by decide) _, bd_some]
    rfl
  | succ j ih =>
    intro d a hj hd
    obtain ⟨d, rfl⟩ : ∃ e, d = e + 1 := ⟨d - 1, by omega⟩
    show bX10_groupSize_13 (fX10_groupSize_13 d) _ _ _ _ _ = _
    unfold bX10_groupSize_13
    rw [ix_s, if_neg (nI_pos (by omega)), show (5 : Int32) * nI a = nI (5 * a) from nI_mul 5 a, nI_add, ix_m, ih d _ (by omega) (by omega), show b5L (idN n) (j + 1) a = b5L (idN n) j (5 * a + dg (idN n) j) from rfl, id_dg0 n (by omega) j (by omega)]
end MG
theorem mGp {c : CS} {m : MS} {n r u : Nat} (h24 : NW m.f24 n r u) (hr : r ∈ P n) (hu : u ∈ P n) : ∃ f', FX10_groupSize 22 (hp c m) = some (nI (gpN n r u).length, hp c (m.zf37 f')) := by
  have hn := P_n hr
  have hid := id_P0 n (by omega) hn.1
  obtain ⟨f', e'⟩ := mG41 (c := c) (m := m) h24 hr hu 121 0 4096 [idN n] (upd m.f37 0 (nI (b5 n (idN n)))) (by omega) (by omega) (by omega) ⟨by simp, fun x hx => by rw [List.mem_singleton] at hx; rw [hx]; exact hid⟩ (fun i hi => by
    have : i = 0 := by
      have hi : i < 1 := hi
      omega
    subst this
    exact upd_at _ _ _)
  refine ⟨f', ?_⟩
  unfold FX10_groupSize gpN
  rw [hA22_2, bd_some, ml0 (nw_ml24 h24), bd_some, show nI n - 1 = ix n from (by
    obtain ⟨j, rfl⟩ : ∃ j, n = j + 1 := ⟨n - 1, by omega⟩
    rw [nI_pred, ix_s])]
  exact (mG13 hn.2 n 4096 0 (Nat.le_refl n) (by omega)).trans e'
theorem c_about (x : Int32) : Eqv (fun H => FX9_about 0 x H) (fun H => FX10_about 22 x H) := by
  intro c m h
  have hn := h.n5
  have hr := h.2.1.1
  have hu := h.2.1.2.1
  have hml := ok_ml h c
  have hpl : 2 ^ c.n - 1 < 65536 := by
    have : 2 ^ c.n ≤ 2 ^ 5 := Nat.pow_le_pow_right (by decide) hn
    omega
  show ∃ r c' m', FX9_about 0 x (hp c m) = _ ∧ FX10_about 22 x (hp c' m) = _ ∧ _
  unfold FX9_about FX10_about
  by_cases e0 : x = (0 : Int32)
  · refine ⟨nI c.n, c, m, ?_, ?_, h⟩
    · rw [if_pos e0, hA0_1, bd_some, hI3_0, bd_some]
    · rw [if_pos e0, hA22_2, bd_some, ml0 hml, bd_some]
  by_cases e1 : x = (1 : Int32)
  · refine ⟨nI (piecesN c.n c.r c.u (2 ^ c.n - 1)), c, m, ?_, ?_, h⟩
    · rw [if_neg e0, if_pos e1, hA0_1, bd_some, bd_some, gp_pos hO3, eAll hg3 hn, bd2_some, gp_pos hO3, ePieces hg3 hr hu hpl, bd2_some]
    · rw [if_neg e0, if_pos e1, hA22_2, bd_some, mPieces hml hr hu, bd2_some]
  by_cases e2 : x = (2 : Int32)
  · refine ⟨nI (ringsN (cN c.n c.r c.u) c.n c.n 0 0 0), c, m, ?_, ?_, h⟩
    · rw [if_neg e0, if_neg e1, if_pos e2, hA0_1, bd_some, gp_pos hO3, eCorners hg3 hr hu, bd2_some]
    · rw [if_neg e0, if_neg e1, if_pos e2, hA22_2, bd_some, mAllCorners hml hr hu, bd2_some]
  by_cases e3 : x = (3 : Int32)
  · refine ⟨nI (ordN (cN c.n c.r c.u) c.n 0 0), c, m, ?_, ?_, h⟩
    · rw [if_neg e0, if_neg e1, if_neg e2, if_pos e3, hA0_1, bd_some, gp_pos hO3, eOrd hg3 hr hu, bd2_some]
    · rw [if_neg e0, if_neg e1, if_neg e2, if_pos e3, hA22_2, bd_some, mOrdinary hml hr hu, bd2_some]
  by_cases e4 : x = (4 : Int32)
  · refine ⟨nI (mostN (cN c.n c.r c.u) c.n c.n 0 0), c, m, ?_, ?_, h⟩
    · rw [if_neg e0, if_neg e1, if_neg e2, if_neg e3, if_pos e4, hA0_1, bd_some, gp_pos hO3, eMost hg3 hr hu, bd2_some]
    · rw [if_neg e0, if_neg e1, if_neg e2, if_neg e3, if_pos e4, hA22_2, bd_some, mGreatest hml hr hu, bd2_some]
  by_cases e5 : x = (5 : Int32)
  · refine ⟨nI (ringsN c.r c.n c.n 0 0 0), c, m, ?_, ?_, h⟩
    · rw [if_neg e0, if_neg e1, if_neg e2, if_neg e3, if_neg e4, if_pos e5, hA0_1, bd_some, gp_pos hO3, eRowsC hg3 hr, bd2_some]
    · rw [if_neg e0, if_neg e1, if_neg e2, if_neg e3, if_neg e4, if_pos e5, hA22_2, bd_some, mRows hml hr, bd2_some]
  by_cases e6 : x = (6 : Int32)
  · refine ⟨nI (bandsN c.n c.r c.u), c, m, ?_, ?_, h⟩
    · rw [if_neg e0, if_neg e1, if_neg e2, if_neg e3, if_neg e4, if_neg e5, if_pos e6, hA0_1, bd_some, gp_pos hO3, eBands hg3 hr hu, bd2_some]
    · rw [if_neg e0, if_neg e1, if_neg e2, if_neg e3, if_neg e4, if_neg e5, if_pos e6, hA22_2, bd_some, mBands hml hr hu, bd2_some]
  by_cases e7 : x = (7 : Int32)
  · obtain ⟨f1, p1⟩ := eGp h
    obtain ⟨f2, p2⟩ := mGp (c := (c.zf20 f1).ztc (gpN c.n c.r c.u).length) h.2.1.2.2 hr hu
    refine ⟨nI (gpN c.n c.r c.u).length, (c.zf20 f1).ztc (gpN c.n c.r c.u).length, m.zf37 f2, ?_, ?_, h⟩
    · rw [if_neg e0, if_neg e1, if_neg e2, if_neg e3, if_neg e4, if_neg e5, if_neg e6, if_pos e7, gp_pos hO0, p1, bd2_some]
    · rw [if_neg e0, if_neg e1, if_neg e2, if_neg e3, if_neg e4, if_neg e5, if_neg e6, if_pos e7, gp_pos hO22, p2, bd2_some]
  by_cases e8 : x = (8 : Int32)
  · refine ⟨nI c.cnt, c, m, ?_, ?_, h⟩
    · rw [if_neg e0, if_neg e1, if_neg e2, if_neg e3, if_neg e4, if_neg e5, if_neg e6, if_neg e7, if_pos e8, hA0_3, bd_some, hI5_2, bd_some]
    · rw [if_neg e0, if_neg e1, if_neg e2, if_neg e3, if_neg e4, if_neg e5, if_neg e6, if_neg e7, if_pos e8, hI22_7, bd_some, h.2.2.1.1]
  by_cases e9 : x = (9 : Int32)
  · refine ⟨nI c.sn, c, m, ?_, ?_, h⟩
    · rw [if_neg e0, if_neg e1, if_neg e2, if_neg e3, if_neg e4, if_neg e5, if_neg e6, if_neg e7, if_neg e8, if_pos e9, hA0_5, bd_some, hI11_2, bd_some]
    · rw [if_neg e0, if_neg e1, if_neg e2, if_neg e3, if_neg e4, if_neg e5, if_neg e6, if_neg e7, if_neg e8, if_pos e9, hI22_13, bd_some, h.2.2.2.2.1.2.2.1]
  by_cases e10 : x = (10 : Int32)
  · refine ⟨nI c.L, c, m, ?_, ?_, h⟩
    · rw [if_neg e0, if_neg e1, if_neg e2, if_neg e3, if_neg e4, if_neg e5, if_neg e6, if_neg e7, if_neg e8, if_neg e9, if_pos e10, hA0_0, bd_some, hI1_1, bd_some]
    · rw [if_neg e0, if_neg e1, if_neg e2, if_neg e3, if_neg e4, if_neg e5, if_neg e6, if_neg e7, if_neg e8, if_neg e9, if_pos e10, hI22_1, bd_some, h.1.2.1]
  refine ⟨-2, c, m, ?_, ?_, h⟩
  · rw [if_neg e0, if_neg e1, if_neg e2, if_neg e3, if_neg e4, if_neg e5, if_neg e6, if_neg e7, if_neg e8, if_neg e9, if_neg e10]
  · rw [if_neg e0, if_neg e1, if_neg e2, if_neg e3, if_neg e4, if_neg e5, if_neg e6, if_neg e7, if_neg e8, if_neg e9, if_neg e10]
