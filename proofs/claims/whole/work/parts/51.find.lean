/-! The reference finds an orbit. -/
section MG
variable {c : CS} {M : MS} {m : Nat}
theorem mTb56 : ∀ (i d X : Nat) (f : Nat → Int32), i ≤ 5 → i < d → X < 2 ^ 62 → ∃ f', fX10_tellBack_56 d 22 (lN X) (ix i) (hp c (M.zf26 f)) = some ((), hp c (M.zf26 f')) ∧ (∀ j, j < i → f' (1 + j) = nI (X / 10 ^ (i - 1 - j) % 10)) ∧ ∀ k, (k < 1 ∨ 1 + i ≤ k) → f' k = f k := by
  intro i
  induction i with
  | zero =>
    intro d X f h5 hd hX
    obtain ⟨d, rfl⟩ : ∃ e, d = e + 1 := ⟨d - 1, by omega⟩
    refine ⟨f, ?_, fun j hj => by omega, fun k _ => rfl⟩
    show bX10_tellBack_56 (fX10_tellBack_56 d) _ _ _ _ = _
    unfold bX10_tellBack_56
    rw [if_pos (show ix 0 < 0 by decide)]
  | succ i ih =>
    intro d X f h5 hd hX
    obtain ⟨d, rfl⟩ : ∃ e, d = e + 1 := ⟨d - 1, by omega⟩
    obtain ⟨f', e1, e2, e3⟩ := ih d (X / 10) (upd f (1 + i) (nI (X % 10))) (by omega) (by omega) (by omega)
    refine ⟨f', ?_, fun j hj => ?_, fun k hk => ?_⟩
    · show bX10_tellBack_56 (fX10_tellBack_56 d) _ _ _ _ = _
      unfold bX10_tellBack_56
      rw [ix_s, if_neg (nI_pos (by omega)), hA22_4, bd_some, (r10 hX).1, (r10 hX).2, show (1 : Int32) + nI i = nI (1 + i) from nI_add 1 i, hw26 (by omega), bd_some, ix_m]
      exact e1
    · by_cases ej : j = i
      · rw [ej, e3 (1 + i) (by omega), upd_at, show i + 1 - 1 - i = 0 by omega, Nat.pow_zero, Nat.div_one]
      · rw [e2 j (by omega), dv10, show i - 1 - j + 1 = i + 1 - 1 - j by omega]
    · rw [e3 k (by omega), upd_ne (by omega)]
theorem mTb15 (h1 : 1 ≤ m) (hm : m ≤ 5) : ∀ (i d X : Nat) (f : Nat → Int32), i ≤ 5 → i < d → X < 2 ^ 62 → ∃ f', fX10_tellBack_15 d 22 (nI m) (lN X) (ix i) (hp c (M.zf26 f)) = some ((), hp c (M.zf26 f')) ∧ (∀ j, j < i → f' (6 + j) = nI (X / 10 ^ (i - 1 - j) % 10)) ∧ (∀ j, j < m → f' (1 + j) = nI (X / 10 ^ i / 10 ^ (m - 1 - j) % 10)) ∧ ∀ k, (k < 1 ∨ 6 + i ≤ k) → f' k = f k := by
  intro i
  induction i with
  | zero =>
    intro d X f h5 hd hX
    obtain ⟨d, rfl⟩ : ∃ e, d = e + 1 := ⟨d - 1, by omega⟩
    obtain ⟨f', e1, e2, e3⟩ := mTb56 (c := c) (M := M) m 4096 X f hm (by omega) hX
    refine ⟨f', ?_, fun j hj => by omega, fun j hj => ?_, fun k hk => e3 k (by omega)⟩
    · show bX10_tellBack_15 (fX10_tellBack_15 d) _ _ _ _ _ = _
      unfold bX10_tellBack_15
      rw [if_pos (show ix 0 < 0 by decide), ix_p h1]
      exact e1
    · rw [e2 j hj, Nat.pow_zero, Nat.div_one]
  | succ i ih =>
    intro d X f h5 hd hX
    obtain ⟨d, rfl⟩ : ∃ e, d = e + 1 := ⟨d - 1, by omega⟩
    obtain ⟨f', e1, e2, e3, e4⟩ := ih d (X / 10) (upd f (6 + i) (nI (X % 10))) (by omega) (by omega) (by omega)
    refine ⟨f', ?_, fun j hj => ?_, fun j hj => ?_, fun k hk => ?_⟩
    · show bX10_tellBack_15 (fX10_tellBack_15 d) _ _ _ _ _ = _
      unfold bX10_tellBack_15
      rw [ix_s, if_neg (nI_pos (by omega)), hA22_4, bd_some, (r10 hX).1, (r10 hX).2, show (6 : Int32) + nI i = nI (6 + i) from nI_add 6 i, hw26 (by omega), bd_some, ix_m]
      exact e1
    · by_cases ej : j = i
      · rw [ej, e4 (6 + i) (by omega), upd_at, show i + 1 - 1 - i = 0 by omega, Nat.pow_zero, Nat.div_one]
      · rw [e2 j (by omega), dv10, show i - 1 - j + 1 = i + 1 - 1 - j by omega]
    · rw [e3 j hj, dv10]
    · rw [e4 k (by omega), upd_ne (by omega)]
theorem mTb {x : Nat} (h : x ∈ T m) : ∃ f, FX10_tellBack 22 (lN x) (nI m) (hp c M) = some ((), hp c (M.zf26 f)) ∧ NW f m (decR m x) (decU m x) := by
  have hm := T_m h
  obtain ⟨_, _, hx, hd⟩ := T_dec h
  obtain ⟨f', e1, e2, e3, e4⟩ := mTb15 (c := c) (M := M) hm.1 hm.2 m 4096 x (upd M.f26 0 (nI m)) hm.2 (by omega) (by omega)
  refine ⟨f', ?_, ?_, fun i hi => ?_, fun i hi => ?_⟩
  · unfold FX10_tellBack
    rw [hA22_4, bd_some, show sI (hp c M) 26 0 0 (nI m) = _ from hw26 (i := 0) (by decide) (nI m), bd_some, ix_p hm.1]
    exact e1
  · rw [e4 0 (by omega), upd_at]
  · have := (hd (m - 1 - i) (by omega)).2.1
    rw [show m - 1 - (m - 1 - i) = i by omega] at this
    rw [e3 i hi, this]
  · have := (hd (m - 1 - i) (by omega)).1
    rw [show m - 1 - (m - 1 - i) = i by omega] at this
    rw [e2 i hi, this]
theorem bd2_rt (A : Option (Unit × Hp)) : (bd2 A fun _ H => some ((), H)) = A := by
  cases A with
  | none => rfl
  | some x => rfl
theorem mSd {r u : Nat} (hr : r ∈ P m) (hu : u ∈ P m) (hN : NW M.f26 m r u) : ∃ f g, FX10_side 22 26 (hp c M) = some ((), hp c ((M.zf26 f).zf27 g)) ∧ NW f m (shR m r u 0) (shU m r u 0) := by
  obtain ⟨f, g, e, h⟩ := sh26 (c := c) (hw := 0) hr hu (by decide) hN
  refine ⟨f, g, ?_, h⟩
  unfold FX10_shearOn at e
  rw [if_pos (show nI 0 = 0 from rfl), gp_pos hO22, bd2_rt] at e
  exact e
theorem mUw {r u : Nat} (hr : r ∈ P m) (hu : u ∈ P m) (hN : NW M.f26 m r u) : ∃ f g, FX10_upward 22 26 (hp c M) = some ((), hp c ((M.zf26 f).zf27 g)) ∧ NW f m (shR m r u 1) (shU m r u 1) := by
  obtain ⟨f, g, e, h⟩ := sh26 (c := c) (hw := 1) hr hu (by decide) hN
  refine ⟨f, g, ?_, h⟩
  unfold FX10_shearOn at e
  rw [if_neg (by decide), if_pos (show nI 1 = 1 from rfl), gp_pos hO22, bd2_rt] at e
  exact e
theorem mLs {r u : Nat} (hr : r ∈ P m) (hu : u ∈ P m) (hN : NW M.f26 m r u) : ∃ a b d, FX10_leastName 22 26 0 (hp c M) = some (lN (leastN m r u 0), hp c (((M.zf33 a).zf34 b).zsz d)) := by
  obtain ⟨H', g1, g2, g3⟩ := mLeast' hr hu (p := 26) (by decide) (nw_ml26 (c := c) hN) (shp_hp (c := c)) (s := 0) (by have := (P_n hr).1; omega)
  obtain ⟨a, b, d, rfl⟩ := shp_back g2 g3
  exact ⟨a, b, d, g1⟩
theorem mLs24 {n r u s : Nat} (hr : r ∈ P n) (hu : u ∈ P n) (hN : NW M.f24 n r u) (hs : s < n) : ∃ a b d, FX10_leastName 22 24 (nI s) (hp c M) = some (lN (leastN n r u s), hp c (((M.zf33 a).zf34 b).zsz d)) := by
  obtain ⟨H', g1, g2, g3⟩ := mLeast' hr hu (p := 24) (by decide) (nw_ml24 (c := c) hN) (shp_hp (c := c)) hs
  obtain ⟨a, b, d, rfl⟩ := shp_back g2 g3
  exact ⟨a, b, d, g1⟩
section PO
variable {L : List Nat} {y : Nat}
theorem mPoN (hl : L.length ≤ 128) (hb : ∀ y ∈ L, y < 2 ^ 62) (hy : y < 2 ^ 62) (hf : DL M.f35 L) (hc : M.mn = nI L.length) : ∀ (q i d : Nat) (a : Int32), i + q = L.length → q < d → (∀ j, i ≤ j → j < L.length → L.getD j 0 ≠ y) → fX10_placeOf_6 d 22 (lN y) a (nI i) (hp c M) = some (a, hp c M) := by
  intro q
  induction q with
  | zero =>
    intro i d a hk hd hn
    obtain ⟨d, rfl⟩ : ∃ e, d = e + 1 := ⟨d - 1, by omega⟩
    show bX10_placeOf_6 (fX10_placeOf_6 d) _ _ _ _ _ = _
    unfold bX10_placeOf_6
    rw [hI22_19, bd_some, hc, if_pos (nI_le (by omega) (by omega))]
  | succ q ih =>
    intro i d a hk hd hn
    obtain ⟨d, rfl⟩ : ∃ e, d = e + 1 := ⟨d - 1, by omega⟩
    show bX10_placeOf_6 (fX10_placeOf_6 d) _ _ _ _ _ = _
    unfold bX10_placeOf_6
    have hil : i < L.length := by omega
    have hy2 := hb _ (getD_mem hil)
    rw [hI22_19, bd_some, hc, if_neg (nI_ge hil (by omega)), hA22_17, bd_some, hr35 (by omega), bd_some, hf i hil, if_neg (fun q => hn i (Nat.le_refl i) hil ((pk_lEQ (by omega) (by omega)).mp ((lg_cmp_eq _ _).mp q))), nI_1]
    exact ih (i + 1) d a (by omega) (by omega) (fun j g1 g2 => hn j (by omega) g2)
theorem mPoY (hd2 : L.Nodup) (hl : L.length ≤ 128) (hb : ∀ y ∈ L, y < 2 ^ 62) (hy : y < 2 ^ 62) (hf : DL M.f35 L) (hc : M.mn = nI L.length) (hin : y ∈ L) : ∀ (q i d : Nat) (a : Int32), i + q = L.length → q < d → i ≤ L.idxOf y → fX10_placeOf_6 d 22 (lN y) a (nI i) (hp c M) = some (nI (L.idxOf y), hp c M) := by
  have hlt := idx_lt hin
  intro q
  induction q with
  | zero => intro i d a hk hd hn; omega
  | succ q ih =>
    intro i d a hk hd hn
    obtain ⟨d, rfl⟩ : ∃ e, d = e + 1 := ⟨d - 1, by omega⟩
    show bX10_placeOf_6 (fX10_placeOf_6 d) _ _ _ _ _ = _
    unfold bX10_placeOf_6
    have hil : i < L.length := by omega
    have hy2 := hb _ (getD_mem hil)
    rw [hI22_19, bd_some, hc, if_neg (nI_ge hil (by omega)), hA22_17, bd_some, hr35 (by omega), bd_some, hf i hil]
    by_cases e : L.getD i 0 = y
    · have hi := (idx_of_get hd2 hil e).2
      rw [if_pos ((lg_cmp_eq _ _).mpr (by rw [e])), nI_1, hi]
      exact mPoN hl hb hy hf hc q (i + 1) d (nI i) (by omega) (by omega) (fun j g1 g2 q => by
        have := (idx_of_get hd2 g2 q).2
        omega)
    · rw [if_neg (fun q => e ((pk_lEQ (by omega) (by omega)).mp ((lg_cmp_eq _ _).mp q))), nI_1]
      refine ih (i + 1) d a (by omega) (by omega) ?_
      by_cases ei : i = L.idxOf y
      · rw [ei] at e
        exact absurd (mem_get hin).2 e
      · omega
theorem mPo (hd2 : L.Nodup) (hl : L.length ≤ 128) (hb : ∀ y ∈ L, y < 2 ^ 62) (hy : y < 2 ^ 62) (hf : DL M.f35 L) (hc : M.mn = nI L.length) : FX10_placeOf 22 (lN y) (hp c M) = some (if y ∈ L then nI (L.idxOf y) else -9, hp c M) := by
  unfold FX10_placeOf
  by_cases hin : y ∈ L
  · rw [if_pos hin]
    exact mPoY hd2 hl hb hy hf hc hin L.length 0 4096 _ (by omega) (by omega) (Nat.zero_le _)
  · rw [if_neg hin]
    exact mPoN hl hb hy hf hc L.length 0 4096 _ (by omega) (by omega) (fun j _ g2 q => hin (by rw [← q]; exact getD_mem g2))
theorem mEn (hd2 : L.Nodup) (hl : L.length < 128) (hb : ∀ y ∈ L, y < 2 ^ 62) (hy : y < 2 ^ 62) (hf : DL M.f35 L) (hc : M.mn = nI L.length) : ∃ f, FX10_enter 22 (lN y) (hp c M) = some (nI ((adL L y).idxOf y), hp c ((M.zf35 f).zmn (nI (adL L y).length))) ∧ DL f (adL L y) := by
  unfold FX10_enter
  rw [gp_pos hO22, mPo hd2 (by omega) hb hy hf hc, bd2_some, adL_idx]
  unfold adL
  by_cases h : y ∈ L
  · have h1 := idx_lt h
    refine ⟨M.f35, ?_, ?_⟩
    · rw [if_pos h, if_pos h, if_pos h, if_neg (nI_ne9 (by omega)), ← hc]
    · rw [if_pos h]; exact hf
  · refine ⟨vp_updL M.f35 L.length (lN y), ?_, ?_⟩
    · rw [if_neg h, if_pos rfl, if_neg h, if_neg h, hA22_17, bd_some, hI22_19, bd_some, hc, hw35 hl, bd_some, hI22_19, bd_some, hp22_19, bd_some, hI22_19, bd_some, List.length_append, List.length_singleton]
      show some (M.mn + 1 - 1, hp c ((M.zf35 (vp_updL M.f35 L.length (lN y))).zmn (M.mn + 1))) = _
      rw [hc, nI_1, nI_pred]
    · rw [if_neg h]
      exact DL_app hf
end PO
end MG
/-- what the search for an orbit may change -/
def gM (M : MS) (a b d e g : Nat → Int32) (f : Nat → Int64) (x y : Int32) : MS := (((((((M.zf26 a).zf27 b).zf33 d).zf34 e).zf36 g).zf35 f).zmn x).zsz y
def Kp (M M' : MS) : Prop := ∃ a b d e g f x y, M' = gM M a b d e g f x y
theorem gM_id (M : MS) : M = gM M M.f26 M.f27 M.f33 M.f34 M.f36 M.f35 M.mn M.sz := rfl
theorem gM_gM (M : MS) (a b d e g a' b' d' e' g' : Nat → Int32) (f f' : Nat → Int64) (x y x' y' : Int32) : gM (gM M a b d e g f x y) a' b' d' e' g' f' x' y' = gM M a' b' d' e' g' f' x' y' := rfl
theorem Kp.rf (M : MS) : Kp M M := ⟨_, _, _, _, _, _, _, _, gM_id M⟩
theorem Kp.tr {A B C : MS} (h1 : Kp A B) (h2 : Kp B C) : Kp A C := by
  obtain ⟨a, b, d, e, g, f, x, y, rfl⟩ := h1
  obtain ⟨a', b', d', e', g', f', x', y', rfl⟩ := h2
  exact ⟨_, _, _, _, _, _, _, _, gM_gM A a b d e g a' b' d' e' g' f f' x y x' y'⟩
theorem kp26 (M : MS) (f : Nat → Int32) : Kp M (M.zf26 f) := ⟨f, M.f27, M.f33, M.f34, M.f36, M.f35, M.mn, M.sz, rfl⟩
theorem kp267 (M : MS) (f g : Nat → Int32) : Kp M ((M.zf26 f).zf27 g) := ⟨f, g, M.f33, M.f34, M.f36, M.f35, M.mn, M.sz, rfl⟩
theorem kp334 (M : MS) (f g : Nat → Int32) (s : Int32) : Kp M (((M.zf33 f).zf34 g).zsz s) := ⟨M.f26, M.f27, f, g, M.f36, M.f35, M.mn, s, rfl⟩
theorem kp35 (M : MS) (f : Nat → Int64) (s : Int32) : Kp M ((M.zf35 f).zmn s) := ⟨M.f26, M.f27, M.f33, M.f34, M.f36, f, s, M.sz, rfl⟩
theorem kp36 (M : MS) (f : Nat → Int32) : Kp M (M.zf36 f) := ⟨M.f26, M.f27, M.f33, M.f34, f, M.f35, M.mn, M.sz, rfl⟩
theorem kpmn (M : MS) (s : Int32) : Kp M (M.zmn s) := ⟨M.f26, M.f27, M.f33, M.f34, M.f36, M.f35, s, M.sz, rfl⟩
theorem Kp.ok {c : CS} {A B : MS} (h : Kp A B) (ho : OK c A) : OK c B := by
  obtain ⟨a, b, d, e, g, f, x, y, rfl⟩ := h
  exact ho
theorem Kp.f24 {A B : MS} (h : Kp A B) : B.f24 = A.f24 := by
  obtain ⟨a, b, d, e, g, f, x, y, rfl⟩ := h
  rfl
/-- what the reference holds of an orbit -/
def MH (M : MS) (L : List Nat) : Prop := DL M.f35 L ∧ M.mn = nI L.length
section MF
variable {c : CS} {m : Nat}
theorem mPs0 {M : MS} {L : List Nat} {k : Nat} (hL : LM (T m) L) (hM : MH M L) (hk : k < L.length) : ∃ M1 M2 M3 M4, FX10_tellBack 22 (lN (L.getD k 0)) (nI m) (hp c M) = some ((), hp c M1) ∧ FX10_side 22 26 (hp c M1) = some ((), hp c M2) ∧ FX10_leastName 22 26 0 (hp c M2) = some (lN (shN 0 m (L.getD k 0)), hp c M3) ∧ FX10_enter 22 (lN (shN 0 m (L.getD k 0))) (hp c M3) = some (nI ((adL L (shN 0 m (L.getD k 0))).idxOf (shN 0 m (L.getD k 0))), hp c M4) ∧ Kp M M4 ∧ MH M4 (adL L (shN 0 m (L.getD k 0))) ∧ M4.f36 = M.f36 := by
  have hx := hL.2 _ (getD_mem hk)
  have hm := T_m hx
  have hlen := Nat.le_trans (LM_len hL) (T_len m (by omega))
  obtain ⟨hr, hu, _, _⟩ := T_dec hx
  have hy := (T_sh2 hx).1
  have hyl := (T_dec hy).2.2.1
  obtain ⟨f1, e1, n1⟩ := mTb (c := c) (M := M) hx
  obtain ⟨f2, g2, e2, n2⟩ := mSd (c := c) (M := M.zf26 f1) hr hu n1
  obtain ⟨a, b, d, e3⟩ := mLs (c := c) (M := ((M.zf26 f1).zf26 f2).zf27 g2) (P_shR hr hu 0) (P_shU hr hu 0) n2
  obtain ⟨f4, e4, n4⟩ := mEn (c := c) (M := (((((M.zf26 f1).zf26 f2).zf27 g2).zf33 a).zf34 b).zsz d) (L := L) (y := shN 0 m (L.getD k 0)) hL.1 (by omega) (fun y hy => by have := (T_dec (hL.2 y hy)).2.2.1; omega) (by omega) hM.1 hM.2
  exact ⟨_, _, _, _, e1, e2, e3, e4, (((kp26 M f1).tr (kp267 _ f2 g2)).tr (kp334 _ a b d)).tr (kp35 _ f4 _), ⟨n4, rfl⟩, rfl⟩
theorem mPs1 {M : MS} {L : List Nat} {x : Nat} (hx : x ∈ T m) (hL : LM (T m) L) (hM : MH M L) : ∃ M1 M2 M3 M4, FX10_tellBack 22 (lN x) (nI m) (hp c M) = some ((), hp c M1) ∧ FX10_upward 22 26 (hp c M1) = some ((), hp c M2) ∧ FX10_leastName 22 26 0 (hp c M2) = some (lN (shN 1 m x), hp c M3) ∧ FX10_enter 22 (lN (shN 1 m x)) (hp c M3) = some (nI ((adL L (shN 1 m x)).idxOf (shN 1 m x)), hp c M4) ∧ Kp M M4 ∧ MH M4 (adL L (shN 1 m x)) ∧ M4.f36 = M.f36 := by
  have hm := T_m hx
  have hlen := Nat.le_trans (LM_len hL) (T_len m (by omega))
  obtain ⟨hr, hu, _, _⟩ := T_dec hx
  have hy := (T_sh2 hx).2
  have hyl := (T_dec hy).2.2.1
  obtain ⟨f1, e1, n1⟩ := mTb (c := c) (M := M) hx
  obtain ⟨f2, g2, e2, n2⟩ := mUw (c := c) (M := M.zf26 f1) hr hu n1
  obtain ⟨a, b, d, e3⟩ := mLs (c := c) (M := ((M.zf26 f1).zf26 f2).zf27 g2) (P_shR hr hu 1) (P_shU hr hu 1) n2
  obtain ⟨f4, e4, n4⟩ := mEn (c := c) (M := (((((M.zf26 f1).zf26 f2).zf27 g2).zf33 a).zf34 b).zsz d) (L := L) (y := shN 1 m x) hL.1 (by omega) (fun y hy => by have := (T_dec (hL.2 y hy)).2.2.1; omega) (by omega) hM.1 hM.2
  exact ⟨_, _, _, _, e1, e2, e3, e4, (((kp26 M f1).tr (kp267 _ f2 g2)).tr (kp334 _ a b d)).tr (kp35 _ f4 _), ⟨n4, rfl⟩, rfl⟩
theorem mFoL (hm : 1 ≤ m ∧ m ≤ 5) : ∀ (q k d : Nat) (L : List Nat) (M : MS), 129 ≤ k + q → q < d → k ≤ L.length → LM (T m) L → MH M L → (∀ j, j < k → shN 0 m (L.getD j 0) ∈ L ∧ M.f36 j = nI (L.idxOf (shN 0 m (L.getD j 0)))) → ∃ M', fX10_findOrbit_33 d 22 (nI m) (nI k) (hp c M) = some ((), hp c M') ∧ Kp M M' ∧ MH M' (orbB (shN 0 m) (shN 1 m) q k L) ∧ ∀ j, j < (orbB (shN 0 m) (shN 1 m) q k L).length → M'.f36 j = nI ((orbB (shN 0 m) (shN 1 m) q k L).idxOf (shN 0 m ((orbB (shN 0 m) (shN 1 m) q k L).getD j 0))) := by
  have h97 := T_len m (by omega)
  intro q
  induction q with
  | zero =>
    intro k d L M h1 h2 h3 hL
    have := LM_len hL
    omega
  | succ q ih =>
    intro k d L M h1 h2 h3 hL hM hj
    obtain ⟨d, rfl⟩ : ∃ e, d = e + 1 := ⟨d - 1, by omega⟩
    have hlen := LM_len hL
    show ∃ M', bX10_findOrbit_33 (fX10_findOrbit_33 d) 22 (nI m) (nI k) _ = _ ∧ _
    by_cases hk : k < L.length
    · have hx := hL.2 _ (getD_mem hk)
      have hsh := T_sh2 hx
      have hL1 := adL_LM hL hsh.1
      have hL2 := adL_LM hL1 hsh.2
      have l1 := adL_len L (shN 0 m (L.getD k 0))
      have l2 := adL_len (adL L (shN 0 m (L.getD k 0))) (shN 1 m (L.getD k 0))
      obtain ⟨M1, M2, M3, M4, a1, a2, a3, a4, a5, a6, a7⟩ := mPs0 (c := c) hL hM hk
      obtain ⟨N1, N2, N3, N4, b1, b2, b3, b4, b5, b6, b7⟩ := mPs1 (c := c) (M := M4.zf36 (upd M4.f36 k (nI ((adL L (shN 0 m (L.getD k 0))).idxOf (shN 0 m (L.getD k 0)))))) hx hL1 a6
      have b7 : N4.f36 = upd M4.f36 k (nI ((adL L (shN 0 m (L.getD k 0))).idxOf (shN 0 m (L.getD k 0)))) := b7
      obtain ⟨M', g1, g2, g3, g4⟩ := ih (k + 1) d (adL (adL L (shN 0 m (L.getD k 0))) (shN 1 m (L.getD k 0))) N4 (by omega) (by omega) (by omega) hL2 b6 (fun j hjk => by
        rw [adL_get (by omega), adL_get (by omega), b7]
        by_cases ej : j = k
        · rw [ej, upd_at]
          have hin : shN 0 m (L.getD k 0) ∈ adL L (shN 0 m (L.getD k 0)) := adL_mem.mpr (.inr rfl)
          exact ⟨adL_mem.mpr (.inl hin), by rw [adL_im hin]⟩
        · obtain ⟨i1, i2⟩ := hj j (by omega)
          rw [upd_ne ej, a7, i2]
          exact ⟨adL_mem.mpr (.inl (adL_mem.mpr (.inl i1))), by rw [adL_im (adL_mem.mpr (.inl i1)), adL_im i1]⟩)
      rw [orbB_step _ _ _ hk]
      refine ⟨M', ?_, ((a5.tr (kp36 M4 _)).tr b5).tr g2, g3, g4⟩
      refine Eq.trans ?_ g1
      unfold bX10_findOrbit_33
      have hrd : M4.f35 k = lN (L.getD k 0) := by
        rw [a6.1 k (by omega), adL_get hk]
      rw [hI22_19, bd_some, hM.2, if_neg (nI_ge hk (by omega)), hA22_17, bd_some, hr35 (by omega), bd_some, gp_pos hO22, hM.1 k hk, a1, bd2_some, hA22_4, bd_some, gp_pos hO22, a2, bd2_some, hA22_18, bd_some, hA22_4, bd_some, gp_pos hO22, a3, bd2_some, gp_pos hO22, a4, bd2_some, hw36 (by omega), bd_some, hA22_17, bd_some, hr35 (by omega), bd_some, gp_pos hO22, show MS.f35 (M4.zf36 (upd M4.f36 k (nI ((adL L (shN 0 m (L.getD k 0))).idxOf (shN 0 m (L.getD k 0)))))) k = lN (L.getD k 0) from hrd, b1, bd2_some, hA22_4, bd_some, gp_pos hO22, b2, bd2_some, hA22_4, bd_some, gp_pos hO22, b3, bd2_some, gp_pos hO22, b4, bd2_some, nI_1]
    · rw [orbB_end _ _ _ (by omega)]
      refine ⟨M, ?_, Kp.rf M, hM, fun j hjl => (hj j (by omega)).2⟩
      unfold bX10_findOrbit_33
      rw [hI22_19, bd_some, hM.2, if_pos (nI_le (by omega) (by omega))]
theorem mFo {M : MS} {n r u s : Nat} (hr : r ∈ P n) (hu : u ∈ P n) (hN : NW M.f24 n r u) (hs : s < n) : ∃ M', FX10_findOrbit 22 (nI s) (hp c M) = some ((), hp c M') ∧ Kp M M' ∧ MH M' (orbN (popc (pieceN n r u s)) (leastN n r u s)) ∧ ∀ j, j < (orbN (popc (pieceN n r u s)) (leastN n r u s)).length → M'.f36 j = nI ((FN (popc (pieceN n r u s)) (leastN n r u s)).getD j 0) := by
  have hn := P_n hr
  have hx := least_T hr hu hs
  have hm := T_m hx
  have hpl := lt32 hn.2 (pieceN_lt hr hu hs)
  have hxl := (T_dec hx).2.2.1
  obtain ⟨a, b, d, e1⟩ := mLs24 (c := c) (M := M.zmn 0) hr hu hN hs
  obtain ⟨f, e2, e3⟩ := mEn (c := c) (M := (((M.zmn 0).zf33 a).zf34 b).zsz d) (L := []) (y := leastN n r u s) (by simp) (by decide) (fun y hy => by cases hy) (by omega) (fun i hi => absurd hi (Nat.not_lt_zero i)) rfl
  rw [show adL [] (leastN n r u s) = [leastN n r u s] from rfl] at e2 e3
  obtain ⟨M', g1, g2, g3, g4⟩ := mFoL (c := c) hm 129 0 4096 [leastN n r u s] (((((M.zmn 0).zf33 a).zf34 b).zsz d).zf35 f |>.zmn (nI 1)) (by omega) (by omega) (by omega) (LM_one hx) ⟨e3, rfl⟩ (fun j hj => by omega)
  refine ⟨M', ?_, (((kpmn M 0).tr (kp334 _ a b d)).tr (kp35 _ f _)).tr g2, g3, fun j hj => ?_⟩
  · unfold FX10_findOrbit
    rw [hA22_2, bd_some, mPieceOf (nw_ml24 hN) hr hu hs, bd2_some, mOnes hpl, bd2_some, hp22_19, bd_some, hA22_2, bd_some, gp_pos hO22, e1, bd2_some, gp_pos hO22, e2, bd2_some]
    exact g1
  · rw [FN_at hj]
    exact g4 j hj
end MF
-- rings of the reference
theorem rgM_le {F : List Nat} {i : Nat} : ∀ (q a : Nat) (b : Bool) (p : Nat), a + q = 129 → rgM F i q a b p ≤ 128
  | 0, _, _, _, _ => Nat.zero_le _
  | q + 1, a, b, p, h => by
    unfold rgM
    split
    · split <;> omega
    · split
      · split <;> omega
      · exact rgM_le q (a + 1) _ _ (by omega)
section RM2
variable {c : CS} {M : MS} {F : List Nat} {n : Nat}
theorem mRg (hn : n ≤ 97) (hF : ∀ j, j < n → M.f36 j = nI (F.getD j 0) ∧ F.getD j 0 < n) {i : Nat} (hi : i < n) : ∀ (q a : Nat) (b : Bool) (p d : Nat), a + q = 129 → a ≤ 128 → q < d → p < n → fX10_ring_12 d 22 (nI i) (nI a) (b01 b) (nI p) (hp c M) = some (nI (rgM F i q a b p), hp c M) := by
  intro q
  induction q with
  | zero => intro a b p d h1 h2; omega
  | succ q ih =>
    intro a b p d h1 h2 h3 h4
    obtain ⟨d, rfl⟩ : ∃ e, d = e + 1 := ⟨d - 1, by omega⟩
    obtain ⟨f1, f2⟩ := hF p h4
    have h56 : fX10_ring_56 (nI a) (b01 b) (hp c M) = some (nI (if b then a else 0), hp c M) := by
      unfold fX10_ring_56
      cases b with
      | true => rw [if_neg b01_1, if_pos rfl]
      | false => rw [if_pos b01_f, if_neg (by decide)]; rfl
    have h43 : ∀ b2 : Bool, fX10_ring_43 (fX10_ring_12 d) 22 (nI i) (nI (a + 1)) (nI p) (b01 b2) (hp c M) = fX10_ring_12 d 22 (nI i) (nI (a + 1)) (b01 b2) (nI (F.getD p 0)) (hp c M) := fun b2 => by
      unfold fX10_ring_43
      rw [hA22_18, bd_some, hr36 (by omega), bd_some, f1]
    show bX10_ring_12 (fX10_ring_12 d) _ _ _ _ _ _ = _
    unfold bX10_ring_12
    rw [rgM]
    by_cases e1 : p = i
    · rw [if_pos (by rw [e1]), if_pos e1, h56]
    · rw [if_neg (fun q => e1 ((nI_eq (by omega) (by omega)).mp q)), if_neg e1]
      by_cases e2 : 128 ≤ a
      · rw [if_pos (show (128 : Int32) ≤ nI a from nI_le (a := 128) e2 (by omega)), if_pos e2, h56]
      · rw [if_neg (show ¬ (128 : Int32) ≤ nI a from nI_ge (b := 128) (by omega) (by decide)), if_neg e2, nI_1]
        unfold fX10_ring_42
        cases b with
        | false =>
          rw [if_pos b01_f]
          refine (h43 false).trans ?_
          exact ih (a + 1) false _ d (by omega) (by omega) (by omega) f2
        | true =>
          rw [if_neg b01_1, Bool.true_and]
          by_cases e3 : i < p
          · rw [if_neg (nI_ge (by omega) (by omega)), show Nat.blt i p = true from Nat.ble_eq_true_of_le e3]
            refine (h43 true).trans ?_
            exact ih (a + 1) true _ d (by omega) (by omega) (by omega) f2
          · rw [if_pos (nI_le (by omega) (by omega)), show Nat.blt i p = false from by
              cases q : Nat.blt i p with
              | false => rfl
              | true => exact absurd (Nat.le_of_ble_eq_true q) e3]
            refine (h43 false).trans ?_
            exact ih (a + 1) false _ d (by omega) (by omega) (by omega) f2
theorem mRing (hn : n ≤ 97) (hF : ∀ j, j < n → M.f36 j = nI (F.getD j 0) ∧ F.getD j 0 < n) {i : Nat} (hi : i < n) : FX10_ring 22 (nI i) (hp c M) = some (nI (rgM F i 128 1 true (F.getD i 0)), hp c M) := by
  unfold FX10_ring
  rw [hA22_18, bd_some, hr36 (by omega), bd_some, (hF i hi).1]
  exact mRg hn hF hi 128 1 true (F.getD i 0) 4096 (by omega) (by omega) (by omega) (hF i hi).2
theorem mOrb (ho : M.mn = nI n) (hn : n ≤ 97) (hF : ∀ j, j < n → M.f36 j = nI (F.getD j 0) ∧ F.getD j 0 < n) {v : Int32} : ∀ (q i d a w : Nat), i + q = n → q < d → w ≤ 128 → fX10_orbit_38 d 22 v (nI a) (nI w) (nI i) (hp c M) = some (if v = 0 then nI n else if v = 1 then nI (cuM F q i a) else nI (wiM F q i w), hp c M) := by
  intro q
  induction q with
  | zero =>
    intro i d a w h1 h2 h3
    obtain ⟨d, rfl⟩ : ∃ e, d = e + 1 := ⟨d - 1, by omega⟩
    show bX10_orbit_38 (fX10_orbit_38 d) _ _ _ _ _ _ = _
    unfold bX10_orbit_38
    rw [hI22_19, bd_some, ho, if_pos (nI_le (by omega) (by omega))]
    by_cases e0 : v = 0
    · rw [if_pos e0, if_pos e0, bd_some]
    · rw [if_neg e0, if_neg e0]
      by_cases e1 : v = 1
      · rw [if_pos e1, if_pos e1]; rfl
      · rw [if_neg e1, if_neg e1]; rfl
  | succ q ih =>
    intro i d a w h1 h2 h3
    obtain ⟨d, rfl⟩ : ∃ e, d = e + 1 := ⟨d - 1, by omega⟩
    show bX10_orbit_38 (fX10_orbit_38 d) _ _ _ _ _ _ = _
    unfold bX10_orbit_38 fX10_orbit_66
    have hv := rgM_le (F := F) (i := i) 128 1 true (F.getD i 0) (by omega)
    rw [hI22_19, bd_some, ho, if_neg (nI_ge (by omega) (by omega)), gp_pos hO22, mRing hn hF (by omega), bd2_some, nI_1, cuM, wiM, nI_a0, nI_1]
    by_cases e : rgM F i 128 1 true (F.getD i 0) = 0
    · rw [if_pos ((nI_le0 (by omega)).mpr e), if_pos e, Nat.add_zero]
      by_cases e2 : rgM F i 128 1 true (F.getD i 0) ≤ w
      · rw [if_pos (nI_le e2 (by omega)), if_pos e2]
        exact ih (i + 1) d _ _ (by omega) (by omega) h3
      · rw [if_neg (nI_ge (by omega) (by omega)), if_neg e2]
        exact ih (i + 1) d _ _ (by omega) (by omega) hv
    · rw [if_neg (fun q => e ((nI_le0 (by omega)).mp q)), if_neg e]
      by_cases e2 : rgM F i 128 1 true (F.getD i 0) ≤ w
      · rw [if_pos (nI_le e2 (by omega)), if_pos e2]
        exact ih (i + 1) d _ _ (by omega) (by omega) h3
      · rw [if_neg (nI_ge (by omega) (by omega)), if_neg e2]
        exact ih (i + 1) d _ _ (by omega) (by omega) hv
end RM2
