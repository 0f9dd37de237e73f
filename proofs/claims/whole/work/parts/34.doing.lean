/-! What changes the surface, and is undone. -/
theorem nI11 (a i : Nat) : (11 : Int32) * nI a + nI i = nI (11 * a + i) := by
  rw [show (11 : Int32) = nI 11 from rfl, show nI 11 * nI a = nI (11 * a) from (Int32.ofNat_mul 11 a).symm, nI_add]
theorem nI11n {i : Nat} (h : i < 11) : ¬ (11 : Int32) ≤ nI i := nI_ge (b := 11) h (by decide)
theorem noteL {c : CS} {m : MS} (ho : 11 * m.nx + 11 ≤ 154) : ∀ (q i d : Nat) (g : Nat → Int32), i + q = 11 → q < d → (∀ j, j < i → g (11 * m.nx + j) = m.f24 j) → (∀ k, (k < 11 * m.nx ∨ 11 * m.nx + 11 ≤ k) → g k = m.f28 k) → ∃ (g' : Nat → Int32) (K : _), fX10_note_2 d 22 (nI i) (hp c (m.zf28 g)) = bX10_note_2 K 22 (nI 11) (hp c (m.zf28 g')) ∧ (∀ j, j < 11 → g' (11 * m.nx + j) = m.f24 j) ∧ (∀ k, (k < 11 * m.nx ∨ 11 * m.nx + 11 ≤ k) → g' k = m.f28 k) := by
  intro q
  induction q with
  | zero =>
    intro i d g hk hd h1 h2
    obtain ⟨d, rfl⟩ : ∃ e, d = e + 1 := ⟨d - 1, by omega⟩
    have hi : i = 11 := by omega
    subst hi
    exact ⟨g, fX10_note_2 d, rfl, ⟨h1, h2⟩⟩
  | succ q ih =>
    intro i d g hk hd h1 h2
    obtain ⟨d, rfl⟩ : ∃ e, d = e + 1 := ⟨d - 1, by omega⟩
    have e : fX10_note_2 (d + 1) 22 (nI i) (hp c (m.zf28 g)) = fX10_note_2 d 22 (nI (i + 1)) (hp c (m.zf28 (upd g (11 * m.nx + i) (m.f24 i)))) := by
      show bX10_note_2 (fX10_note_2 d) 22 (nI i) (hp c (m.zf28 g)) = _
      unfold bX10_note_2
      rw [if_neg (nI11n (by omega)), hA22_6, bd_some, hI22_8, bd_some, hA22_2, bd_some, hr24 (by omega), bd_some, nI11, hw28 (by omega), bd_some, nI_1]
    rw [e]
    refine ih (i + 1) d _ (by omega) (by omega) (fun j hj => ?_) (fun k hk => ?_)
    · by_cases e2 : j = i
      · rw [e2, upd_at]
      · rw [upd_ne (by omega)]
        exact h1 j (by omega)
    · rw [upd_ne (by omega)]
      exact h2 k hk
theorem undoL {c : CS} {m : MS} (ho : 11 * m.nx + 11 ≤ 154) : ∀ (q i d : Nat) (g : Nat → Int32), i + q = 11 → q < d → (∀ j, j < i → g j = m.f28 (11 * m.nx + j)) → ∃ (g' : Nat → Int32) (K : _), fX10_undo_38 d 22 (nI i) (hp c (m.zf24 g)) = bX10_undo_38 K 22 (nI 11) (hp c (m.zf24 g')) ∧ (∀ j, j < 11 → g' j = m.f28 (11 * m.nx + j)) := by
  intro q
  induction q with
  | zero =>
    intro i d g hk hd h1
    obtain ⟨d, rfl⟩ : ∃ e, d = e + 1 := ⟨d - 1, by omega⟩
    have hi : i = 11 := by omega
    subst hi
    exact ⟨g, fX10_undo_38 d, rfl, h1⟩
  | succ q ih =>
    intro i d g hk hd h1
    obtain ⟨d, rfl⟩ : ∃ e, d = e + 1 := ⟨d - 1, by omega⟩
    have e : fX10_undo_38 (d + 1) 22 (nI i) (hp c (m.zf24 g)) = fX10_undo_38 d 22 (nI (i + 1)) (hp c (m.zf24 (upd g (i) (m.f28 (11 * m.nx + i))))) := by
      show bX10_undo_38 (fX10_undo_38 d) 22 (nI i) (hp c (m.zf24 g)) = _
      unfold bX10_undo_38
      rw [if_neg (nI11n (by omega)), hA22_2, bd_some, hA22_6, bd_some, hI22_8, bd_some, nI11, hr28 (by omega), bd_some, hw24 (by omega), bd_some, nI_1]
    rw [e]
    refine ih (i + 1) d _ (by omega) (by omega) (fun j hj => ?_)
    by_cases e2 : j = i
    · rw [e2, upd_at]
    · rw [upd_ne e2]
      exact h1 j (by omega)
theorem keepL {c : CS} {m : MS} {s : Nat} (ho : 11 * s + 11 ≤ 22) : ∀ (q i d : Nat) (g : Nat → Int32), i + q = 11 → q < d → (∀ j, j < i → g (11 * s + j) = m.f24 j) → (∀ k, (k < 11 * s ∨ 11 * s + 11 ≤ k) → g k = m.f29 k) → ∃ (g' : Nat → Int32) (K : _), fX10_keep_21 d 22 (nI s) (nI i) (hp c (m.zf29 g)) = bX10_keep_21 K 22 (nI s) (nI 11) (hp c (m.zf29 g')) ∧ (∀ j, j < 11 → g' (11 * s + j) = m.f24 j) ∧ (∀ k, (k < 11 * s ∨ 11 * s + 11 ≤ k) → g' k = m.f29 k) := by
  intro q
  induction q with
  | zero =>
    intro i d g hk hd h1 h2
    obtain ⟨d, rfl⟩ : ∃ e, d = e + 1 := ⟨d - 1, by omega⟩
    have hi : i = 11 := by omega
    subst hi
    exact ⟨g, fX10_keep_21 d, rfl, ⟨h1, h2⟩⟩
  | succ q ih =>
    intro i d g hk hd h1 h2
    obtain ⟨d, rfl⟩ : ∃ e, d = e + 1 := ⟨d - 1, by omega⟩
    have e : fX10_keep_21 (d + 1) 22 (nI s) (nI i) (hp c (m.zf29 g)) = fX10_keep_21 d 22 (nI s) (nI (i + 1)) (hp c (m.zf29 (upd g (11 * s + i) (m.f24 i)))) := by
      show bX10_keep_21 (fX10_keep_21 d) 22 (nI s) (nI i) (hp c (m.zf29 g)) = _
      unfold bX10_keep_21
      rw [if_neg (nI11n (by omega)), hA22_9, bd_some, hA22_2, bd_some, hr24 (by omega), bd_some, nI11, hw29 (by omega), bd_some, nI_1]
    rw [e]
    refine ih (i + 1) d _ (by omega) (by omega) (fun j hj => ?_) (fun k hk => ?_)
    · by_cases e2 : j = i
      · rw [e2, upd_at]
      · rw [upd_ne (by omega)]
        exact h1 j (by omega)
    · rw [upd_ne (by omega)]
      exact h2 k hk
theorem againL {c : CS} {m : MS} {s : Nat} (ho : 11 * s + 11 ≤ 22) : ∀ (q i d : Nat) (g : Nat → Int32), i + q = 11 → q < d → (∀ j, j < i → g j = m.f29 (11 * s + j)) → ∃ (g' : Nat → Int32) (K : _), fX10_again_26 d 22 (nI s) (nI i) (hp c (m.zf24 g)) = bX10_again_26 K 22 (nI s) (nI 11) (hp c (m.zf24 g')) ∧ (∀ j, j < 11 → g' j = m.f29 (11 * s + j)) := by
  intro q
  induction q with
  | zero =>
    intro i d g hk hd h1
    obtain ⟨d, rfl⟩ : ∃ e, d = e + 1 := ⟨d - 1, by omega⟩
    have hi : i = 11 := by omega
    subst hi
    exact ⟨g, fX10_again_26 d, rfl, h1⟩
  | succ q ih =>
    intro i d g hk hd h1
    obtain ⟨d, rfl⟩ : ∃ e, d = e + 1 := ⟨d - 1, by omega⟩
    have e : fX10_again_26 (d + 1) 22 (nI s) (nI i) (hp c (m.zf24 g)) = fX10_again_26 d 22 (nI s) (nI (i + 1)) (hp c (m.zf24 (upd g (i) (m.f29 (11 * s + i))))) := by
      show bX10_again_26 (fX10_again_26 d) 22 (nI s) (nI i) (hp c (m.zf24 g)) = _
      unfold bX10_again_26
      rw [if_neg (nI11n (by omega)), hA22_2, bd_some, hA22_9, bd_some, nI11, hr29 (by omega), bd_some, hw24 (by omega), bd_some, nI_1]
    rw [e]
    refine ih (i + 1) d _ (by omega) (by omega) (fun j hj => ?_)
    by_cases e2 : j = i
    · rw [e2, upd_at]
    · rw [upd_ne e2]
      exact h1 j (by omega)
theorem layL {c : CS} {m : MS} (ho : 0 + 11 ≤ 11) : ∀ (q i d : Nat) (g : Nat → Int32), i + q = 11 → q < d → (∀ j, j < i → g j = m.f24 (0 + j)) → ∃ (g' : Nat → Int32) (K : _), fX10_lay_2 d 25 24 (nI i) (hp c (m.zf25 g)) = bX10_lay_2 K 25 24 (nI 11) (hp c (m.zf25 g')) ∧ (∀ j, j < 11 → g' j = m.f24 (0 + j)) := by
  intro q
  induction q with
  | zero =>
    intro i d g hk hd h1
    obtain ⟨d, rfl⟩ : ∃ e, d = e + 1 := ⟨d - 1, by omega⟩
    have hi : i = 11 := by omega
    subst hi
    exact ⟨g, fX10_lay_2 d, rfl, h1⟩
  | succ q ih =>
    intro i d g hk hd h1
    obtain ⟨d, rfl⟩ : ∃ e, d = e + 1 := ⟨d - 1, by omega⟩
    have e : fX10_lay_2 (d + 1) 25 24 (nI i) (hp c (m.zf25 g)) = fX10_lay_2 d 25 24 (nI (i + 1)) (hp c (m.zf25 (upd g (i) (m.f24 (0 + i))))) := by
      show bX10_lay_2 (fX10_lay_2 d) 25 24 (nI i) (hp c (m.zf25 g)) = _
      unfold bX10_lay_2
      rw [if_neg (nI11n (by omega)), hr24 (by omega), bd_some, hw25 (by omega), Nat.zero_add, bd_some, nI_1]
    rw [e]
    refine ih (i + 1) d _ (by omega) (by omega) (fun j hj => ?_)
    by_cases e2 : j = i
    · rw [e2, upd_at]
    · rw [upd_ne e2]
      exact h1 j (by omega)
theorem sh24 {c : CS} {m : MS} {n r u hw : Nat} (hr : r ∈ P n) (hu : u ∈ P n) (hh : hw < 3) (hN : NW m.f24 n r u) : ∃ f g, FX10_shearOn 22 24 (nI hw) (hp c m) = some ((), hp c ((m.zf24 f).zf27 g)) ∧ NW f n (shR n r u hw) (shU n r u hw) := by
  obtain ⟨H', e1, e2, ⟨g, e3⟩, f, e4, e5⟩ := mShear hr hu (p := 24) (by decide) (by decide) hh (H := hp c m) ⟨_, _, _, _, _, _, _, hc22⟩ ⟨m.f24, hc24, hN⟩ ⟨m.f27, hc27⟩
  have e6 : H' = hp c ((m.zf24 f).zf27 g) := fr2 e2 e4 e3 (by decide)
  exact ⟨f, g, by rw [e1, e6], e5⟩
theorem sh25 {c : CS} {m : MS} {n r u hw : Nat} (hr : r ∈ P n) (hu : u ∈ P n) (hh : hw < 3) (hN : NW m.f25 n r u) : ∃ f g, FX10_shearOn 22 25 (nI hw) (hp c m) = some ((), hp c ((m.zf25 f).zf27 g)) ∧ NW f n (shR n r u hw) (shU n r u hw) := by
  obtain ⟨H', e1, e2, ⟨g, e3⟩, f, e4, e5⟩ := mShear hr hu (p := 25) (by decide) (by decide) hh (H := hp c m) ⟨_, _, _, _, _, _, _, hc22⟩ ⟨m.f25, hc25, hN⟩ ⟨m.f27, hc27⟩
  have e6 : H' = hp c ((m.zf25 f).zf27 g) := fr2 e2 e4 e3 (by decide)
  exact ⟨f, g, by rw [e1, e6], e5⟩
theorem sh26 {c : CS} {m : MS} {n r u hw : Nat} (hr : r ∈ P n) (hu : u ∈ P n) (hh : hw < 3) (hN : NW m.f26 n r u) : ∃ f g, FX10_shearOn 22 26 (nI hw) (hp c m) = some ((), hp c ((m.zf26 f).zf27 g)) ∧ NW f n (shR n r u hw) (shU n r u hw) := by
  obtain ⟨H', e1, e2, ⟨g, e3⟩, f, e4, e5⟩ := mShear hr hu (p := 26) (by decide) (by decide) hh (H := hp c m) ⟨_, _, _, _, _, _, _, hc22⟩ ⟨m.f26, hc26, hN⟩ ⟨m.f27, hc27⟩
  have e6 : H' = hp c ((m.zf26 f).zf27 g) := fr2 e2 e4 e3 (by decide)
  exact ⟨f, g, by rw [e1, e6], e5⟩
theorem ch24 {c : CS} {m : MS} {n r u a b : Nat} (hr : r ∈ P n) (hu : u ∈ P n) (ha : a < n) (hb : b < n) (hN : NW m.f24 n r u) : ∃ f g, FX10_change 22 24 (nI a) (nI b) (hp c m) = some ((), hp c ((m.zf24 f).zf27 g)) ∧ NW f n (tdN n r a b) (tdN n u a b) := by
  obtain ⟨H', e1, e2, ⟨g, e3⟩, f, e4, e5⟩ := mChange hr hu (p := 24) (by decide) (by decide) ha hb (H := hp c m) ⟨_, _, _, _, _, _, _, hc22⟩ ⟨m.f24, hc24, hN⟩ ⟨m.f27, hc27⟩
  have e6 : H' = hp c ((m.zf24 f).zf27 g) := fr2 e2 e4 e3 (by decide)
  exact ⟨f, g, by rw [e1, e6], e5⟩
theorem ch25 {c : CS} {m : MS} {n r u a b : Nat} (hr : r ∈ P n) (hu : u ∈ P n) (ha : a < n) (hb : b < n) (hN : NW m.f25 n r u) : ∃ f g, FX10_change 22 25 (nI a) (nI b) (hp c m) = some ((), hp c ((m.zf25 f).zf27 g)) ∧ NW f n (tdN n r a b) (tdN n u a b) := by
  obtain ⟨H', e1, e2, ⟨g, e3⟩, f, e4, e5⟩ := mChange hr hu (p := 25) (by decide) (by decide) ha hb (H := hp c m) ⟨_, _, _, _, _, _, _, hc22⟩ ⟨m.f25, hc25, hN⟩ ⟨m.f27, hc27⟩
  have e6 : H' = hp c ((m.zf25 f).zf27 g) := fr2 e2 e4 e3 (by decide)
  exact ⟨f, g, by rw [e1, e6], e5⟩
/-- the class notes what was -/
def addP (c : CS) : CS := if c.cnt < 14 then ((c.zf6 (upd c.f6 c.cnt (nI c.r))).zf7 (upd c.f7 c.cnt (nI c.u))).zcnt (c.cnt + 1) else ((c.zf6 (upd (va_cpy c.f6 c.f6 1 0 13) 13 (nI c.r))).zf7 (upd (va_cpy c.f7 c.f7 1 0 13) 13 (nI c.u))).zcnt 14
theorem cp6 {c : CS} {m : MS} : cpI (hp c m) 6 1 0 13 = some (hp (c.zf6 (va_cpy c.f6 c.f6 1 0 13)) m) := rfl
theorem cp7 {c : CS} {m : MS} : cpI (hp c m) 7 1 0 13 = some (hp (c.zf7 (va_cpy c.f7 c.f7 1 0 13)) m) := rfl
theorem eAdd45 {c : CS} {m : MS} {a b : Int32} (hc : c.cnt < 14) : fX5_add_45 5 a b (hp c m) = some ((), hp (((c.zf6 (upd c.f6 c.cnt a)).zf7 (upd c.f7 c.cnt b)).zcnt (c.cnt + 1)) m) := by
  unfold fX5_add_45
  rw [hI5_2, bd_some, if_neg (nI_pos (by omega)), hA5_0, bd_some, bd_some, hw6 hc, bd_some, hA5_1, bd_some, hI5_2, bd_some, hw7 hc, bd_some, hI5_2, bd_some, hp5_2 (c.cnt + 1) (nI_1 _), bd_some]
theorem eAddP {c : CS} {m : MS} (hc : c.cnt ≤ 14) : FX5_add 5 (nI c.r) (nI c.u) (hp c m) = some ((), hp (addP c) m) := by
  unfold FX5_add addP
  by_cases h : c.cnt < 14
  · rw [if_pos h, hI5_2, bd_some, if_pos (show nI c.cnt < 14 from nI_lt (b := 14) h (by decide)), eAdd45 h]
  · rw [if_neg h, hI5_2, bd_some, if_neg (show ¬ nI c.cnt < 14 from nI_nlt (b := 14) (by omega) (by omega)), hA5_0, bd_some, bd_some, gp_pos rfl, cp6, bd_some, hA5_1, bd_some, bd_some, gp_pos rfl, cp7, bd_some, hp5_2 13 rfl, bd_some, eAdd45 (show (13 : Nat) < 14 by decide)]
theorem mNote {c : CS} {m : MS} (hd : m.dn ≤ 14) (hx : m.nx < 14) : ∃ g, FX10_note 22 (hp c m) = some ((), hp c (((m.zf28 g).znx ((m.nx + 1) % 14)).zdn (if m.dn < 14 then m.dn + 1 else 14))) ∧ (∀ j, j < 11 → g (11 * m.nx + j) = m.f24 j) ∧ (∀ k, (k < 11 * m.nx ∨ 11 * m.nx + 11 ≤ k) → g k = m.f28 k) := by
  obtain ⟨g, K, e, h1, h2⟩ := noteL (c := c) (m := m) (by omega) 11 0 4096 m.f28 (by omega) (by omega) (fun j hj => by omega) (fun k _ => rfl)
  refine ⟨g, ?_, h1, h2⟩
  have e2 : FX10_note 22 (hp c m) = bX10_note_2 K 22 (nI 11) (hp c (m.zf28 g)) := e
  rw [e2]
  unfold bX10_note_2
  rw [if_pos (show (11 : Int32) ≤ nI 11 from by decide), hI22_8, bd_some, hp22_8 ((m.nx + 1) % 14) (by rw [nI_1]; exact rI_nI (d := 14) (by omega) (by decide) (by decide)), bd_some, hI22_7, bd_some]
  by_cases h : m.dn < 14
  · rw [if_neg (show ¬ (14 : Int32) ≤ nI m.dn from nI_ge (b := 14) h (by decide)), bd_some]
    unfold fX10_note_68
    rw [hp22_7 (m.dn + 1) (nI_1 _), bd_some, if_pos h]
  · rw [if_pos (show (14 : Int32) ≤ nI m.dn from nI_le (a := 14) (by omega) (by omega))]
    unfold fX10_note_68
    rw [hp22_7 14 rfl, bd_some, if_neg h]
theorem nw_at {f g : Nat → Int32} {n r u : Nat} (hn : n ≤ 5) (h : NW f n r u) (e : ∀ j, j < 11 → g j = f j) : NW g n r u := by
  refine ⟨by rw [e 0 (by omega)]; exact h.1, fun i hi => ?_, fun i hi => ?_⟩
  · rw [e (1 + i) (by omega)]; exact h.2.1 i hi
  · rw [e (6 + i) (by omega)]; exact h.2.2 i hi
/-- noting keeps the two diaries alike -/
theorem okd_add {c : CS} {m : MS} (h : OK c m) {g : Nat → Int32} (h1 : ∀ j, j < 11 → g (11 * m.nx + j) = m.f24 j) (h2 : ∀ k, (k < 11 * m.nx ∨ 11 * m.nx + 11 ≤ k) → g k = m.f28 k) : OKd (addP c) (((m.zf28 g).znx ((m.nx + 1) % 14)).zdn (if m.dn < 14 then m.dn + 1 else 14)) := by
  obtain ⟨d1, d2, d3, d4⟩ := h.2.2.1
  have hn := h.n5
  by_cases hc : c.cnt < 14
  · rw [show addP c = ((c.zf6 (upd c.f6 c.cnt (nI c.r))).zf7 (upd c.f7 c.cnt (nI c.u))).zcnt (c.cnt + 1) from if_pos hc, if_pos (show m.dn < 14 by omega)]
    refine ⟨?_, hc, Nat.mod_lt _ (by decide), fun j hj => ?_⟩
    · show m.dn + 1 = c.cnt + 1
      rw [d1]
    · show ∃ r u, r ∈ P c.n ∧ u ∈ P c.n ∧ upd c.f6 c.cnt (nI c.r) j = nI r ∧ upd c.f7 c.cnt (nI c.u) j = nI u ∧ NW (fun i => g (11 * (((m.nx + 1) % 14 + 14 - (c.cnt + 1) + j) % 14) + i)) c.n r u
      have hj : j < c.cnt + 1 := hj
      by_cases e : j = c.cnt
      · refine ⟨c.r, c.u, h.2.1.1, h.2.1.2.1, by rw [e, upd_at], by rw [e, upd_at], nw_at hn h.2.1.2.2 (fun i hi => ?_)⟩
        show g (11 * (((m.nx + 1) % 14 + 14 - (c.cnt + 1) + j) % 14) + i) = _
        rw [show ((m.nx + 1) % 14 + 14 - (c.cnt + 1) + j) % 14 = m.nx by omega]
        exact h1 i hi
      · obtain ⟨r, u, q1, q2, q3, q4, q5⟩ := d4 j (by omega)
        refine ⟨r, u, q1, q2, by rw [upd_ne e]; exact q3, by rw [upd_ne e]; exact q4, nw_at hn q5 (fun i hi => ?_)⟩
        show g (11 * (((m.nx + 1) % 14 + 14 - (c.cnt + 1) + j) % 14) + i) = m.f28 (11 * ((m.nx + 14 - c.cnt + j) % 14) + i)
        rw [show ((m.nx + 1) % 14 + 14 - (c.cnt + 1) + j) % 14 = (m.nx + 14 - c.cnt + j) % 14 by omega]
        exact h2 _ (by omega)
  · have hc14 : c.cnt = 14 := by omega
    rw [show addP c = ((c.zf6 (upd (va_cpy c.f6 c.f6 1 0 13) 13 (nI c.r))).zf7 (upd (va_cpy c.f7 c.f7 1 0 13) 13 (nI c.u))).zcnt 14 from if_neg hc, if_neg (show ¬ m.dn < 14 by omega)]
    refine ⟨rfl, by decide, Nat.mod_lt _ (by decide), fun j hj => ?_⟩
    show ∃ r u, r ∈ P c.n ∧ u ∈ P c.n ∧ upd (va_cpy c.f6 c.f6 1 0 13) 13 (nI c.r) j = nI r ∧ upd (va_cpy c.f7 c.f7 1 0 13) 13 (nI c.u) j = nI u ∧ NW (fun i => g (11 * (((m.nx + 1) % 14 + 14 - 14 + j) % 14) + i)) c.n r u
    have hj : j < 14 := hj
    by_cases e : j = 13
    · refine ⟨c.r, c.u, h.2.1.1, h.2.1.2.1, by rw [e, upd_at], by rw [e, upd_at], nw_at hn h.2.1.2.2 (fun i hi => ?_)⟩
      show g (11 * (((m.nx + 1) % 14 + 14 - 14 + j) % 14) + i) = _
      rw [show ((m.nx + 1) % 14 + 14 - 14 + j) % 14 = m.nx by omega]
      exact h1 i hi
    · obtain ⟨r, u, q1, q2, q3, q4, q5⟩ := d4 (j + 1) (by omega)
      refine ⟨r, u, q1, q2, ?_, ?_, nw_at hn q5 (fun i hi => ?_)⟩
      · rw [upd_ne e, pk_cpy_in (by omega) (by omega), show 1 + (j - 0) = j + 1 by omega]; exact q3
      · rw [upd_ne e, pk_cpy_in (by omega) (by omega), show 1 + (j - 0) = j + 1 by omega]; exact q4
      · show g (11 * (((m.nx + 1) % 14 + 14 - 14 + j) % 14) + i) = m.f28 (11 * ((m.nx + 14 - c.cnt + (j + 1)) % 14) + i)
        rw [show ((m.nx + 1) % 14 + 14 - 14 + j) % 14 = (m.nx + 14 - c.cnt + (j + 1)) % 14 by omega]
        exact h2 _ (by omega)
theorem addP_n (c : CS) : (addP c).n = c.n ∧ (addP c).r = c.r ∧ (addP c).u = c.u := by
  unfold addP
  split
  · exact ⟨rfl, rfl, rfl⟩
  · exact ⟨rfl, rfl, rfl⟩
/-- all else as it was, after a note -/
theorem okn_add {c : CS} {m : MS} (h : OK c m) {g : Nat → Int32} (h1 : ∀ j, j < 11 → g (11 * m.nx + j) = m.f24 j) (h2 : ∀ k, (k < 11 * m.nx ∨ 11 * m.nx + 11 ≤ k) → g k = m.f28 k) : OK (addP c) (((m.zf28 g).znx ((m.nx + 1) % 14)).zdn (if m.dn < 14 then m.dn + 1 else 14)) := by
  have hd := okd_add h h1 h2
  obtain ⟨a, b, _, d, e, f, k⟩ := h
  revert hd
  generalize hdn : (if m.dn < 14 then m.dn + 1 else 14) = dn'
  intro hd
  by_cases hc : c.cnt < 14
  · have ec : addP c = ((c.zf6 (upd c.f6 c.cnt (nI c.r))).zf7 (upd c.f7 c.cnt (nI c.u))).zcnt (c.cnt + 1) := if_pos hc
    rw [ec] at hd ⊢
    exact ⟨a, b, hd, d, e, f, k⟩
  · have ec : addP c = ((c.zf6 (upd (va_cpy c.f6 c.f6 1 0 13) 13 (nI c.r))).zf7 (upd (va_cpy c.f7 c.f7 1 0 13) 13 (nI c.u))).zcnt 14 := if_neg hc
    rw [ec] at hd ⊢
    exact ⟨a, b, hd, d, e, f, k⟩
/-- other rows of the same surface's squares -/
theorem ok_now {c : CS} {m : MS} (h : OK c m) {r u : Nat} {f g : Nat → Int32} (hr : r ∈ P c.n) (hu : u ∈ P c.n) (hN : NW f c.n r u) : OK (((c.zn c.n).zr r).zu u) ((m.zf24 f).zf27 g) := ⟨h.1, ⟨hr, hu, hN⟩, h.2.2⟩
theorem c_shear (x : Int32) : Eqv (fun H => FX9_shear 0 x H) (fun H => FX10_shear 22 x H) := by
  intro c m h
  show ∃ r c' m', FX9_shear 0 x (hp c m) = _ ∧ FX10_shear 22 x (hp c' m) = _ ∧ _
  unfold FX9_shear FX10_shear
  rw [rg_clsL (l := 0) (h := 2) (a := 0) (b := 2) rfl rfl]
  by_cases hr : rg 0 2 x = true
  · obtain ⟨w, _, hw, rfl⟩ := (rg_t (by decide) (by decide)).mp hr
    obtain ⟨d1, d2, d3, d4⟩ := h.2.2.1
    obtain ⟨g, e1, g1, g2⟩ := mNote (c := ((((addP c).zn c.n).zr (shR c.n c.r c.u w)).zu (shU c.n c.r c.u w))) (m := m) (by omega) d3
    have h' := okn_add h g1 g2
    have hn := addP_n c
    obtain ⟨f, a, e2, e3⟩ := sh24 (c := ((((addP c).zn c.n).zr (shR c.n c.r c.u w)).zu (shU c.n c.r c.u w))) (m := ((m.zf28 g).znx ((m.nx + 1) % 14)).zdn (if m.dn < 14 then m.dn + 1 else 14)) h.2.1.1 h.2.1.2.1 (show w < 3 by omega) h.2.1.2.2
    have hR := P_shR h.2.1.1 h.2.1.2.1 w
    have hU := P_shU h.2.1.1 h.2.1.2.1 w
    refine ⟨nI (ringsN (cN c.n (shR c.n c.r c.u w) (shU c.n c.r c.u w)) c.n c.n 0 0 0), _, _, ?_, ?_, ok_now h' (r := shR c.n c.r c.u w) (u := shU c.n c.r c.u w) (f := f) (g := a) (by rw [hn.1]; exact hR) (by rw [hn.1]; exact hU) (by rw [hn.1]; exact e3)⟩
    · rw [if_pos hr, hA0_3, bd_some, hA0_1, bd_some, hI3_1, bd_some, bd_some, hI3_2, bd_some, gp_pos hO5, eAddP d2, bd2_some, hA0_1, bd_some, gp_pos hO3, eShear (n := c.n) (r := c.r) (u := c.u) (by have := hg3 (c := addP c) (m := m); rw [hn.1, hn.2.1, hn.2.2] at this; exact this) h.2.1.1 h.2.1.2.1 (by omega), bd2_some, hs3, hA0_1, bd_some, gp_pos hO3, eCorners hg3 hR hU, bd2_some, hn.1]
    · rw [rg_inL (l := 0) (h := 2) (a := 0) (b := 2) rfl rfl (by decide) (by decide), bd2_some, hr, if_neg b01_1, gp_pos hO22, hn.1, e1, bd2_some, hA22_2, bd_some, gp_pos hO22, e2, bd2_some, hA22_2, bd_some, mAllCorners (p := 24) ⟨_, hc24, e3⟩ hR hU, bd2_some]
  · refine ⟨-2, c, m, ?_, ?_, h⟩
    · rw [if_neg hr]
    · rw [rg_inL (l := 0) (h := 2) (a := 0) (b := 2) rfl rfl (by decide) (by decide), bd2_some, rgF hr, if_pos b01_f]
theorem c_trade (x y : Int32) : Eqv (fun H => FX9_trade 0 x y H) (fun H => FX10_trade 22 x y H) := by
  intro c m h
  show ∃ r c' m', FX9_trade 0 x y (hp c m) = _ ∧ FX10_trade 22 x y (hp c' m) = _ ∧ _
  unfold FX9_trade FX10_trade
  cases hs : isS c.n x with
  | false =>
    refine ⟨-1, c, m, ?_, ?_, h⟩
    · rw [hA0_1, bd_some, gp_pos hO3, cHas h, bd2_some, hs, if_pos b01_f]
    · rw [gp_pos hO22, mSq h, bd2_some, hs, if_pos b01_f]
  | true =>
    cases hs2 : isS c.n y with
    | false =>
      refine ⟨-1, c, m, ?_, ?_, h⟩
      · rw [hA0_1, bd_some, gp_pos hO3, cHas h, bd2_some, hs, if_neg b01_1, hA0_1, bd_some, gp_pos hO3, cHas h, bd2_some, hs2, if_pos b01_f]
      · rw [gp_pos hO22, mSq h, bd2_some, hs, if_neg b01_1, gp_pos hO22, mSq h, bd2_some, hs2, if_pos b01_f]
    | true =>
      by_cases hxy : x = y
      · refine ⟨-2, c, m, ?_, ?_, h⟩
        · rw [hA0_1, bd_some, gp_pos hO3, cHas h, bd2_some, hs, if_neg b01_1, hA0_1, bd_some, gp_pos hO3, cHas h, bd2_some, hs2, if_neg b01_1, if_pos hxy]
        · rw [gp_pos hO22, mSq h, bd2_some, hs, if_neg b01_1, gp_pos hO22, mSq h, bd2_some, hs2, if_neg b01_1, if_pos hxy]
      · obtain ⟨a, ha, rfl⟩ := isS_of h hs
        obtain ⟨b, hb, rfl⟩ := isS_of h hs2
        obtain ⟨d1, d2, d3, d4⟩ := h.2.2.1
        obtain ⟨g, e1, g1, g2⟩ := mNote (c := ((((addP c).zn c.n).zr (tdN c.n c.r a b)).zu (tdN c.n c.u a b))) (m := m) (by omega) d3
        have h' := okn_add h g1 g2
        have hn := addP_n c
        obtain ⟨f, a2, e2, e3⟩ := ch24 (c := ((((addP c).zn c.n).zr (tdN c.n c.r a b)).zu (tdN c.n c.u a b))) (m := ((m.zf28 g).znx ((m.nx + 1) % 14)).zdn (if m.dn < 14 then m.dn + 1 else 14)) h.2.1.1 h.2.1.2.1 ha hb h.2.1.2.2
        have hR := P_td h.2.1.1 ha hb
        have hU := P_td h.2.1.2.1 ha hb
        refine ⟨1, _, _, ?_, ?_, ok_now h' (r := tdN c.n c.r a b) (u := tdN c.n c.u a b) (f := f) (g := a2) (by rw [hn.1]; exact hR) (by rw [hn.1]; exact hU) (by rw [hn.1]; exact e3)⟩
        · rw [hA0_1, bd_some, gp_pos hO3, cHas h, bd2_some, hs, if_neg b01_1, hA0_1, bd_some, gp_pos hO3, cHas h, bd2_some, hs2, if_neg b01_1, if_neg hxy, hA0_3, bd_some, hA0_1, bd_some, hI3_1, bd_some, bd_some, hI3_2, bd_some, gp_pos hO5, eAddP d2, bd2_some, hA0_1, bd_some, gp_pos hO3, eTrade (n := c.n) (r := c.r) (u := c.u) (by have := hg3 (c := addP c) (m := m); rw [hn.1, hn.2.1, hn.2.2] at this; exact this) h.2.1.1 h.2.1.2.1 ha hb, bd2_some, hs3, hn.1]
        · rw [gp_pos hO22, mSq h, bd2_some, hs, if_neg b01_1, gp_pos hO22, mSq h, bd2_some, hs2, if_neg b01_1, if_neg hxy, gp_pos hO22, hn.1, e1, bd2_some, hA22_2, bd_some, gp_pos hO22, e2, bd2_some]
