/-! What changes the surface, and is undone. -/
theorem nI11 (a i : Nat) : (11 : Int32) * nI a + nI i = nI (11 * a + i) := by
  rw [show (11 : Int32) = nI 11 from rfl, show nI 11 * nI a = nI (11 * a) from (Int32.ofNat_mul 11 a).symm, nI_add]
theorem nI11n {i : Nat} (h : i < 11) : ¬ (11 : Int32) ≤ nI i := nI_ge (b := 11) h (by decide)
theorem noteL {c : CS} {m : MS} (ho : 11 * m.nx + 11 ≤ 154) : ∀ (q i d : Nat) (g : Nat → Int32), i + q = 11 → q < d → (∀ j, j < i → g (11 * m.nx + j) = m.f24 j) → (∀ k, (k < 11 * m.nx ∨ 11 * m.nx + 11 ≤ k) → g k = m.f28 k) → ∃ (g' : Nat → Int32) (K : _), fX10_note_2 d 22 (nI i) (hp c (m.zf28 g)) = bX10_note_2 K 22 (nI 11) (hp c (m.zf28 g')) ∧ (∀ j, j < 11 → g' (11 * m.nx + j) = m.f24 j) ∧ (∀ k, (k < 11 * m.nx ∨ 11 * m.nx + 11 ≤ k) → g' k = m.f28 k) := by
  intro q
  induction q with
  | zero =>
    intro i d g hk hd h1 h2
    obtain ⟨d, rfl⟩ : ∃ e, d = e + 1 := ⟨d - 1, by omega⟩
    have hi : i = 11 := by omega
    subst hi
    exact ⟨g, fX10_note_2 d, rfl, ⟨h1, h2⟩⟩
  | succ q ih =>
    intro i d g hk hd h1 h2
    obtain ⟨d, rfl⟩ : ∃ e, d = e + 1 := ⟨d - 1, by omega⟩
    have e : fX10_note_2 (d + 1) 22 (nI i) (hp c (m.zf28 g)) = fX10_note_2 d 22 (nI (i + 1)) (hp c (m.zf28 (upd g (11 * m.nx + i) (m.f24 i)))) := by
      show bX10_note_2 (fX10_note_2 d) 22 (nI i) (hp c (m.zf28 g)) = _
      unfold bX10_note_2
      rw [if_neg (nI11n (by omega)), hA22_6, bd_some, hI22_8, bd_some, hA22_2, bd_some, hr24 (by omega), bd_some, nI11, hw28 (show 11 * m.nx + i < 154 by omega), bd_some, nI_1]
    rw [e]
    refine ih (i + 1) d _ (by omega) (by omega) (fun j hj => ?_) (fun k hk => ?_)
    · by_cases e2 : j = i
      · rw [e2, upd_at]
      · rw [upd_ne (by omega)]
        exact h1 j (by omega)
    · rw [upd_ne (by omega)]
      exact h2 k hk
theorem undoL {c : CS} {m : MS} (ho : 11 * m.nx + 11 ≤ 154) : ∀ (q i d : Nat) (g : Nat → Int32), i + q = 11 → q < d → (∀ j, j < i → g j = m.f28 (11 * m.nx + j)) → ∃ (g' : Nat → Int32) (K : _), fX10_undo_38 d 22 (nI i) (hp c (m.zf24 g)) = bX10_undo_38 K 22 (nI 11) (hp c (m.zf24 g')) ∧ (∀ j, j < 11 → g' j = m.f28 (11 * m.nx + j)) := by
  intro q
  induction q with
  | zero =>
    intro i d g hk hd h1
    obtain ⟨d, rfl⟩ : ∃ e, d = e + 1 := ⟨d - 1, by omega⟩
    have hi : i = 11 := by omega
    subst hi
    exact ⟨g, fX10_undo_38 d, rfl, h1⟩
  | succ q ih =>
    intro i d g hk hd h1
    obtain ⟨d, rfl⟩ : ∃ e, d = e + 1 := ⟨d - 1, by omega⟩
    have e : fX10_undo_38 (d + 1) 22 (nI i) (hp c (m.zf24 g)) = fX10_undo_38 d 22 (nI (i + 1)) (hp c (m.zf24 (upd g (i) (m.f28 (11 * m.nx + i))))) := by
      show bX10_undo_38 (fX10_undo_38 d) 22 (nI i) (hp c (m.zf24 g)) = _
      unfold bX10_undo_38
      rw [if_neg (nI11n (by omega)), hA22_2, bd_some, hA22_6, bd_some, hI22_8, bd_some, nI11, hr28 (show 11 * m.nx + i < 154 by omega), bd_some, hw24 (by omega), bd_some, nI_1]
    rw [e]
    refine ih (i + 1) d _ (by omega) (by omega) (fun j hj => ?_)
    by_cases e2 : j = i
    · rw [e2, upd_at]
    · rw [upd_ne e2]
      exact h1 j (by omega)
theorem keepL {c : CS} {m : MS} {s : Nat} (ho : 11 * s + 11 ≤ 22) : ∀ (q i d : Nat) (g : Nat → Int32), i + q = 11 → q < d → (∀ j, j < i → g (11 * s + j) = m.f24 j) → (∀ k, (k < 11 * s ∨ 11 * s + 11 ≤ k) → g k = m.f29 k) → ∃ (g' : Nat → Int32) (K : _), fX10_keep_21 d 22 (nI s) (nI i) (hp c (m.zf29 g)) = bX10_keep_21 K 22 (nI s) (nI 11) (hp c (m.zf29 g')) ∧ (∀ j, j < 11 → g' (11 * s + j) = m.f24 j) ∧ (∀ k, (k < 11 * s ∨ 11 * s + 11 ≤ k) → g' k = m.f29 k) := by
  intro q
  induction q with
  | zero =>
    intro i d g hk hd h1 h2
    obtain ⟨d, rfl⟩ : ∃ e, d = e + 1 := ⟨d - 1, by omega⟩
    have hi : i = 11 := by omega
    subst hi
    exact ⟨g, fX10_keep_21 d, rfl, ⟨h1, h2⟩⟩
  | succ q ih =>
    intro i d g hk hd h1 h2
    obtain ⟨d, rfl⟩ : ∃ e, d = e + 1 := ⟨d - 1, by omega⟩
    have e : fX10_keep_21 (d + 1) 22 (nI s) (nI i) (hp c (m.zf29 g)) = fX10_keep_21 d 22 (nI s) (nI (i + 1)) (hp c (m.zf29 (upd g (11 * s + i) (m.f24 i)))) := by
      show bX10_keep_21 (fX10_keep_21 d) 22 (nI s) (nI i) (hp c (m.zf29 g)) = _
      unfold bX10_keep_21
      rw [if_neg (nI11n (by omega)), hA22_9, bd_some, hA22_2, bd_some, hr24 (by omega), bd_some, nI11, hw29 (by omega), bd_some, nI_1]
    rw [e]
    refine ih (i + 1) d _ (by omega) (by omega) (fun j hj => ?_) (fun k hk => ?_)
    · by_cases e2 : j = i
      · rw [e2, upd_at]
      · rw [upd_ne (by omega)]
        exact h1 j (by omega)
    · rw [upd_ne (by omega)]
      exact h2 k hk
theorem againL {c : CS} {m : MS} {s : Nat} (ho : 11 * s + 11 ≤ 22) : ∀ (q i d : Nat) (g : Nat → Int32), i + q = 11 → q < d → (∀ j, j < i → g j = m.f29 (11 * s + j)) → ∃ (g' : Nat → Int32) (K : _), fX10_again_26 d 22 (nI s) (nI i) (hp c (m.zf24 g)) = bX10_again_26 K 22 (nI s) (nI 11) (hp c (m.zf24 g')) ∧ (∀ j, j < 11 → g' j = m.f29 (11 * s + j)) := by
  intro q
  induction q with
  | zero =>
    intro i d g hk hd h1
    obtain ⟨d, rfl⟩ : ∃ e, d = e + 1 := ⟨d - 1, by omega⟩
    have hi : i = 11 := by omega
    subst hi
    exact ⟨g, fX10_again_26 d, rfl, h1⟩
  | succ q ih =>
    intro i d g hk hd h1
    obtain ⟨d, rfl⟩ : ∃ e, d = e + 1 := ⟨d - 1, by omega⟩
    have e : fX10_again_26 (d + 1) 22 (nI s) (nI i) (hp c (m.zf24 g)) = fX10_again_26 d 22 (nI s) (nI (i + 1)) (hp c (m.zf24 (upd g (i) (m.f29 (11 * s + i))))) := by
      show bX10_again_26 (fX10_again_26 d) 22 (nI s) (nI i) (hp c (m.zf24 g)) = _
      unfold bX10_again_26
      rw [if_neg (nI11n (by omega)), hA22_2, bd_some, hA22_9, bd_some, nI11, hr29 (by omega), bd_some, hw24 (by omega), bd_some, nI_1]
    rw [e]
    refine ih (i + 1) d _ (by omega) (by omega) (fun j hj => ?_)
    by_cases e2 : j = i
    · rw [e2, upd_at]
    · rw [upd_ne e2]
      exact h1 j (by omega)
theorem layL {c : CS} {m : MS} (ho : 0 + 11 ≤ 11) : ∀ (q i d : Nat) (g : Nat → Int32), i + q = 11 → q < d → (∀ j, j < i → g j = m.f24 (0 + j)) → ∃ (g' : Nat → Int32) (K : _), fX10_lay_2 d 25 24 (nI i) (hp c (m.zf25 g)) = bX10_lay_2 K 25 24 (nI 11) (hp c (m.zf25 g')) ∧ (∀ j, j < 11 → g' j = m.f24 (0 + j)) := by
  intro q
  induction q with
  | zero =>
    intro i d g hk hd h1
    obtain ⟨d, rfl⟩ : ∃ e, d = e + 1 := ⟨d - 1, by omega⟩
    have hi : i = 11 := by omega
    subst hi
    exact ⟨g, fX10_lay_2 d, rfl, h1⟩
  | succ q ih =>
    intro i d g hk hd h1
    obtain ⟨d, rfl⟩ : ∃ e, d = e + 1 := ⟨d - 1, by omega⟩
    have e : fX10_lay_2 (d + 1) 25 24 (nI i) (hp c (m.zf25 g)) = fX10_lay_2 d 25 24 (nI (i + 1)) (hp c (m.zf25 (upd g (i) (m.f24 (0 + i))))) := by
      show bX10_lay_2 (fX10_lay_2 d) 25 24 (nI i) (hp c (m.zf25 g)) = _
      unfold bX10_lay_2
      rw [if_neg (nI11n (by omega)), hr24 (by omega), bd_some, hw25 (by omega), Nat.zero_add, bd_some, nI_1]
    rw [e]
    refine ih (i + 1) d _ (by omega) (by omega) (fun j hj => ?_)
    by_cases e2 : j = i
    · rw [e2, upd_at]
    · rw [upd_ne e2]
      exact h1 j (by omega)
theorem sh24 {c : CS} {m : MS} {n r u hw : Nat} (hr : r ∈ P n) (hu : u ∈ P n) (hh : hw < 3) (hN : NW m.f24 n r u) : ∃ f g, FX10_shearOn 22 24 (nI hw) (hp c m) = some ((), hp c ((m.zf24 f).zf27 g)) ∧ NW f n (shR n r u hw) (shU n r u hw) := by
  obtain ⟨H', e1, e2, ⟨g, e3⟩, f, e4, e5⟩ := mShear hr hu (p := 24) (by decide) (by decide) hh (H := hp c m) ⟨_, _, _, _, _, _, _, hc22⟩ ⟨m.f24, hc24, hN⟩ ⟨m.f27, hc27⟩
  have e6 : H' = hp c ((m.zf24 f).zf27 g) := fr2 e2 e4 e3 (by decide)
  exact ⟨f, g, by rw [e1, e6], e5⟩
theorem sh25 {c : CS} {m : MS} {n r u hw : Nat} (hr : r ∈ P n) (hu : u ∈ P n) (hh : hw < 3) (hN : NW m.f25 n r u) : ∃ f g, FX10_shearOn 22 25 (nI hw) (hp c m) = some ((), hp c ((m.zf25 f).zf27 g)) ∧ NW f n (shR n r u hw) (shU n r u hw) := by
  obtain ⟨H', e1, e2, ⟨g, e3⟩, f, e4, e5⟩ := mShear hr hu (p := 25) (by decide) (by decide) hh (H := hp c m) ⟨_, _, _, _, _, _, _, hc22⟩ ⟨m.f25, hc25, hN⟩ ⟨m.f27, hc27⟩
  have e6 : H' = hp c ((m.zf25 f).zf27 g) := fr2 e2 e4 e3 (by decide)
  exact ⟨f, g, by rw [e1, e6], e5⟩
theorem sh26 {c : CS} {m : MS} {n r u hw : Nat} (hr : r ∈ P n) (hu : u ∈ P n) (hh : hw < 3) (hN : NW m.f26 n r u) : ∃ f g, FX10_shearOn 22 26 (nI hw) (hp c m) = some ((), hp c ((m.zf26 f).zf27 g)) ∧ NW f n (shR n r u hw) (shU n r u hw) := by
  obtain ⟨H', e1, e2, ⟨g, e3⟩, f, e4, e5⟩ := mShear hr hu (p := 26) (by decide) (by decide) hh (H := hp c m) ⟨_, _, _, _, _, _, _, hc22⟩ ⟨m.f26, hc26, hN⟩ ⟨m.f27, hc27⟩
  have e6 : H' = hp c ((m.zf26 f).zf27 g) := fr2 e2 e4 e3 (by decide)
  exact ⟨f, g, by rw [e1, e6], e5⟩
theorem ch24 {c : CS} {m : MS} {n r u a b : Nat} (hr : r ∈ P n) (hu : u ∈ P n) (ha : a < n) (hb : b < n) (hN : NW m.f24 n r u) : ∃ f g, FX10_change 22 24 (nI a) (nI b) (hp c m) = some ((), hp c ((m.zf24 f).zf27 g)) ∧ NW f n (tdN n r a b) (tdN n u a b) := by
  obtain ⟨H', e1, e2, ⟨g, e3⟩, f, e4, e5⟩ := mChange hr hu (p := 24) (by decide) (by decide) ha hb (H := hp c m) ⟨_, _, _, _, _, _, _, hc22⟩ ⟨m.f24, hc24, hN⟩ ⟨m.f27, hc27⟩
  have e6 : H' = hp c ((m.zf24 f).zf27 g) := fr2 e2 e4 e3 (by decide)
  exact ⟨f, g, by rw [e1, e6], e5⟩
theorem ch25 {c : CS} {m : MS} {n r u a b : Nat} (hr : r ∈ P n) (hu : u ∈ P n) (ha : a < n) (hb : b < n) (hN : NW m.f25 n r u) : ∃ f g, FX10_change 22 25 (nI a) (nI b) (hp c m) = some ((), hp c ((m.zf25 f).zf27 g)) ∧ NW f n (tdN n r a b) (tdN n u a b) := by
  obtain ⟨H', e1, e2, ⟨g, e3⟩, f, e4, e5⟩ := mChange hr hu (p := 25) (by decide) (by decide) ha hb (H := hp c m) ⟨_, _, _, _, _, _, _, hc22⟩ ⟨m.f25, hc25, hN⟩ ⟨m.f27, hc27⟩
  have e6 : H' = hp c ((m.zf25 f).zf27 g) := fr2 e2 e4 e3 (by decide)
  exact ⟨f, g, by rw [e1, e6], e5⟩
/-- the class notes what was -/
def addP (c : CS) : CS := if c.cnt < 14 then ((c.zf6 (upd c.f6 c.cnt (nI c.r))).zf7 (upd c.f7 c.cnt (nI c.u))).zcnt (c.cnt + 1) else ((c.zf6 (upd (va_cpy c.f6 c.f6 1 0 13) 13 (nI c.r))).zf7 (upd (va_cpy c.f7 c.f7 1 0 13) 13 (nI c.u))).zcnt 14
theorem cp6 {c : CS} {m : MS} : cpI (hp c m) 6 1 0 13 = some (hp (c.zf6 (va_cpy c.f6 c.f6 1 0 13)) m) := rfl
theorem cp7 {c : CS} {m : MS} : cpI (hp c m) 7 1 0 13 = some (hp (c.zf7 (va_cpy c.f7 c.f7 1 0 13)) m) := rfl
theorem eAdd45 {c : CS} {m : MS} {a b : Int32} (hc : c.cnt < 14) : fX5_add_45 5 a b (hp c m) = some ((), hp (((c.zf6 (upd c.f6 c.cnt a)).zf7 (upd c.f7 c.cnt b)).zcnt (c.cnt + 1)) m) := by
  unfold fX5_add_45
  rw [hI5_2, bd_some, if_neg (nI_pos (by omega)), hA5_0, bd_some, bd_some, hw6 hc, bd_some, hA5_1, bd_some, hI5_2, bd_some, hw7 hc, bd_some, hI5_2, bd_some, hp5_2 (c.cnt + 1) (nI_1 _), bd_some]
theorem eAddP {c : CS} {m : MS} (hc : c.cnt ≤ 14) : FX5_add 5 (nI c.r) (nI c.u) (hp c m) = some ((), hp (addP c) m) := by
  unfold FX5_add addP
  by_cases h : c.cnt < 14
  · rw [if_pos h, hI5_2, bd_some, if_pos (show nI c.cnt < 14 from nI_lt (b := 14) h (by decide)), eAdd45 h]
  · rw [if_neg h, hI5_2, bd_some, if_neg (show ¬ nI c.cnt < 14 from nI_nlt (b := 14) (by omega) (by omega)), hA5_0, bd_some, bd_some, gp_pos rfl, cp6, bd_some, hA5_1, bd_some, bd_some, gp_pos rfl, cp7, bd_some, hp5_2 (v := 13) 13 rfl, bd_some, eAdd45 (show (13 : Nat) < 14 by decide)]
theorem mNote {c : CS} {m : MS} (hd : m.dn ≤ 14) (hx : m.nx < 14) : ∃ g, FX10_note 22 (hp c m) = some ((), hp c (((m.zf28 g).znx ((m.nx + 1) % 14)).zdn (if m.dn < 14 then m.dn + 1 else 14))) ∧ (∀ j, j < 11 → g (11 * m.nx + j) = m.f24 j) ∧ (∀ k, (k < 11 * m.nx ∨ 11 * m.nx + 11 ≤ k) → g k = m.f28 k) := by
  obtain ⟨g, K, e, h1, h2⟩ := noteL (c := c) (m := m) (by omega) 11 0 4096 m.f28 (by omega) (by omega) (fun j hj => by omega) (fun k _ => rfl)
  refine ⟨g, ?_, h1, h2⟩
  have e2 : FX10_note 22 (hp c m) = bX10_note_2 K 22 (nI 11) (hp c (m.zf28 g)) := e
  rw [e2]
  unfold bX10_note_2
  rw [if_pos (show (11 : Int32) ≤ nI 11 from by decide), hI22_8, bd_some, hp22_8 ((m.nx + 1) % 14) (by rw [nI_1]; exact rI_nI (a := m.nx + 1) (d := 14) (by omega) (by decide) (by decide)), bd_some, hI22_7, bd_some]
  by_cases h : m.dn < 14
  · rw [if_neg (show ¬ (14 : Int32) ≤ nI m.dn from nI_ge (b := 14) h (by decide)), bd_some]
    unfold fX10_note_68
    rw [hp22_7 (m.dn + 1) (nI_1 _), bd_some, if_pos h]
  · rw [if_pos (show (14 : Int32) ≤ nI m.dn from nI_le (a := 14) (by omega) (by omega))]
    unfold fX10_note_68
    rw [hp22_7 (v := 14) 14 rfl, bd_some, if_neg h]
theorem nw_at {f g : Nat → Int32} {n r u : Nat} (hn : n ≤ 5) (h : NW f n r u) (e : ∀ j, j < 11 → g j = f j) : NW g n r u := by
  refine ⟨by rw [e 0 (by omega)]; exact h.1, fun i hi => ?_, fun i hi => ?_⟩
  · rw [e (1 + i) (by omega)]; exact h.2.1 i hi
  · rw [e (6 + i) (by omega)]; exact h.2.2 i hi
/-- noting keeps the two diaries alike -/
theorem okd_add {c : CS} {m : MS} (h : OK c m) {g : Nat → Int32} (h1 : ∀ j, j < 11 → g (11 * m.nx + j) = m.f24 j) (h2 : ∀ k, (k < 11 * m.nx ∨ 11 * m.nx + 11 ≤ k) → g k = m.f28 k) : OKd (addP c) (((m.zf28 g).znx ((m.nx + 1) % 14)).zdn (if m.dn < 14 then m.dn + 1 else 14)) := by
  obtain ⟨d1, d2, d3, d4⟩ := h.2.2.1
  have hn := h.n5
  by_cases hc : c.cnt < 14
  · rw [show addP c = ((c.zf6 (upd c.f6 c.cnt (nI c.r))).zf7 (upd c.f7 c.cnt (nI c.u))).zcnt (c.cnt + 1) from if_pos hc, if_pos (show m.dn < 14 by omega)]
    refine ⟨?_, hc, Nat.mod_lt _ (by decide), fun j hj => ?_⟩
    · show m.dn + 1 = c.cnt + 1
      rw [d1]
    · show ∃ r u, r ∈ P c.n ∧ u ∈ P c.n ∧ upd c.f6 c.cnt (nI c.r) j = nI r ∧ upd c.f7 c.cnt (nI c.u) j = nI u ∧ NW (fun i => g (11 * (((m.nx + 1) % 14 + 14 - (c.cnt + 1) + j) % 14) + i)) c.n r u
      have hj : j < c.cnt + 1 := hj
      by_cases e : j = c.cnt
      · refine ⟨c.r, c.u, h.2.1.1, h.2.1.2.1, by rw [e, upd_at], by rw [e, upd_at], nw_at hn h.2.1.2.2 (fun i hi => ?_)⟩
        show g (11 * (((m.nx + 1) % 14 + 14 - (c.cnt + 1) + j) % 14) + i) = _
        rw [show ((m.nx + 1) % 14 + 14 - (c.cnt + 1) + j) % 14 = m.nx by omega]
        exact h1 i hi
      · obtain ⟨r, u, q1, q2, q3, q4, q5⟩ := d4 j (by omega)
        refine ⟨r, u, q1, q2, by rw [upd_ne e]; exact q3, by rw [upd_ne e]; exact q4, nw_at hn q5 (fun i hi => ?_)⟩
        show g (11 * (((m.nx + 1) % 14 + 14 - (c.cnt + 1) + j) % 14) + i) = m.f28 (11 * ((m.nx + 14 - c.cnt + j) % 14) + i)
        rw [show ((m.nx + 1) % 14 + 14 - (c.cnt + 1) + j) % 14 = (m.nx + 14 - c.cnt + j) % 14 by omega]
        exact h2 _ (by omega)
  · have hc14 : c.cnt = 14 := by omega
    rw [show addP c = ((c.zf6 (upd (va_cpy c.f6 c.f6 1 0 13) 13 (nI c.r))).zf7 (upd (va_cpy c.f7 c.f7 1 0 13) 13 (nI c.u))).zcnt 14 from if_neg hc, if_neg (show ¬ m.dn < 14 by omega)]
    refine ⟨rfl, Nat.le_refl 14, Nat.mod_lt _ (by decide), fun j hj => ?_⟩
    show ∃ r u, r ∈ P c.n ∧ u ∈ P c.n ∧ upd (va_cpy c.f6 c.f6 1 0 13) 13 (nI c.r) j = nI r ∧ upd (va_cpy c.f7 c.f7 1 0 13) 13 (nI c.u) j = nI u ∧ NW (fun i => g (11 * (((m.nx + 1) % 14 + 14 - 14 + j) % 14) + i)) c.n r u
    have hj : j < 14 := hj
    by_cases e : j = 13
    · refine ⟨c.r, c.u, h.2.1.1, h.2.1.2.1, by rw [e, upd_at], by rw [e, upd_at], nw_at hn h.2.1.2.2 (fun i hi => ?_)⟩
      show g (11 * (((m.nx + 1) % 14 + 14 - 14 + j) % 14) + i) = _
      rw [show ((m.nx + 1) % 14 + 14 - 14 + j) % 14 = m.nx by omega]
      exact h1 i hi
    · obtain ⟨r, u, q1, q2, q3, q4, q5⟩ := d4 (j + 1) (by omega)
      refine ⟨r, u, q1, q2, ?_, ?_, nw_at hn q5 (fun i hi => ?_)⟩
      · rw [upd_ne e, pk_cpy_in (by omega) (by omega), show 1 + (j - 0) = j + 1 by omega]; exact q3
      · rw [upd_ne e, pk_cpy_in (by omega) (by omega), show 1 + (j - 0) = j + 1 by omega]; exact q4
      · show g (11 * (((m.nx + 1) % 14 + 14 - 14 + j) % 14) + i) = m.f28 (11 * ((m.nx + 14 - c.cnt + (j + 1)) % 14) + i)
        rw [show ((m.nx + 1) % 14 + 14 - 14 + j) % 14 = (m.nx + 14 - c.cnt + (j + 1)) % 14 by omega]
        exact h2 _ (by omega)
theorem addP_n (c : CS) : (addP c).n = c.n ∧ (addP c).r = c.r ∧ (addP c).u = c.u := by
  unfold addP
  split
  · exact ⟨rfl, rfl, rfl⟩
  · exact ⟨rfl, rfl, rfl⟩
/-- all else as it was, after a note -/
theorem okn_add {c : CS} {m : MS} (h : OK c m) {g : Nat → Int32} (h1 : ∀ j, j < 11 → g (11 * m.nx + j) = m.f24 j) (h2 : ∀ k, (k < 11 * m.nx ∨ 11 * m.nx + 11 ≤ k) → g k = m.f28 k) : OK (addP c) (((m.zf28 g).znx ((m.nx + 1) % 14)).zdn (if m.dn < 14 then m.dn + 1 else 14)) := by
  have hd := okd_add h h1 h2
  obtain ⟨a, b, _, d, e, f, k⟩ := h
  revert hd
  generalize hdn : (if m.dn < 14 then m.dn + 1 else 14) = dn'
  intro hd
  by_cases hc : c.cnt < 14
  · have ec : addP c = ((c.zf6 (upd c.f6 c.cnt (nI c.r))).zf7 (upd c.f7 c.cnt (nI c.u))).zcnt (c.cnt + 1) := if_pos hc
    rw [ec] at hd ⊢
    exact ⟨a, b, hd, d, e, f, k⟩
  · have ec : addP c = ((c.zf6 (upd (va_cpy c.f6 c.f6 1 0 13) 13 (nI c.r))).zf7 (upd (va_cpy c.f7 c.f7 1 0 13) 13 (nI c.u))).zcnt 14 := if_neg hc
    rw [ec] at hd ⊢
    exact ⟨a, b, hd, d, e, f, k⟩
/-- other rows of the same surface's squares -/
theorem ok_now {c : CS} {m : MS} (h : OK c m) {r u : Nat} {f g : Nat → Int32} (hr : r ∈ P c.n) (hu : u ∈ P c.n) (hN : NW f c.n r u) : OK (((c.zn c.n).zr r).zu u) ((m.zf24 f).zf27 g) := ⟨h.1, ⟨hr, hu, hN⟩, h.2.2⟩
theorem nw_ml24 {c : CS} {m : MS} {n r u : Nat} (h : NW m.f24 n r u) : ml (hp c m) 24 n r u := ⟨m.f24, hc24, h⟩
theorem nw_ml25 {c : CS} {m : MS} {n r u : Nat} (h : NW m.f25 n r u) : ml (hp c m) 25 n r u := ⟨m.f25, hc25, h⟩
theorem nw_ml26 {c : CS} {m : MS} {n r u : Nat} (h : NW m.f26 n r u) : ml (hp c m) 26 n r u := ⟨m.f26, hc26, h⟩
theorem c_shear (x : Int32) : Eqv (fun H => FX9_shear 0 x H) (fun H => FX10_shear 22 x H) := by
  intro c m h
  show ∃ r c' m', FX9_shear 0 x (hp c m) = _ ∧ FX10_shear 22 x (hp c' m) = _ ∧ _
  unfold FX9_shear FX10_shear
  rw [rg_clsL (l := 0) (h := 2) (a := 0) (b := 2) rfl rfl]
  by_cases hr : rg 0 2 x = true
  · obtain ⟨w, _, hw, rfl⟩ := (rg_t (by decide) (by decide)).mp hr
    obtain ⟨d1, d2, d3, d4⟩ := h.2.2.1
    obtain ⟨g, e1, g1, g2⟩ := mNote (c := ((((addP c).zn c.n).zr (shR c.n c.r c.u w)).zu (shU c.n c.r c.u w))) (m := m) (by omega) d3
    have h' := okn_add h g1 g2
    have hn := addP_n c
    obtain ⟨f, a, e2, e3⟩ := sh24 (c := ((((addP c).zn c.n).zr (shR c.n c.r c.u w)).zu (shU c.n c.r c.u w))) (m := ((m.zf28 g).znx ((m.nx + 1) % 14)).zdn (if m.dn < 14 then m.dn + 1 else 14)) h.2.1.1 h.2.1.2.1 (show w < 3 by omega) h.2.1.2.2
    have hR := P_shR h.2.1.1 h.2.1.2.1 w
    have hU := P_shU h.2.1.1 h.2.1.2.1 w
    refine ⟨nI (ringsN (cN c.n (shR c.n c.r c.u w) (shU c.n c.r c.u w)) c.n c.n 0 0 0), _, _, ?_, ?_, ok_now h' (r := shR c.n c.r c.u w) (u := shU c.n c.r c.u w) (f := f) (g := a) (by rw [hn.1]; exact hR) (by rw [hn.1]; exact hU) (by rw [hn.1]; exact e3)⟩
    · rw [if_pos hr, hA0_3, bd_some, hA0_1, bd_some, hI3_1, bd_some, bd_some, hI3_2, bd_some, gp_pos hO5, eAddP d2, bd2_some, hA0_1, bd_some, gp_pos hO3, eShear (n := c.n) (r := c.r) (u := c.u) (by have := hg3 (c := addP c) (m := m); rw [hn.1, hn.2.1, hn.2.2] at this; exact this) h.2.1.1 h.2.1.2.1 (by omega), bd2_some, hs3, hA0_1, bd_some, gp_pos hO3, eCorners hg3 hR hU, bd2_some, hn.1]
    · rw [rg_inL (l := 0) (h := 2) (a := 0) (b := 2) rfl rfl (by decide) (by decide), bd2_some, hr, if_neg b01_1, gp_pos hO22, hn.1, e1, bd2_some, hA22_2, bd_some, gp_pos hO22, e2, bd2_some, hA22_2, bd_some, mAllCorners (nw_ml24 (m := ((((m.zf28 g).znx ((m.nx + 1) % 14)).zdn (if m.dn < 14 then m.dn + 1 else 14)).zf24 f).zf27 a) e3) hR hU, bd2_some]
  · refine ⟨-2, c, m, ?_, ?_, h⟩
    · rw [if_neg hr]
    · rw [rg_inL (l := 0) (h := 2) (a := 0) (b := 2) rfl rfl (by decide) (by decide), bd2_some, rgF hr, if_pos b01_f]
theorem c_trade (x y : Int32) : Eqv (fun H => FX9_trade 0 x y H) (fun H => FX10_trade 22 x y H) := by
  intro c m h
  show ∃ r c' m', FX9_trade 0 x y (hp c m) = _ ∧ FX10_trade 22 x y (hp c' m) = _ ∧ _
  unfold FX9_trade FX10_trade
  cases hs : isS c.n x with
  | false =>
    refine ⟨-1, c, m, ?_, ?_, h⟩
    · rw [hA0_1, bd_some, gp_pos hO3, cHas h, bd2_some, hs, if_pos b01_f]
    · rw [gp_pos hO22, mSq h, bd2_some, hs, if_pos b01_f]
  | true =>
    cases hs2 : isS c.n y with
    | false =>
      refine ⟨-1, c, m, ?_, ?_, h⟩
      · rw [hA0_1, bd_some, gp_pos hO3, cHas h, bd2_some, hs, if_neg b01_1, hA0_1, bd_some, gp_pos hO3, cHas h, bd2_some, hs2, if_pos b01_f]
      · rw [gp_pos hO22, mSq h, bd2_some, hs, if_neg b01_1, gp_pos hO22, mSq h, bd2_some, hs2, if_pos b01_f]
    | true =>
      by_cases hxy : x = y
      · refine ⟨-2, c, m, ?_, ?_, h⟩
        · rw [hA0_1, bd_some, gp_pos hO3, cHas h, bd2_some, hs, if_neg b01_1, hA0_1, bd_some, gp_pos hO3, cHas h, bd2_some, hs2, if_neg b01_1, if_pos hxy]
        · rw [gp_pos hO22, mSq h, bd2_some, hs, if_neg b01_1, gp_pos hO22, mSq h, bd2_some, hs2, if_neg b01_1, if_pos hxy]
      · obtain ⟨a, ha, rfl⟩ := isS_of h hs
        obtain ⟨b, hb, rfl⟩ := isS_of h hs2
        obtain ⟨d1, d2, d3, d4⟩ := h.2.2.1
        obtain ⟨g, e1, g1, g2⟩ := mNote (c := ((((addP c).zn c.n).zr (tdN c.n c.r a b)).zu (tdN c.n c.u a b))) (m := m) (by omega) d3
        have h' := okn_add h g1 g2
        have hn := addP_n c
        obtain ⟨f, a2, e2, e3⟩ := ch24 (c := ((((addP c).zn c.n).zr (tdN c.n c.r a b)).zu (tdN c.n c.u a b))) (m := ((m.zf28 g).znx ((m.nx + 1) % 14)).zdn (if m.dn < 14 then m.dn + 1 else 14)) h.2.1.1 h.2.1.2.1 ha hb h.2.1.2.2
        have hR := P_td h.2.1.1 ha hb
        have hU := P_td h.2.1.2.1 ha hb
        refine ⟨1, _, _, ?_, ?_, ok_now h' (r := tdN c.n c.r a b) (u := tdN c.n c.u a b) (f := f) (g := a2) (by rw [hn.1]; exact hR) (by rw [hn.1]; exact hU) (by rw [hn.1]; exact e3)⟩
        · rw [hA0_1, bd_some, gp_pos hO3, cHas h, bd2_some, hs, if_neg b01_1, hA0_1, bd_some, gp_pos hO3, cHas h, bd2_some, hs2, if_neg b01_1, if_neg hxy, hA0_3, bd_some, hA0_1, bd_some, hI3_1, bd_some, bd_some, hI3_2, bd_some, gp_pos hO5, eAddP d2, bd2_some, hA0_1, bd_some, gp_pos hO3, eTrade (n := c.n) (r := c.r) (u := c.u) (by have := hg3 (c := addP c) (m := m); rw [hn.1, hn.2.1, hn.2.2] at this; exact this) h.2.1.1 h.2.1.2.1 ha hb, bd2_some, hs3, hn.1]
        · rw [gp_pos hO22, mSq h, bd2_some, hs, if_neg b01_1, gp_pos hO22, mSq h, bd2_some, hs2, if_neg b01_1, if_neg hxy, gp_pos hO22, hn.1, e1, bd2_some, hA22_2, bd_some, gp_pos hO22, e2, bd2_some]
theorem eRightAt {c : CS} {m : MS} {j : Nat} (hj : j < 14) : FX5_rightAt 5 (nI j) (hp c m) = some (c.f6 j, hp c m) := by
  unfold FX5_rightAt
  rw [if_neg (nI_pos (by omega)), if_neg (show ¬ (14 : Int32) ≤ nI j from nI_ge (b := 14) hj (by decide)), hA5_0, bd_some, hr6 hj, bd_some]
theorem eUpAt {c : CS} {m : MS} {j : Nat} (hj : j < 14) : FX5_upAt 5 (nI j) (hp c m) = some (c.f7 j, hp c m) := by
  unfold FX5_upAt
  rw [if_neg (nI_pos (by omega)), if_neg (show ¬ (14 : Int32) ≤ nI j from nI_ge (b := 14) hj (by decide)), hA5_1, bd_some, hr7 hj, bd_some]
theorem c_undo : Eqv (fun H => FX9_undo 0 H) (fun H => FX10_undo 22 H) := by
  intro c m h
  obtain ⟨d1, d2, d3, d4⟩ := h.2.2.1
  have hn := h.n5
  show ∃ r c' m', FX9_undo 0 (hp c m) = _ ∧ FX10_undo 22 (hp c' m) = _ ∧ _
  unfold FX9_undo FX10_undo
  by_cases h0 : c.cnt = 0
  · refine ⟨-3, c, m, ?_, ?_, h⟩
    · rw [hA0_3, bd_some, hI5_2, bd_some, h0, if_pos (show nI 0 = 0 from rfl)]
    · rw [hI22_7, bd_some, d1, h0, if_pos (show nI 0 = 0 from rfl)]
  · obtain ⟨k, hk⟩ : ∃ k, c.cnt = k + 1 := ⟨c.cnt - 1, by omega⟩
    obtain ⟨r, u, q1, q2, q3, q4, q5⟩ := d4 k (by omega)
    obtain ⟨g, K, e, e1⟩ := undoL (c := (((c.zcnt k).zn c.n).zr r).zu u) (m := (m.zdn k).znx ((m.nx + 13) % 14)) (show 11 * ((m.nx + 13) % 14) + 11 ≤ 154 by omega) 11 0 4096 m.f24 (by omega) (by omega) (fun j hj => by omega)
    refine ⟨nI k, (((c.zcnt k).zn c.n).zr r).zu u, ((m.zdn k).znx ((m.nx + 13) % 14)).zf24 g, ?_, ?_, ?_⟩
    · rw [hA0_3, bd_some, hI5_2, bd_some, if_neg (nI_ne0 (by omega) (by omega)), bd_some, hI5_2, bd_some, hp5_2 k (by rw [hk]; exact nI_pred k), bd_some, hA0_1, bd_some, bd_some, hI3_0, bd_some, hA0_3, bd_some, bd_some, hI5_2, bd_some, gp_pos hO5, eRightAt (show k < 14 by omega), bd2_some, hA0_3, bd_some, bd_some, hI5_2, bd_some, gp_pos hO5, eUpAt (show k < 14 by omega), bd2_some, gp_pos hO3]
      rw [show (c.zcnt k).f6 k = nI r from q3, show (c.zcnt k).f7 k = nI u from q4, eBecome hg3, bd2_some, hs3, hA0_3, bd_some, hI5_2, bd_some]
    · rw [hI22_7, bd_some, if_neg (nI_ne0 (by omega) (by omega)), bd_some, hp22_7 k (by rw [d1, hk]; exact nI_pred k), bd_some, hI22_8, bd_some, hp22_8 ((m.nx + 13) % 14) (by
        rw [show (14 : Int32) = nI 14 from rfl, nI_add, show nI (m.nx + 14) - 1 = nI (m.nx + 13) from nI_pred (m.nx + 13)]
        exact rI_nI (a := m.nx + 13) (d := 14) (by omega) (by decide) (by decide)), bd_some]
      refine Eq.trans e ?_
      unfold bX10_undo_38
      rw [if_pos (show (11 : Int32) ≤ nI 11 from by decide), hI22_7, bd_some]
    · refine ⟨h.1, ⟨q1, q2, ?_⟩, ⟨rfl, ?_, Nat.mod_lt _ (by decide), fun j hj => ?_⟩, h.2.2.2⟩
      · refine nw_at hn q5 (fun j hj => ?_)
        rw [show (((m.zdn k).znx ((m.nx + 13) % 14)).zf24 g).f24 j = g j from rfl, e1 j hj]
        show m.f28 (11 * ((m.nx + 13) % 14) + j) = m.f28 (11 * ((m.nx + 14 - c.cnt + k) % 14) + j)
        rw [show (m.nx + 14 - c.cnt + k) % 14 = (m.nx + 13) % 14 by omega]
      · show k ≤ 14
        omega
      · have hj : j < k := hj
        obtain ⟨r, u, p1, p2, p3, p4, p5⟩ := d4 j (by omega)
        refine ⟨r, u, p1, p2, p3, p4, nw_at hn p5 (fun i hi => ?_)⟩
        show m.f28 (11 * (((m.nx + 13) % 14 + 14 - k + j) % 14) + i) = m.f28 (11 * ((m.nx + 14 - c.cnt + j) % 14) + i)
        rw [show ((m.nx + 13) % 14 + 14 - k + j) % 14 = (m.nx + 14 - c.cnt + j) % 14 by omega]
-- slots
theorem eSlot (x : Int32) (H : Hp) : FX8_has x H = some (b01 (rg 0 1 x), H) := by
  unfold FX8_has
  have h := rg_t (x := x) (a := 0) (b := 1) (by decide) (by decide)
  rcases pk_ix x (n := 2) (by decide) with h1 | h1 | ⟨j, h3, rfl⟩
  · rw [if_pos h1, rgF (fun q => by
      obtain ⟨w, _, _, rfl⟩ := h.mp q
      exact nI_pos (by omega) h1)]
    rfl
  · have hneg : ¬ x < 0 := by
      rw [fa_le, nI_toInt (by omega)] at h1
      rw [fa_lt]
      show ¬ x.toInt < 0
      omega
    rw [if_neg hneg, if_pos (show (2 : Int32) ≤ x from h1), rgF (fun q => by
      obtain ⟨w, _, hw, rfl⟩ := h.mp q
      exact nI_ge (a := w) (b := 2) (by omega) (by decide) h1)]
    rfl
  · rw [if_neg (nI_pos (by omega)), if_neg (show ¬ (2 : Int32) ≤ nI j from nI_ge (b := 2) h3 (by decide)), h.mpr ⟨j, by omega, by omega, rfl⟩]
    rfl
theorem bit_set {b s t : Nat} (hb : b < 4) (hs : s < 2) (ht : t < 2) : b ||| (1 <<< s) < 4 ∧ (b ||| (1 <<< s)).testBit t = (decide (t = s) || b.testBit t) := by
  have : ∀ b, b < 4 → ∀ s, s < 2 → ∀ t, t < 2 → b ||| (1 <<< s) < 4 ∧ (b ||| (1 <<< s)).testBit t = (decide (t = s) || b.testBit t) := by decide
  exact this b hb s hs t ht
theorem c_keep (x : Int32) : Eqv (fun H => FX9_keep 0 x H) (fun H => FX10_keep 22 x H) := by
  intro c m h
  obtain ⟨k1, k2⟩ := h.2.2.2.1
  have hn := h.n5
  show ∃ r c' m', FX9_keep 0 x (hp c m) = _ ∧ FX10_keep 22 x (hp c' m) = _ ∧ _
  unfold FX9_keep FX10_keep
  rw [eSlot, bd2_some]
  by_cases hr : rg 0 1 x = true
  · obtain ⟨s, _, hs, rfl⟩ := (rg_t (by decide) (by decide)).mp hr
    have hs : s < 2 := by omega
    have hb := fun t ht => bit_set (t := t) k1 hs ht
    obtain ⟨g, K, e, e1, e2⟩ := keepL (c := ((c.zf9 (upd c.f9 s (nI c.r))).zf10 (upd c.f10 s (nI c.u))).zkb (c.kb ||| (1 <<< s))) (m := m.zf30 (upd m.f30 s 1)) (s := s) (by omega) 11 0 4096 m.f29 (by omega) (by omega) (fun j hj => by omega) (fun k _ => rfl)
    refine ⟨nI c.n, ((c.zf9 (upd c.f9 s (nI c.r))).zf10 (upd c.f10 s (nI c.u))).zkb (c.kb ||| (1 <<< s)), (m.zf30 (upd m.f30 s 1)).zf29 g, ?_, ?_, ?_⟩
    · rw [hr, if_neg b01_1, hA0_4, bd_some, hA0_1, bd_some, hI3_1, bd_some, bd_some, hI3_2, bd_some, gp_pos hO8]
      unfold FX8_put
      rw [eSlot, bd2_some, hr, if_neg b01_1, hA8_0, bd_some, hw9 hs, bd_some, hA8_1, bd_some, hw10 hs, bd_some, hI8_2, bd_some, hp8_2 (c.kb ||| (1 <<< s)) (by rw [shl1 (by omega), fa_or]), bd_some, bd2_some, hA0_1, bd_some, hI3_0, bd_some]
    · rw [rg_inL (l := 0) (h := 1) (a := 0) (b := 1) rfl rfl (by decide) (by decide), bd2_some, hr, if_neg b01_1, hA22_10, bd_some, hw30 hs, bd_some]
      refine Eq.trans e ?_
      unfold bX10_keep_21
      rw [if_pos (show (11 : Int32) ≤ nI 11 from by decide), hA22_2, bd_some, show (0 : Int32) = nI 0 from rfl, hr24 (by decide), bd_some]
      show some (m.f24 0, _) = _
      rw [h.2.1.2.2.1]
    · refine ⟨h.1, h.2.1, h.2.2.1, ⟨(hb 0 (by decide)).1, fun t ht => ?_⟩, h.2.2.2.2⟩
      show upd m.f30 s 1 t = bit01 (c.kb ||| (1 <<< s)) t ∧ ((c.kb ||| (1 <<< s)).testBit t = true → ∃ r u, r ∈ P c.n ∧ u ∈ P c.n ∧ upd c.f9 s (nI c.r) t = nI r ∧ upd c.f10 s (nI c.u) t = nI u ∧ NW (fun i => g (11 * t + i)) c.n r u)
      by_cases ets : t = s
      · rw [ets, upd_at, upd_at, upd_at]
        refine ⟨(bit01_t (by rw [(hb s hs).2, decide_eq_true rfl, Bool.true_or])).symm, fun _ => ⟨c.r, c.u, h.2.1.1, h.2.1.2.1, rfl, rfl, nw_at hn h.2.1.2.2 (fun j hj => e1 j hj)⟩⟩
      · rw [upd_ne ets, upd_ne ets, upd_ne ets]
        have hbt : (c.kb ||| (1 <<< s)).testBit t = c.kb.testBit t := by rw [(hb t ht).2, decide_eq_false ets, Bool.false_or]
        refine ⟨?_, fun hq => ?_⟩
        · rw [(k2 t ht).1]
          unfold bit01
          rw [hbt]
        · rw [hbt] at hq
          obtain ⟨r, u, p1, p2, p3, p4, p5⟩ := (k2 t ht).2 hq
          refine ⟨r, u, p1, p2, p3, p4, nw_at hn p5 (fun j hj => ?_)⟩
          exact e2 (11 * t + j) (by omega)
  · refine ⟨-1, c, m, ?_, ?_, h⟩
    · rw [rgF hr, if_pos b01_f]
    · rw [rg_inL (l := 0) (h := 1) (a := 0) (b := 1) rfl rfl (by decide) (by decide), bd2_some, rgF hr, if_pos b01_f]
theorem c_again (x : Int32) : Eqv (fun H => FX9_again 0 x H) (fun H => FX10_again 22 x H) := by
  intro c m h
  obtain ⟨k1, k2⟩ := h.2.2.2.1
  have hn := h.n5
  show ∃ r c' m', FX9_again 0 x (hp c m) = _ ∧ FX10_again 22 x (hp c' m) = _ ∧ _
  unfold FX9_again FX10_again
  rw [eSlot, bd2_some]
  by_cases hr : rg 0 1 x = true
  · obtain ⟨s, _, hs, rfl⟩ := (rg_t (by decide) (by decide)).mp hr
    have hs : s < 2 := by omega
    have hK : FX8_isKept 8 (nI s) (hp c m) = some (bit01 c.kb s, hp c m) := by
      unfold FX8_isKept
      rw [eSlot, bd2_some, hr, if_neg b01_1, hI8_2, bd_some, eIsIn (by omega) (by omega), bd2_some]
      cases e : c.kb.testBit s with
      | true => rw [bit01_t e, if_neg (by decide)]
      | false => rw [bit01_f (by rw [e]; decide), if_pos rfl]
    rw [hr, if_neg b01_1, hA0_4, bd_some, gp_pos hO8, hK, bd2_some]
    cases eb : c.kb.testBit s with
    | false =>
      have eb' : bit01 c.kb s = 0 := bit01_f (by rw [eb]; decide)
      refine ⟨-3, c, m, ?_, ?_, h⟩
      · rw [eb', if_pos rfl]
      · rw [rg_inL (l := 0) (h := 1) (a := 0) (b := 1) rfl rfl (by decide) (by decide), bd2_some, hr, if_neg b01_1, hA22_10, bd_some, hr30 hs, bd_some, (k2 s hs).1, eb', if_pos rfl]
    | true =>
      have eb' : bit01 c.kb s = 1 := bit01_t eb
      obtain ⟨r, u, p1, p2, p3, p4, p5⟩ := (k2 s hs).2 eb
      obtain ⟨g, K, e, e1⟩ := againL (c := (((c.zn c.n).zr r).zu u).zcnt 0) (m := m) (s := s) (by omega) 11 0 4096 m.f24 (by omega) (by omega) (fun j hj => by omega)
      have hN : NW g c.n r u := nw_at hn p5 e1
      refine ⟨nI c.n, (((c.zn c.n).zr r).zu u).zcnt 0, (m.zf24 g).zdn 0, ?_, ?_, ?_⟩
      · rw [eb', if_neg (by decide), hA0_1, bd_some, bd_some, hI3_0, bd_some, hA0_4, bd_some, gp_pos hO8]
        unfold FX8_rightAt FX8_upAt
        rw [eSlot, bd2_some, hr, if_neg b01_1, hA8_0, bd_some, hr9 hs, bd_some, bd2_some, hA0_4, bd_some, gp_pos hO8, eSlot, bd2_some, hr, if_neg b01_1, hA8_1, bd_some, hr10 hs, bd_some, bd2_some, gp_pos hO3, p3, p4, eBecome hg3, bd2_some, hs3, hA0_3, bd_some, hp5_2 (v := 0) 0 rfl, bd_some, hA0_1, bd_some, hI3_0, bd_some]
      · rw [rg_inL (l := 0) (h := 1) (a := 0) (b := 1) rfl rfl (by decide) (by decide), bd2_some, hr, if_neg b01_1, hA22_10, bd_some, hr30 hs, bd_some, (k2 s hs).1, eb', if_neg (by decide)]
        refine Eq.trans e ?_
        unfold bX10_again_26
        rw [if_pos (show (11 : Int32) ≤ nI 11 from by decide), hp22_7 (v := 0) 0 rfl, bd_some, hA22_2, bd_some, show aI (hp ((((c.zn c.n).zr r).zu u).zcnt 0) ((m.zf24 g).zdn 0)) 24 0 0 = some (g 0) from hr24 (i := 0) (by decide), bd_some, hN.1]
      · exact ⟨h.1, ⟨p1, p2, hN⟩, ⟨rfl, Nat.zero_le _, h.2.2.1.2.2.1, fun j hj => absurd hj (Nat.not_lt_zero j)⟩, h.2.2.2⟩
  · refine ⟨-1, c, m, ?_, ?_, h⟩
    · rw [rgF hr, if_pos b01_f]
    · rw [rg_inL (l := 0) (h := 1) (a := 0) (b := 1) rfl rfl (by decide) (by decide), bd2_some, rgF hr, if_pos b01_f]
