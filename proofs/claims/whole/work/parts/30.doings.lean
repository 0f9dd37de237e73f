/-! Shears and trades. -/
/-- what a shear makes of the two rows -/
def shR (n r u hw : Nat) : Nat := if hw = 0 then r else if hw = 1 then thenN (backN u n) r n else backN u n
def shU (n r u hw : Nat) : Nat := if hw = 0 then thenN (backN r n) u n else if hw = 1 then u else r
theorem P_shR {n r u : Nat} (hr : r ∈ P n) (hu : u ∈ P n) (hw : Nat) : shR n r u hw ∈ P n := by
  unfold shR
  split
  · exact hr
  · split
    · exact P_then (P_back hu) hr
    · exact P_back hu
theorem P_shU {n r u : Nat} (hr : r ∈ P n) (hu : u ∈ P n) (hw : Nat) : shU n r u hw ∈ P n := by
  unfold shU
  split
  · exact P_then (P_back hr) hu
  · split
    · exact hu
    · exact hr
def glE (n r u : Nat) : va_E := .inr (2, [.int (nI n), .int (nI r), .int (nI u)])
theorem gl_set {H : Hp} {k n r u n2 r2 u2 : Nat} (h : gl H k n r u) : gl (H.set k (glE n2 r2 u2)) k n2 r2 u2 := set_at h
theorem eBecome {H : Hp} {k n r u : Nat} (h : gl H k n r u) (n2 r2 u2 : Nat) : FX2_become k (nI n2) (nI r2) (nI u2) H = some ((), H.set k (glE n2 r2 u2)) := by
  unfold FX2_become
  have h1 : (H.set k (.inr (2, [.int (nI n2), .int (nI r), .int (nI u)])))[k]? = some (.inr (2, [.int (nI n2), .int (nI r), .int (nI u)])) := set_at h
  have h2 : ((H.set k (.inr (2, [.int (nI n2), .int (nI r), .int (nI u)]))).set k (.inr (2, [.int (nI n2), .int (nI r2), .int (nI u)])))[k]? = some (.inr (2, [.int (nI n2), .int (nI r2), .int (nI u)])) := set_at h1
  rw [pV_of h rfl, bd_some]
  show bd (pV (H.set k (.inr (2, [.int (nI n2), .int (nI r), .int (nI u)]))) k 2 1 _) _ = _
  rw [pV_of h1 rfl, bd_some]
  show bd (pV ((H.set k (.inr (2, [.int (nI n2), .int (nI r), .int (nI u)]))).set k (.inr (2, [.int (nI n2), .int (nI r2), .int (nI u)]))) k 2 2 _) _ = _
  rw [pV_of h2 rfl, bd_some, List.set_set, List.set_set]
  rfl
theorem eShear {H : Hp} {k n r u hw : Nat} (h : gl H k n r u) (hr : r ∈ P n) (hu : u ∈ P n) (hh : hw < 3) : FX2_doShear k (nI hw) H = some ((), H.set k (glE n (shR n r u hw) (shU n r u hw))) := by
  have hn := P_n hr
  have b1 := P_lt hr
  have b2 := P_lt hu
  have b3 := P_lt (P_back hr)
  have b4 := P_lt (P_back hu)
  unfold FX2_doShear shR shU
  by_cases e0 : hw = 0
  · subst e0
    rw [if_pos (show nI 0 = 0 from rfl), if_pos rfl, if_pos rfl, gp_pos (glO h), eLeft h hr, bd2_some, gl2 h, bd_some, gl0 h, bd_some, eThen (by omega) (by omega) (by omega), bd2_some, pV_of h rfl, bd_some]
    rfl
  · rw [if_neg (show ¬ nI hw = 0 from fun q => e0 ((nI_eq (b := 0) (by omega) (by omega)).mp q)), if_neg e0, if_neg e0]
    by_cases e1 : hw = 1
    · subst e1
      rw [if_pos (show nI 1 = 1 from rfl), if_pos rfl, if_pos rfl, gp_pos (glO h), eDown h hu, bd2_some, gl1 h, bd_some, gl0 h, bd_some, eThen (by omega) (by omega) (by omega), bd2_some, pV_of h rfl, bd_some]
      rfl
    · rw [if_neg (show ¬ nI hw = 1 from fun q => e1 ((nI_eq (b := 1) (by omega) (by omega)).mp q)), if_neg e1, if_neg e1, gl0 h, bd_some, gp_pos (glO h), eDown h hu, bd2_some, gl1 h, bd_some, gp_pos (glO h), eBecome h, bd2_some]
-- two squares trade their places
def trF (a b i : Nat) : Nat := if i = a then b else if i = b then a else i
def trN (n a b : Nat) : Nat := rowOf (trF a b) n
def tdN (n r a b : Nat) : Nat := thenN (trN n a b) (thenN r (trN n a b) n) n
theorem trF_lt {n a b i : Nat} (ha : a < n) (hb : b < n) (hi : i < n) : trF a b i < n := by
  unfold trF
  split
  · exact hb
  · split
    · exact ha
    · exact hi
theorem trF_trF {a b i : Nat} : trF a b (trF a b i) = i := by
  unfold trF
  by_cases h1 : i = a
  · rw [if_pos h1]
    by_cases h2 : b = a
    · rw [if_pos h2, h1, h2]
    · rw [if_neg h2, if_pos rfl, h1]
  · rw [if_neg h1]
    by_cases h2 : i = b
    · rw [if_pos h2, if_pos rfl, h2]
    · rw [if_neg h2, if_neg h1, if_neg h2]
theorem P_tr {n a b : Nat} (h1 : 1 ≤ n) (h5 : n ≤ 5) (ha : a < n) (hb : b < n) : trN n a b ∈ P n := by
  refine P_of h1 h5 (fun i hi => trF_lt ha hb hi) (fun i j hij hj e => ?_)
  have h := congrArg (trF a b) e
  rw [trF_trF, trF_trF] at h
  omega
theorem dg_tr0 : ∀ n, n < 6 → ∀ a, a < n → ∀ b, b < n → ∀ i, i < n → dg (trN n a b) i = trF a b i := by decide +kernel
theorem dg_tr {n a b i : Nat} (h5 : n ≤ 5) (ha : a < n) (hb : b < n) (hi : i < n) : dg (trN n a b) i = trF a b i := dg_tr0 n (by omega) a ha b hb i hi
theorem P_td {n r a b : Nat} (hr : r ∈ P n) (ha : a < n) (hb : b < n) : tdN n r a b ∈ P n := P_then (P_tr (P_n hr).1 (P_n hr).2 ha hb) (P_then hr (P_tr (P_n hr).1 (P_n hr).2 ha hb))
theorem dg_td {n r a b i : Nat} (hr : r ∈ P n) (ha : a < n) (hb : b < n) (hi : i < n) : dg (tdN n r a b) i = trF a b (dg r (trF a b i)) := by
  have hn := P_n hr
  unfold tdN
  rw [dg_thenN (by omega) hi, dg_tr hn.2 ha hb hi, dg_thenN (by omega) (trF_lt ha hb hi), dg_tr hn.2 ha hb (P_dg hr (trF_lt ha hb hi))]
theorem eTradeL {H : Hp} {k n r u a b : Nat} (h : gl H k n r u) (hr : r ∈ P n) (hu : u ∈ P n) (ha : a < n) (hb : b < n) : ∀ (m i d w : Nat), i + m = n → m < d → up (fun i w => putN w i (trF a b i)) i m w = trN n a b → fX2_doTrade_5 d k (nI a) (nI b) (nI w) (nI i) H = some ((), H.set k (glE n (tdN n r a b) (tdN n u a b))) := by
  have hn := P_n hr
  have b1 := P_lt hr
  have b2 := P_lt hu
  have ht := P_tr hn.1 hn.2 ha hb
  have b3 := P_lt ht
  intro m
  induction m with
  | zero =>
    intro i d w hk hd he
    obtain ⟨d, rfl⟩ : ∃ e, d = e + 1 := ⟨d - 1, by omega⟩
    show bX2_doTrade_5 (fX2_doTrade_5 d) _ _ _ _ _ H = _
    have he : w = trN n a b := he
    subst he
    have b4 := P_lt (P_then hr ht)
    have b5 := P_lt (P_then hu ht)
    unfold bX2_doTrade_5
    have h1 : (H.set k (.inr (2, ([.int (nI n), .int (nI r), .int (nI u)] : List Value).set 1 (.int (nI (thenN (trN n a b) (thenN r (trN n a b) n) n))))))[k]? = some (.inr (2, ([.int (nI n), .int (nI r), .int (nI u)] : List Value).set 1 (.int (nI (thenN (trN n a b) (thenN r (trN n a b) n) n))))) := set_at h
    rw [gl0 h, bd_some, if_pos (nI_le (by omega) (by omega)), gl1 h, bd_some, bd_some, eThen (by omega) (by omega) (by omega), bd2_some, gl0 h, bd_some, eThen (by omega) (by omega) (by omega), bd2_some, pV_of h rfl, bd_some, gI_of (j := 2) (x := nI u) h1 rfl, bd_some, gI_of (j := 0) (x := nI n) h1 rfl, bd_some, eThen (by omega) (by omega) (by omega), bd2_some, gI_of (j := 0) (x := nI n) h1 rfl, bd_some, eThen (by omega) (by omega) (by omega), bd2_some, pV_of h1 rfl, bd_some, List.set_set]
    rfl
  | succ m ih =>
    intro i d w hk hd he
    obtain ⟨d, rfl⟩ : ∃ e, d = e + 1 := ⟨d - 1, by omega⟩
    show bX2_doTrade_5 (fX2_doTrade_5 d) _ _ _ _ _ H = _
    have h39 : ∀ s, s < 8 → fX2_doTrade_39 (fX2_doTrade_5 d) k (nI a) (nI b) (nI i) (nI w) (nI i) (nI s) H = fX2_doTrade_5 d k (nI a) (nI b) (nI (putN w i s)) (nI (i + 1)) H := by
      intro s hs
      unfold fX2_doTrade_39
      rw [ePut (by omega) hs, bd2_some, nI_1]
    have he2 : up (fun i w => putN w i (trF a b i)) (i + 1) m (putN w i (trF a b i)) = trN n a b := he
    unfold bX2_doTrade_5
    rw [gl0 h, bd_some, if_neg (nI_ge (by omega) (by omega))]
    by_cases e1 : i = a
    · rw [if_pos (by rw [e1]), h39 b (by omega)]
      rw [show trF a b i = b by unfold trF; rw [if_pos e1]] at he2
      exact ih (i + 1) d _ (by omega) (by omega) he2
    · rw [if_neg (fun q => e1 ((nI_eq (by omega) (by omega)).mp q))]
      by_cases e2 : i = b
      · rw [if_pos (by rw [e2]), h39 a (by omega)]
        rw [show trF a b i = a by unfold trF; rw [if_neg e1, if_pos e2]] at he2
        exact ih (i + 1) d _ (by omega) (by omega) he2
      · rw [if_neg (fun q => e2 ((nI_eq (by omega) (by omega)).mp q)), h39 i (by omega)]
        rw [show trF a b i = i by unfold trF; rw [if_neg e1, if_neg e2]] at he2
        exact ih (i + 1) d _ (by omega) (by omega) he2
theorem eTrade {H : Hp} {k n r u a b : Nat} (h : gl H k n r u) (hr : r ∈ P n) (hu : u ∈ P n) (ha : a < n) (hb : b < n) : FX2_doTrade k (nI a) (nI b) H = some ((), H.set k (glE n (tdN n r a b) (tdN n u a b))) := by
  unfold FX2_doTrade
  exact eTradeL h hr hu ha hb n 0 4096 0 (by omega) (by have := P_n hr; omega) rfl
-- the reference lays aside, and writes
section MSH
variable {e22 : va_E} {p n r u : Nat}
/-- the reference's object stands, with its own rows -/
def MO (H : Hp) : Prop := ∃ ln dn nx sn sd mn sz, H[22]? = some (mob ln dn nx sn sd mn sz)
theorem MO.a {H : Hp} (h : MO H) : gA H 22 9 5 = some 27 := by
  obtain ⟨ln, dn, nx, sn, sd, mn, sz, ho⟩ := h
  exact gA_of ho rfl
theorem MO.o {H : Hp} (h : MO H) : isO H 22 9 = true := by
  obtain ⟨ln, dn, nx, sn, sd, mn, sz, ho⟩ := h
  exact isO_of ho
theorem MO.fr {H H' : Hp} {ks : List Nat} (h : MO H) (hf : Fr ks H H') (hk : 22 ∉ ks) : MO H' := by
  obtain ⟨ln, dn, nx, sn, sd, mn, sz, ho⟩ := h
  exact ⟨ln, dn, nx, sn, sd, mn, sz, by rw [hf.2 22 hk]; exact ho⟩
theorem mLayL {f : Nat → Int32} (hp : p ≠ 27) : ∀ (m i d : Nat) (H : Hp) (g : Nat → Int32), i + m = 10 → m < d → MO H → H[p]? = some (.inl (0, 11, .inl f)) → H[27]? = some (.inl (0, 10, .inl g)) → (∀ j, j < i → g j = f (1 + j)) → ∃ (H' : Hp) (g' : Nat → Int32), fX10_layAside_2 d 22 p (nI i) H = some ((), H') ∧ Fr [27] H H' ∧ H'[27]? = some (.inl (0, 10, .inl g')) ∧ ∀ j, j < 10 → g' j = f (1 + j) := by
  intro m
  induction m with
  | zero =>
    intro i d H g hk hd ho h1 h2 h3
    obtain ⟨d, rfl⟩ : ∃ e, d = e + 1 := ⟨d - 1, by omega⟩
    show ∃ (H' : Hp) (g' : Nat → Int32), bX10_layAside_2 (fX10_layAside_2 d) 22 p (nI i) H = _ ∧ _
    unfold bX10_layAside_2
    rw [l_10, if_pos (nI_le (by omega) (by omega))]
    exact ⟨H, g, rfl, Fr.rf _ H, h2, fun j hj => h3 j (by omega)⟩
  | succ m ih =>
    intro i d H g hk hd ho h1 h2 h3
    obtain ⟨d, rfl⟩ : ∃ e, d = e + 1 := ⟨d - 1, by omega⟩
    show ∃ (H' : Hp) (g' : Nat → Int32), bX10_layAside_2 (fX10_layAside_2 d) 22 p (nI i) H = _ ∧ _
    unfold bX10_layAside_2
    rw [l_10, if_neg (nI_ge (by omega) (by omega)), ho.a, bd_some, l_1, nI_add, aI_of h1 (by omega) (by omega), bd_some, sI_of h2 (by omega) (by omega), bd_some, show nI i + nI 1 = nI (i + 1) from nI_1 i]
    obtain ⟨H', g', e1, fr, e2, e3⟩ := ih (i + 1) d (H.set 27 (.inl (0, 10, .inl (upd g i (f (1 + i)))))) (upd g i (f (1 + i))) (by omega) (by omega) (ho.fr (Fr.set (ks := [27]) H 27 _ (by decide)) (by decide)) (by rw [set_ne (fun q => hp q.symm)]; exact h1) (set_at h2) (fun j hj => by
      unfold upd
      by_cases e : j = i
      · rw [if_pos e, e]
      · rw [if_neg e]; exact h3 j (by omega))
    exact ⟨H', g', e1, (Fr.set H 27 _ (by decide)).tr fr, e2, e3⟩
theorem mLayAside (hp : p ≠ 27) {H : Hp} {f g : Nat → Int32} (ho : MO H) (h1 : H[p]? = some (.inl (0, 11, .inl f))) (h2 : H[27]? = some (.inl (0, 10, .inl g))) : ∃ (H' : Hp) (g' : Nat → Int32), FX10_layAside 22 p H = some ((), H') ∧ Fr [27] H H' ∧ H'[27]? = some (.inl (0, 10, .inl g')) ∧ ∀ j, j < 10 → g' j = f (1 + j) := by
  unfold FX10_layAside
  exact mLayL hp 10 0 4096 H g (by omega) (by omega) ho h1 h2 (fun j hj => by omega)
/-- what was laid aside: the two rows -/
def Asd (n r u : Nat) (g : Nat → Int32) : Prop := (∀ i, i < n → g i = nI (dg r i)) ∧ ∀ i, i < n → g (5 + i) = nI (dg u i)
theorem asd_of {H H' : Hp} {g' : Nat → Int32} (hn : n ≤ 5) {f : Nat → Int32} (h1 : f 0 = nI n ∧ (∀ i, i < n → f (1 + i) = nI (dg r i)) ∧ (∀ i, i < n → f (6 + i) = nI (dg u i))) (h3 : ∀ j, j < 10 → g' j = f (1 + j)) : Asd n r u g' := by
  refine ⟨fun i hi => ?_, fun i hi => ?_⟩
  · rw [h3 i (by omega)]; exact h1.2.1 i hi
  · rw [h3 (5 + i) (by omega), show 1 + (5 + i) = 6 + i by omega]; exact h1.2.2 i hi
theorem upd_at (f : Nat → Int32) (i : Nat) (x : Int32) : upd f i x i = x := by unfold upd; rw [if_pos rfl]
theorem upd_ne {f : Nat → Int32} {i j : Nat} {x : Int32} (h : j ≠ i) : upd f i x j = f j := by unfold upd; rw [if_neg h]
theorem mSideL (hr : r ∈ P n) (hu : u ∈ P n) (hp : p ≠ 27) (hp2 : p ≠ 22) : ∀ (m i d : Nat) (H : Hp) (f g : Nat → Int32), i + m = n → m < d → MO H → H[p]? = some (.inl (0, 11, .inl f)) → H[27]? = some (.inl (0, 10, .inl g)) → Asd n r u g → f 0 = nI n → ((∀ j, j < n → f (1 + j) = nI (dg r j)) ∧ ∀ j, j < i → f (6 + dg r j) = nI (dg u j)) → ∃ (H' : Hp) (f' : Nat → Int32), fX10_side_7 d 22 p (nI i) H = some ((), H') ∧ Fr [p] H H' ∧ H'[p]? = some (.inl (0, 11, .inl f')) ∧ f' 0 = nI n ∧ ((∀ j, j < n → f' (1 + j) = nI (dg r j)) ∧ ∀ j, j < n → f' (6 + dg r j) = nI (dg u j)) := by
  have hn := P_n hr
  intro m
  induction m with
  | zero =>
    intro i d H f g hk hd ho h1 h2 ha h0 hi
    obtain ⟨d, rfl⟩ : ∃ e, d = e + 1 := ⟨d - 1, by omega⟩
    have hin : i = n := by omega
    subst hin
    show ∃ (H' : Hp) (f' : Nat → Int32), bX10_side_7 (fX10_side_7 d) 22 p (nI i) H = _ ∧ _
    unfold bX10_side_7
    rw [show (0 : Int32) = nI 0 from rfl, aI_of h1 (by omega) (by omega), bd_some, h0, if_pos (nI_le (by omega) (by omega))]
    exact ⟨H, f, rfl, Fr.rf _ H, h1, h0, hi⟩
  | succ m ih =>
    intro i d H f g hk hd ho h1 h2 ha h0 hi
    obtain ⟨d, rfl⟩ : ∃ e, d = e + 1 := ⟨d - 1, by omega⟩
    show ∃ (H' : Hp) (f' : Nat → Int32), bX10_side_7 (fX10_side_7 d) 22 p (nI i) H = _ ∧ _
    unfold bX10_side_7
    have d1 := P_dg hr (i := i) (by omega)
    have d2 := P_dg hu (i := i) (by omega)
    have hset : (H.set p (.inl (0, 11, .inl (upd f (6 + dg r i) (nI (dg u i))))))[27]? = some (.inl (0, 10, .inl g)) := by rw [set_ne hp]; exact h2
    rw [show (0 : Int32) = nI 0 from rfl, aI_of h1 (by omega) (by omega), bd_some, h0, if_neg (nI_ge (by omega) (by omega)), ho.a, bd_some, aI_of h2 (by omega) (by omega), bd_some, bd_some, l_5, nI_add, aI_of h2 (by omega) (by omega), bd_some, ha.1 i (by omega), ha.2 i (by omega), l_6, nI_add, sI_of h1 (by omega) (by omega), bd_some, nI_1]
    obtain ⟨H', f', e1, fr, e2, e3, e4⟩ := ih (i + 1) d (H.set p (.inl (0, 11, .inl (upd f (6 + dg r i) (nI (dg u i)))))) (upd f (6 + dg r i) (nI (dg u i))) g (by omega) (by omega) (ho.fr (Fr.set (ks := [p]) H p _ (by simp)) (by simpa using fun q : 22 = p => hp2 q.symm)) (set_at h1) hset ha (by rw [upd_ne (by omega)]; exact h0) (by
      refine ⟨fun j hj => by rw [upd_ne (by omega)]; exact hi.1 j hj, fun j hj => ?_⟩
      by_cases e : j = i
      · rw [e, upd_at]
      · rw [upd_ne (fun q => e (P_inj hr (by omega) (by omega) (by omega)))]
        exact hi.2 j (by omega))
    exact ⟨H', f', e1, (Fr.set H p _ (by simp)).tr fr, e2, e3, e4⟩

theorem mUpwL (hr : r ∈ P n) (hu : u ∈ P n) (hp : p ≠ 27) (hp2 : p ≠ 22) : ∀ (m i d : Nat) (H : Hp) (f g : Nat → Int32), i + m = n → m < d → MO H → H[p]? = some (.inl (0, 11, .inl f)) → H[27]? = some (.inl (0, 10, .inl g)) → Asd n r u g → f 0 = nI n → ((∀ j, j < n → f (6 + j) = nI (dg u j)) ∧ ∀ j, j < i → f (1 + dg u j) = nI (dg r j)) → ∃ (H' : Hp) (f' : Nat → Int32), fX10_upward_7 d 22 p (nI i) H = some ((), H') ∧ Fr [p] H H' ∧ H'[p]? = some (.inl (0, 11, .inl f')) ∧ f' 0 = nI n ∧ ((∀ j, j < n → f' (6 + j) = nI (dg u j)) ∧ ∀ j, j < n → f' (1 + dg u j) = nI (dg r j)) := by
  have hn := P_n hr
  intro m
  induction m with
  | zero =>
    intro i d H f g hk hd ho h1 h2 ha h0 hi
    obtain ⟨d, rfl⟩ : ∃ e, d = e + 1 := ⟨d - 1, by omega⟩
    have hin : i = n := by omega
    subst hin
    show ∃ (H' : Hp) (f' : Nat → Int32), bX10_upward_7 (fX10_upward_7 d) 22 p (nI i) H = _ ∧ _
    unfold bX10_upward_7
    rw [show (0 : Int32) = nI 0 from rfl, aI_of h1 (by omega) (by omega), bd_some, h0, if_pos (nI_le (by omega) (by omega))]
    exact ⟨H, f, rfl, Fr.rf _ H, h1, h0, hi⟩
  | succ m ih =>
    intro i d H f g hk hd ho h1 h2 ha h0 hi
    obtain ⟨d, rfl⟩ : ∃ e, d = e + 1 := ⟨d - 1, by omega⟩
    show ∃ (H' : Hp) (f' : Nat → Int32), bX10_upward_7 (fX10_upward_7 d) 22 p (nI i) H = _ ∧ _
    unfold bX10_upward_7
    have d1 := P_dg hr (i := i) (by omega)
    have d2 := P_dg hu (i := i) (by omega)
    have hset : (H.set p (.inl (0, 11, .inl (upd f (1 + dg u i) (nI (dg r i))))))[27]? = some (.inl (0, 10, .inl g)) := by rw [set_ne hp]; exact h2
    rw [show (0 : Int32) = nI 0 from rfl, aI_of h1 (by omega) (by omega), bd_some, h0, if_neg (nI_ge (by omega) (by omega)), ho.a, bd_some, l_5, nI_add, aI_of h2 (by omega) (by omega), bd_some, bd_some, aI_of h2 (by omega) (by omega), bd_some, ha.1 i (by omega), ha.2 i (by omega), l_1, nI_add, sI_of h1 (by omega) (by omega), bd_some, show nI i + nI 1 = nI (i + 1) from nI_1 i]
    obtain ⟨H', f', e1, fr, e2, e3, e4⟩ := ih (i + 1) d (H.set p (.inl (0, 11, .inl (upd f (1 + dg u i) (nI (dg r i)))))) (upd f (1 + dg u i) (nI (dg r i))) g (by omega) (by omega) (ho.fr (Fr.set (ks := [p]) H p _ (by simp)) (by simpa using fun q : 22 = p => hp2 q.symm)) (set_at h1) hset ha (by rw [upd_ne (by omega)]; exact h0) (by
      refine ⟨fun j hj => by rw [upd_ne (by omega)]; exact hi.1 j hj, fun j hj => ?_⟩
      by_cases e : j = i
      · rw [e, upd_at]
      · rw [upd_ne (fun q => e (P_inj hu (by omega) (by omega) (by omega)))]
        exact hi.2 j (by omega))
    exact ⟨H', f', e1, (Fr.set H p _ (by simp)).tr fr, e2, e3, e4⟩

theorem mQuaL (hr : r ∈ P n) (hu : u ∈ P n) (hp : p ≠ 27) (hp2 : p ≠ 22) : ∀ (m i d : Nat) (H : Hp) (f g : Nat → Int32), i + m = n → m < d → MO H → H[p]? = some (.inl (0, 11, .inl f)) → H[27]? = some (.inl (0, 10, .inl g)) → Asd n r u g → f 0 = nI n → ((∀ j, j < i → f (1 + dg u j) = nI j) ∧ ∀ j, j < i → f (6 + j) = nI (dg r j)) → ∃ (H' : Hp) (f' : Nat → Int32), fX10_quarter_7 d 22 p (nI i) H = some ((), H') ∧ Fr [p] H H' ∧ H'[p]? = some (.inl (0, 11, .inl f')) ∧ f' 0 = nI n ∧ ((∀ j, j < n → f' (1 + dg u j) = nI j) ∧ ∀ j, j < n → f' (6 + j) = nI (dg r j)) := by
  have hn := P_n hr
  intro m
  induction m with
  | zero =>
    intro i d H f g hk hd ho h1 h2 ha h0 hi
    obtain ⟨d, rfl⟩ : ∃ e, d = e + 1 := ⟨d - 1, by omega⟩
    have hin : i = n := by omega
    subst hin
    show ∃ (H' : Hp) (f' : Nat → Int32), bX10_quarter_7 (fX10_quarter_7 d) 22 p (nI i) H = _ ∧ _
    unfold bX10_quarter_7
    rw [show (0 : Int32) = nI 0 from rfl, aI_of h1 (by omega) (by omega), bd_some, h0, if_pos (nI_le (by omega) (by omega))]
    exact ⟨H, f, rfl, Fr.rf _ H, h1, h0, hi⟩
  | succ m ih =>
    intro i d H f g hk hd ho h1 h2 ha h0 hi
    obtain ⟨d, rfl⟩ : ∃ e, d = e + 1 := ⟨d - 1, by omega⟩
    show ∃ (H' : Hp) (f' : Nat → Int32), bX10_quarter_7 (fX10_quarter_7 d) 22 p (nI i) H = _ ∧ _
    unfold bX10_quarter_7
    have d1 := P_dg hr (i := i) (by omega)
    have d2 := P_dg hu (i := i) (by omega)
    have hpa : (H.set p (.inl (0, 11, .inl (upd f (1 + dg u i) (nI i)))))[p]? = some (.inl (0, 11, .inl (upd f (1 + dg u i) (nI i)))) := set_at h1
    have ho1 : MO (H.set p (.inl (0, 11, .inl (upd f (1 + dg u i) (nI i))))) := ho.fr (Fr.set (ks := [p]) H p _ (by simp)) (by simpa using fun q : 22 = p => hp2 q.symm)
    have h21 : (H.set p (.inl (0, 11, .inl (upd f (1 + dg u i) (nI i)))))[27]? = some (.inl (0, 10, .inl g)) := by rw [set_ne hp]; exact h2
    rw [show (0 : Int32) = nI 0 from rfl, aI_of h1 (by omega) (by omega), bd_some, h0, if_neg (nI_ge (by omega) (by omega)), ho.a, bd_some, l_5, nI_add, aI_of h2 (by omega) (by omega), bd_some, ha.2 i (by omega), l_1, nI_add, sI_of h1 (by omega) (by omega), bd_some, ho1.a, bd_some, aI_of h21 (by omega) (by omega), bd_some, ha.1 i (by omega), l_6, nI_add, sI_of hpa (by omega) (by omega), bd_some, List.set_set, show nI i + nI 1 = nI (i + 1) from nI_1 i]
    obtain ⟨H', f', e1, fr, e2, e3, e4⟩ := ih (i + 1) d (H.set p (.inl (0, 11, .inl (upd (upd f (1 + dg u i) (nI i)) (6 + i) (nI (dg r i)))))) (upd (upd f (1 + dg u i) (nI i)) (6 + i) (nI (dg r i))) g (by omega) (by omega) (ho.fr (Fr.set (ks := [p]) H p _ (by simp)) (by simpa using fun q : 22 = p => hp2 q.symm)) (set_at h1) (by rw [set_ne hp]; exact h2) ha (by rw [upd_ne (by omega), upd_ne (by omega)]; exact h0) (by
      refine ⟨fun j hj => ?_, fun j hj => ?_⟩
      · have dj := P_dg hu (i := j) (by omega)
        rw [upd_ne (by omega)]
        by_cases e : j = i
        · rw [e, upd_at]
        · rw [upd_ne (fun q => e (P_inj hu (by omega) (by omega) (by omega)))]
          exact hi.1 j (by omega)
      · by_cases e : j = i
        · rw [e, upd_at]
        · rw [upd_ne (by omega), upd_ne (by omega)]
          exact hi.2 j (by omega))
    exact ⟨H', f', e1, (Fr.set H p _ (by simp)).tr fr, e2, e3, e4⟩

theorem mOther {i a b : Nat} (hi : i < 100) (ha : a < 100) (hb : b < 100) (H : Hp) : FX10_other (nI i) (nI a) (nI b) H = some (nI (trF a b i), H) := by
  unfold FX10_other trF
  by_cases e1 : i = a
  · rw [if_pos (by rw [e1]), if_pos e1]
  · rw [if_neg (fun q => e1 ((nI_eq (by omega) (by omega)).mp q)), if_neg e1]
    by_cases e2 : i = b
    · rw [if_pos (by rw [e2]), if_pos e2]
    · rw [if_neg (fun q => e2 ((nI_eq (by omega) (by omega)).mp q)), if_neg e2]
theorem mChaL (hr : r ∈ P n) (hu : u ∈ P n) (hp : p ≠ 27) (hp2 : p ≠ 22) {a b : Nat} (hA : a < n) (hB : b < n) : ∀ (m i d : Nat) (H : Hp) (f g : Nat → Int32), i + m = n → m < d → MO H → H[p]? = some (.inl (0, 11, .inl f)) → H[27]? = some (.inl (0, 10, .inl g)) → Asd n r u g → f 0 = nI n → ((∀ j, j < i → f (1 + trF a b j) = nI (trF a b (dg r j))) ∧ ∀ j, j < i → f (6 + trF a b j) = nI (trF a b (dg u j))) → ∃ (H' : Hp) (f' : Nat → Int32), fX10_change_8 d 22 p (nI a) (nI b) (nI i) H = some ((), H') ∧ Fr [p] H H' ∧ H'[p]? = some (.inl (0, 11, .inl f')) ∧ f' 0 = nI n ∧ ((∀ j, j < n → f' (1 + trF a b j) = nI (trF a b (dg r j))) ∧ ∀ j, j < n → f' (6 + trF a b j) = nI (trF a b (dg u j))) := by
  have hn := P_n hr
  intro m
  induction m with
  | zero =>
    intro i d H f g hk hd ho h1 h2 ha h0 hi
    obtain ⟨d, rfl⟩ : ∃ e, d = e + 1 := ⟨d - 1, by omega⟩
    have hin : i = n := by omega
    subst hin
    show ∃ (H' : Hp) (f' : Nat → Int32), bX10_change_8 (fX10_change_8 d) 22 p (nI a) (nI b) (nI i) H = _ ∧ _
    unfold bX10_change_8
    rw [show (0 : Int32) = nI 0 from rfl, aI_of h1 (by omega) (by omega), bd_some, h0, if_pos (nI_le (by omega) (by omega))]
    exact ⟨H, f, rfl, Fr.rf _ H, h1, h0, hi⟩
  | succ m ih =>
    intro i d H f g hk hd ho h1 h2 ha h0 hi
    obtain ⟨d, rfl⟩ : ∃ e, d = e + 1 := ⟨d - 1, by omega⟩
    show ∃ (H' : Hp) (f' : Nat → Int32), bX10_change_8 (fX10_change_8 d) 22 p (nI a) (nI b) (nI i) H = _ ∧ _
    unfold bX10_change_8
    have d1 := P_dg hr (i := i) (by omega)
    have d2 := P_dg hu (i := i) (by omega)
    have t1 := trF_lt hA hB (i := i) (by omega)
    have t2 := trF_lt hA hB d1
    have t3 := trF_lt hA hB d2
    have hpa : (H.set p (.inl (0, 11, .inl (upd f (1 + trF a b i) (nI (trF a b (dg r i)))))))[p]? = some (.inl (0, 11, .inl (upd f (1 + trF a b i) (nI (trF a b (dg r i)))))) := set_at h1
    have ho1 : MO (H.set p (.inl (0, 11, .inl (upd f (1 + trF a b i) (nI (trF a b (dg r i))))))) := ho.fr (Fr.set (ks := [p]) H p _ (by simp)) (by simpa using fun q : 22 = p => hp2 q.symm)
    have h21 : (H.set p (.inl (0, 11, .inl (upd f (1 + trF a b i) (nI (trF a b (dg r i)))))))[27]? = some (.inl (0, 10, .inl g)) := by rw [set_ne hp]; exact h2
    rw [show (0 : Int32) = nI 0 from rfl, aI_of h1 (by omega) (by omega), bd_some, h0, if_neg (nI_ge (by omega) (by omega)), mOther (by omega) (by omega) (by omega), bd2_some, ho.a, bd_some, aI_of h2 (by omega) (by omega), bd_some, ha.1 i (by omega), mOther (by omega) (by omega) (by omega), bd2_some, l_1, nI_add, sI_of h1 (by omega) (by omega), bd_some, ho1.a, bd_some, l_5, nI_add, aI_of h21 (by omega) (by omega), bd_some, ha.2 i (by omega), mOther (by omega) (by omega) (by omega), bd2_some, l_6, nI_add, sI_of hpa (by omega) (by omega), bd_some, List.set_set, show nI i + nI 1 = nI (i + 1) from nI_1 i]
    obtain ⟨H', f', e1, fr, e2, e3, e4⟩ := ih (i + 1) d (H.set p (.inl (0, 11, .inl (upd (upd f (1 + trF a b i) (nI (trF a b (dg r i)))) (6 + trF a b i) (nI (trF a b (dg u i))))))) (upd (upd f (1 + trF a b i) (nI (trF a b (dg r i)))) (6 + trF a b i) (nI (trF a b (dg u i)))) g (by omega) (by omega) (ho.fr (Fr.set (ks := [p]) H p _ (by simp)) (by simpa using fun q : 22 = p => hp2 q.symm)) (set_at h1) (by rw [set_ne hp]; exact h2) ha (by rw [upd_ne (by omega), upd_ne (by omega)]; exact h0) (by
      refine ⟨fun j hj => ?_, fun j hj => ?_⟩
      · have dj := trF_lt hA hB (i := j) (by omega)
        rw [upd_ne (by omega)]
        by_cases e : j = i
        · rw [e, upd_at]
        · rw [upd_ne (fun q => e (by
            have hq : trF a b j = trF a b i := by omega
            have := congrArg (trF a b) hq
            rwa [trF_trF, trF_trF] at this))]
          exact hi.1 j (by omega)
      · have dj := trF_lt hA hB (i := j) (by omega)
        by_cases e : j = i
        · rw [e, upd_at]
        · rw [upd_ne (fun q => e (by
            have hq : trF a b j = trF a b i := by omega
            have := congrArg (trF a b) hq
            rwa [trF_trF, trF_trF] at this)), upd_ne (by omega)]
          exact hi.2 j (by omega))
    exact ⟨H', f', e1, (Fr.set H p _ (by simp)).tr fr, e2, e3, e4⟩

theorem fr_app {ks1 ks2 : List Nat} {A B C : Hp} (h1 : Fr ks1 A B) (h2 : Fr ks2 B C) {ks : List Nat} (g1 : ∀ k ∈ ks1, k ∈ ks) (g2 : ∀ k ∈ ks2, k ∈ ks) : Fr ks A C := (h1.mono g1).tr (h2.mono g2)
/-- a shear of the reference's -/
theorem mShear (hr : r ∈ P n) (hu : u ∈ P n) (hp : p ≠ 27) (hp2 : p ≠ 22) {H : Hp} {hw : Nat} (hh : hw < 3) (ho : MO H) (h : ml H p n r u) (h27 : ∃ g, H[27]? = some (.inl (0, 10, .inl g))) : ∃ H', FX10_shearOn 22 p (nI hw) H = some ((), H') ∧ Fr [p, 27] H H' ∧ (∃ g, H'[27]? = some (.inl (0, 10, .inl g))) ∧ ml H' p n (shR n r u hw) (shU n r u hw) := by
  have hn := P_n hr
  obtain ⟨f, h1, h2⟩ := h
  obtain ⟨g, h3⟩ := h27
  obtain ⟨H1, g1, e1, fr1, a1, a2⟩ := mLayAside hp ho h1 h3
  have hA : Asd n r u g1 := asd_of (H := H) (H' := H1) hn.2 h2 a2
  have ho1 := ho.fr fr1 (by decide)
  have hp27 : p ∉ [27] := by simpa using hp
  have h1' : H1[p]? = some (.inl (0, 11, .inl f)) := by rw [fr1.2 p hp27]; exact h1
  have h27p : ∀ {A B : Hp}, Fr [p] A B → B[27]? = A[27]? := fun fr => fr.2 27 (by simpa using fun q : 27 = p => hp q.symm)
  unfold FX10_shearOn
  by_cases e0 : hw = 0
  · subst e0
    obtain ⟨H2, f2, q1, fr2, q2, q3, q4⟩ := mSideL hr hu hp hp2 n 0 4096 H1 f g1 (by omega) (by omega) ho1 h1' a1 hA h2.1 ⟨h2.2.1, fun j hj => by omega⟩
    rw [if_pos (show nI 0 = 0 from rfl), gp_pos ho.o]
    unfold FX10_side
    rw [gp_pos ho.o, e1, bd2_some, show (0 : Int32) = nI 0 from rfl, q1, bd2_some]
    refine ⟨H2, rfl, fr_app fr1 fr2 (by simp) (by simp), ⟨g1, by rw [h27p fr2]; exact a1⟩, f2, q2, q3, q4.1, fun i hi => ?_⟩
    have hb := P_dg (P_back hr) hi
    have := q4.2 _ hb
    rw [(dg_back hr hi).2] at this
    rw [this, show shU n r u 0 = thenN (backN r n) u n from rfl, dg_thenN (by omega) hi]
  · rw [if_neg (show ¬ nI hw = 0 from fun q => e0 ((nI_eq (b := 0) (by omega) (by omega)).mp q))]
    by_cases e2 : hw = 1
    · subst e2
      obtain ⟨H2, f2, q1, fr2, q2, q3, q4⟩ := mUpwL hr hu hp hp2 n 0 4096 H1 f g1 (by omega) (by omega) ho1 h1' a1 hA h2.1 ⟨h2.2.2, fun j hj => by omega⟩
      rw [if_pos (show nI 1 = 1 from rfl), gp_pos ho.o]
      unfold FX10_upward
      rw [gp_pos ho.o, e1, bd2_some, show (0 : Int32) = nI 0 from rfl, q1, bd2_some]
      refine ⟨H2, rfl, fr_app fr1 fr2 (by simp) (by simp), ⟨g1, by rw [h27p fr2]; exact a1⟩, f2, q2, q3, fun i hi => ?_, q4.1⟩
      have hb := P_dg (P_back hu) hi
      have := q4.2 _ hb
      rw [(dg_back hu hi).2] at this
      rw [this, show shR n r u 1 = thenN (backN u n) r n from rfl, dg_thenN (by omega) hi]
    · obtain ⟨H2, f2, q1, fr2, q2, q3, q4⟩ := mQuaL hr hu hp hp2 n 0 4096 H1 f g1 (by omega) (by omega) ho1 h1' a1 hA h2.1 ⟨fun j hj => by omega, fun j hj => by omega⟩
      have e3 : hw = 2 := by omega
      subst e3
      rw [if_neg (by decide), gp_pos ho.o]
      unfold FX10_quarter
      rw [gp_pos ho.o, e1, bd2_some, show (0 : Int32) = nI 0 from rfl, q1, bd2_some]
      refine ⟨H2, rfl, fr_app fr1 fr2 (by simp) (by simp), ⟨g1, by rw [h27p fr2]; exact a1⟩, f2, q2, q3, fun i hi => ?_, q4.2⟩
      have hb := P_dg (P_back hu) hi
      have := q4.1 _ hb
      rw [(dg_back hu hi).2] at this
      rw [this]
      rfl
theorem mChange (hr : r ∈ P n) (hu : u ∈ P n) (hp : p ≠ 27) (hp2 : p ≠ 22) {H : Hp} {a b : Nat} (hA : a < n) (hB : b < n) (ho : MO H) (h : ml H p n r u) (h27 : ∃ g, H[27]? = some (.inl (0, 10, .inl g))) : ∃ H', FX10_change 22 p (nI a) (nI b) H = some ((), H') ∧ Fr [p, 27] H H' ∧ (∃ g, H'[27]? = some (.inl (0, 10, .inl g))) ∧ ml H' p n (tdN n r a b) (tdN n u a b) := by
  have hn := P_n hr
  obtain ⟨f, h1, h2⟩ := h
  obtain ⟨g, h3⟩ := h27
  obtain ⟨H1, g1, e1, fr1, a1, a2⟩ := mLayAside hp ho h1 h3
  have hAs : Asd n r u g1 := asd_of (H := H) (H' := H1) hn.2 h2 a2
  have ho1 := ho.fr fr1 (by decide)
  have hp27 : p ∉ [27] := by simpa using hp
  have h1' : H1[p]? = some (.inl (0, 11, .inl f)) := by rw [fr1.2 p hp27]; exact h1
  obtain ⟨H2, f2, q1, fr2, q2, q3, q4⟩ := mChaL hr hu hp hp2 hA hB n 0 4096 H1 f g1 (by omega) (by omega) ho1 h1' a1 hAs h2.1 ⟨fun j hj => by omega, fun j hj => by omega⟩
  unfold FX10_change
  rw [gp_pos ho.o, e1, bd2_some, show (0 : Int32) = nI 0 from rfl, q1]
  refine ⟨H2, rfl, fr_app fr1 fr2 (by simp) (by simp), ⟨g1, by rw [fr2.2 27 (by simpa using fun q : 27 = p => hp q.symm)]; exact a1⟩, f2, q2, q3, fun i hi => ?_, fun i hi => ?_⟩
  · have := q4.1 _ (trF_lt hA hB hi)
    rw [trF_trF] at this
    rw [this, dg_td hr hA hB hi]
  · have := q4.2 _ (trF_lt hA hB hi)
    rw [trF_trF] at this
    rw [this, dg_td hu hA hB hi]
end MSH
