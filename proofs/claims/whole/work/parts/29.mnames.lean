/-! Names by the reference: it writes its own rows. -/
def mob (ln dn nx sn : Int32) (sd : Int64) (mn sz : Int32) : va_E := .inr (9, [.ref 23, .int ln, .ref 24, .ref 25, .ref 26, .ref 27, .ref 28, .int dn, .int nx, .ref 29, .ref 30, .ref 31, .ref 32, .int sn, .long sd, .ref 33, .ref 34, .ref 35, .ref 36, .int mn, .ref 37, .ref 38, .int sz])
/-- nothing but these places has changed -/
def Fr (ks : List Nat) (H H' : Hp) : Prop := H'.length = H.length ∧ ∀ k, k ∉ ks → H'[k]? = H[k]?
theorem Fr.rf (ks : List Nat) (H : Hp) : Fr ks H H := ⟨rfl, fun _ _ => rfl⟩
theorem Fr.tr {ks : List Nat} {A B C : Hp} (h1 : Fr ks A B) (h2 : Fr ks B C) : Fr ks A C := ⟨h2.1.trans h1.1, fun k hk => (h2.2 k hk).trans (h1.2 k hk)⟩
theorem Fr.mono {ks ks' : List Nat} {A B : Hp} (h : Fr ks A B) (hs : ∀ k ∈ ks, k ∈ ks') : Fr ks' A B := ⟨h.1, fun k hk => h.2 k (fun q => hk (hs k q))⟩
theorem Fr.set {ks : List Nat} (H : Hp) (k : Nat) (e : va_E) (hk : k ∈ ks) : Fr ks H (H.set k e) := ⟨List.length_set, fun j hj => List.getElem?_set_ne (fun q : k = j => hj (by rw [← q]; exact hk))⟩
theorem set_at {H : Hp} {k : Nat} {e e0 : va_E} (h : H[k]? = some e0) : (H.set k e)[k]? = some e := List.getElem?_set_self (List.getElem?_eq_some_iff.mp h).1
theorem set_ne {H : Hp} {k j : Nat} {e : va_E} (h : k ≠ j) : (H.set k e)[j]? = H[j]? := List.getElem?_set_ne h
theorem ml_fr {ks : List Nat} {H H' : Hp} {p n r u : Nat} (h : ml H p n r u) (hf : Fr ks H H') (hp : p ∉ ks) : ml H' p n r u := by
  obtain ⟨f, h1, h2⟩ := h
  exact ⟨f, by rw [hf.2 p hp]; exact h1, h2⟩
theorem nI_ne9 {a : Nat} (h : a < 2 ^ 31) : ¬ nI a = -9 := by
  intro q
  have h1 := nI_pos h
  rw [q] at h1
  exact h1 (by decide)
/-- numbers and squares met -/
def NMf (fn fm : Nat → Int32) (L : List Nat) : Prop := (∀ i, i < L.length → fm i = nI (L.getD i 0)) ∧ ∀ x, x < 5 → fn x = if x ∈ L then nI (L.idxOf x) else -9
section MNM
variable {ln dn nx sn mn : Int32} {sd : Int64} {p n r u : Nat}
theorem mMeet {H : Hp} {fn fm : Nat → Int32} {L : List Nat} {x : Nat} (ho : H[22]? = some (mob ln dn nx sn sd mn (nI L.length))) (h33 : H[33]? = some (.inl (0, 5, .inl fn))) (h34 : H[34]? = some (.inl (0, 5, .inl fm))) (hf : NMf fn fm L) (hL : Lok 5 L) (hx : x < 5) : ∃ H' fn' fm', FX10_meet 22 (nI x) H = some ((), H') ∧ Fr [22, 33, 34] H H' ∧ H'[22]? = some (mob ln dn nx sn sd mn (nI (adL L x).length)) ∧ H'[33]? = some (.inl (0, 5, .inl fn')) ∧ H'[34]? = some (.inl (0, 5, .inl fm')) ∧ NMf fn' fm' (adL L x) := by
  obtain ⟨f1, f2⟩ := hf
  have hll := nodup_le 5 L hL
  unfold FX10_meet
  rw [gA_of ho rfl, bd_some, aI_of h33 hx (by omega), bd_some, f2 x hx]
  by_cases e : x ∈ L
  · have hi := idx_lt e
    have ha : adL L x = L := by unfold adL; rw [if_pos e]
    rw [if_pos e, if_neg (nI_ne9 (by omega)), ha]
    exact ⟨H, fn, fm, rfl, Fr.rf _ H, ho, h33, h34, f1, f2⟩
  · have ha : adL L x = L ++ [x] := by unfold adL; rw [if_neg e]
    have hl2 := nodup_le 5 _ (adL_ok hL hx)
    rw [ha, List.length_append, List.length_singleton] at hl2
    have o1 : (H.set 33 (.inl (0, 5, .inl (upd fn x (nI L.length)))))[22]? = some (mob ln dn nx sn sd mn (nI L.length)) := by rw [set_ne (by decide)]; exact ho
    have a1 : (H.set 33 (.inl (0, 5, .inl (upd fn x (nI L.length)))))[34]? = some (.inl (0, 5, .inl fm)) := by rw [set_ne (by decide)]; exact h34
    have o2 : ((H.set 33 (.inl (0, 5, .inl (upd fn x (nI L.length))))).set 34 (.inl (0, 5, .inl (upd fm L.length (nI x)))))[22]? = some (mob ln dn nx sn sd mn (nI L.length)) := by rw [set_ne (by decide)]; exact o1
    rw [if_neg e, if_pos rfl, bd_some, gI_of ho rfl, bd_some, sI_of h33 hx (by omega), bd_some, gA_of o1 rfl, bd_some, gI_of o1 rfl, bd_some, sI_of a1 (by omega) (by omega), bd_some, gI_of o2 rfl, bd_some, pV_of o2 rfl, bd_some, ha, nI_1, List.length_append, List.length_singleton]
    refine ⟨_, upd fn x (nI L.length), upd fm L.length (nI x), rfl, ?_, set_at o2, ?_, ?_, ?_, ?_⟩
    · exact ((Fr.set H 33 _ (by decide)).tr (Fr.set _ 34 _ (by decide))).tr (Fr.set _ 22 _ (by decide))
    · rw [set_ne (by decide), set_ne (by decide)]
      exact set_at h33
    · rw [set_ne (by decide)]
      exact set_at a1
    · intro i hi
      rw [List.length_append, List.length_singleton] at hi
      unfold upd
      by_cases e2 : i = L.length
      · subst e2
        rw [if_pos rfl, List.getD_eq_getElem?_getD, List.getElem?_append_right (by omega), Nat.sub_self]
        rfl
      · rw [if_neg e2, f1 i (by omega), List.getD_eq_getElem?_getD, List.getD_eq_getElem?_getD, List.getElem?_append_left (by omega)]
    · intro y hy
      unfold upd
      rw [idx_app]
      by_cases e2 : y = x
      · subst e2
        rw [if_pos rfl, if_pos (List.mem_append.mpr (Or.inr (List.mem_singleton.mpr rfl))), if_neg e, if_pos rfl]
      · rw [if_neg e2, f2 y hy]
        by_cases e3 : y ∈ L
        · rw [if_pos e3, if_pos (List.mem_append.mpr (Or.inl e3)), if_pos e3]
        · rw [if_neg e3, if_neg]
          intro q
          rw [List.mem_append, List.mem_singleton] at q
          rcases q with q | q
          · exact e3 q
          · exact e2 q
theorem mFig (side : Bool) {H : Hp} {fn fm : Nat → Int32} {L : List Nat} (h : ml H p n r u) (hn : n ≤ 5) (ho : H[22]? = some (mob ln dn nx sn sd mn (nI L.length))) (h33 : H[33]? = some (.inl (0, 5, .inl fn))) (h34 : H[34]? = some (.inl (0, 5, .inl fm))) (hf : NMf fn fm L) (hL : Lok n L) (hs : Seen r u L.length L) : (∀ (m i d a : Nat), i + m = L.length → m < d → fX10_nameFrom_122 d 22 p (lN a) (nI i) H = some (lN (nmL u L m i a), H)) ∧ (∀ (m i d a : Nat), i + m = L.length → m < d → fX10_nameFrom_80 d 22 p (lN a) (nI i) H = fX10_nameFrom_122 4096 22 p (lN (nmL r L m i a)) (nI 0) H) := by
  obtain ⟨f1, f2⟩ := hf
  have hll := nodup_le n L hL
  constructor
  · intro m
    induction m with
    | zero =>
      intro i d a hk hd
      obtain ⟨d, rfl⟩ : ∃ e, d = e + 1 := ⟨d - 1, by omega⟩
      show bX10_nameFrom_122 (fX10_nameFrom_122 d) _ _ _ _ H = _
      unfold bX10_nameFrom_122
      rw [gI_of ho rfl, bd_some, if_pos (nI_le (by omega) (by omega))]
      rfl
    | succ m ih =>
      intro i d a hk hd
      obtain ⟨d, rfl⟩ : ∃ e, d = e + 1 := ⟨d - 1, by omega⟩
      show bX10_nameFrom_122 (fX10_nameFrom_122 d) _ _ _ _ H = _
      unfold bX10_nameFrom_122
      have g2 := hL.2 _ (getD_mem (L := L) (i := i) (by omega))
      have g3 := (hs i (by omega)).2
      have g4 := hL.2 _ g3
      have g5 := idx_lt g3
      rw [gI_of ho rfl, bd_some, if_neg (nI_ge (by omega) (by omega)), gA_of ho rfl, bd_some, gA_of ho rfl, bd_some, aI_of h34 (by omega) (by omega), bd_some, f1 i (by omega), mUp h hn g2, bd2_some, aI_of h33 (by omega) (by omega), bd_some, f2 _ (by omega), if_pos g3, L_10, lN_mul, nI_l (by omega), lN_add, nI_1, nmL, Nat.mul_comm a 10]
      exact ih (i + 1) d _ (by omega) (by omega)
  · intro m
    induction m with
    | zero =>
      intro i d a hk hd
      obtain ⟨d, rfl⟩ : ∃ e, d = e + 1 := ⟨d - 1, by omega⟩
      show bX10_nameFrom_80 (fX10_nameFrom_80 d) _ _ _ _ H = _
      unfold bX10_nameFrom_80
      rw [gI_of ho rfl, bd_some, if_pos (nI_le (by omega) (by omega))]
      rfl
    | succ m ih =>
      intro i d a hk hd
      obtain ⟨d, rfl⟩ : ∃ e, d = e + 1 := ⟨d - 1, by omega⟩
      show bX10_nameFrom_80 (fX10_nameFrom_80 d) _ _ _ _ H = _
      unfold bX10_nameFrom_80
      have g2 := hL.2 _ (getD_mem (L := L) (i := i) (by omega))
      have g3 := (hs i (by omega)).1
      have g4 := hL.2 _ g3
      have g5 := idx_lt g3
      rw [gI_of ho rfl, bd_some, if_neg (nI_ge (by omega) (by omega)), gA_of ho rfl, bd_some, gA_of ho rfl, bd_some, aI_of h34 (by omega) (by omega), bd_some, f1 i (by omega), mRight h hn g2, bd2_some, aI_of h33 (by omega) (by omega), bd_some, f2 _ (by omega), if_pos g3, L_10, lN_mul, nI_l (by omega), lN_add, nI_1, nmL, Nat.mul_comm a 10]
      exact ih (i + 1) d _ (by omega) (by omega)
/-- the reference's rows have their forms -/
def Shp (ln dn nx sn : Int32) (sd : Int64) (mn : Int32) (H : Hp) : Prop := ∃ fn fm sz, H[22]? = some (mob ln dn nx sn sd mn sz) ∧ H[33]? = some (.inl (0, 5, .inl fn)) ∧ H[34]? = some (.inl (0, 5, .inl fm))
theorem mNameL (hr : r ∈ P n) (hu : u ∈ P n) (hp : p ∉ [22, 33, 34]) : ∀ (m i d : Nat) (L : List Nat) (H : Hp) (fn fm : Nat → Int32), n + 1 ≤ i + m → m < d → i ≤ L.length → ml H p n r u → H[22]? = some (mob ln dn nx sn sd mn (nI L.length)) → H[33]? = some (.inl (0, 5, .inl fn)) → H[34]? = some (.inl (0, 5, .inl fm)) → NMf fn fm L → Lok n L → Seen r u i L → ∃ H', fX10_nameFrom_33 d 22 p (nI i) H = some (lN (nmL u (bfs r u m i L) (bfs r u m i L).length 0 (nmL r (bfs r u m i L) (bfs r u m i L).length 0 0)), H') ∧ Fr [22, 33, 34] H H' ∧ Shp ln dn nx sn sd mn H' := by
  have hn := P_n hr
  intro m
  induction m with
  | zero =>
    intro i d L H fn fm h1 h2 h3 h ho h33 h34 hf hL hs
    have := nodup_le n L hL
    omega
  | succ m ih =>
    intro i d L H fn fm h1 h2 h3 h ho h33 h34 hf hL hs
    have hll := nodup_le n L hL
    obtain ⟨d, rfl⟩ : ∃ e, d = e + 1 := ⟨d - 1, by omega⟩
    show ∃ H', bX10_nameFrom_33 (fX10_nameFrom_33 d) _ _ _ H = _ ∧ _
    unfold bX10_nameFrom_33
    by_cases e : L.length ≤ i
    · have e2 : i = L.length := by omega
      subst e2
      obtain ⟨g1, g2⟩ := mFig true h hn.2 ho h33 h34 hf hL hs
      rw [gI_of ho rfl, bd_some, if_pos (nI_le (by omega) (by omega)), bfs_end r u (m + 1) _ (Nat.le_refl _), show (0 : Int64) = lN 0 from rfl, show (0 : Int32) = nI 0 from rfl, g2 L.length 0 4096 0 (by omega) (by omega), g1 L.length 0 4096 _ (by omega) (by omega)]
      exact ⟨H, rfl, Fr.rf _ H, fn, fm, _, ho, h33, h34⟩
    · have hi : i < L.length := by omega
      have hsq := hL.2 _ (getD_mem hi)
      have hf' := hf
      obtain ⟨f1, f2⟩ := hf'
      have hL5 : Lok 5 L := ⟨hL.1, fun x hx => by have := hL.2 x hx; omega⟩
      have q1 := P_dg hr hsq
      have q2 := P_dg hu hsq
      obtain ⟨H1, fn1, fm1, m1, fr1, o1, n1, t1, w1⟩ := mMeet ho h33 h34 hf hL5 (x := dg r (L.getD i 0)) (by omega)
      have hL1 := adL_ok hL q1
      have hL15 : Lok 5 (adL L (dg r (L.getD i 0))) := ⟨hL1.1, fun x hx => by have := hL1.2 x hx; omega⟩
      have hml1 := ml_fr h fr1 hp
      have l1 := adL_len L (dg r (L.getD i 0))
      have hl1 := nodup_le n _ hL1
      have w1' := w1
      obtain ⟨f11, f12⟩ := w1'
      obtain ⟨H2, fn2, fm2, m2, fr2, o2, n2, t2, w2⟩ := mMeet o1 n1 t1 w1 hL15 (x := dg u (L.getD i 0)) (by omega)
      have hL2 := adL_ok hL1 q2
      have l2 := adL_len (adL L (dg r (L.getD i 0))) (dg u (L.getD i 0))
      have hml2 := ml_fr hml1 fr2 hp
      rw [gI_of ho rfl, bd_some, if_neg (nI_ge (by omega) (by omega)), gA_of ho rfl, bd_some, aI_of h34 (by omega) (by omega), bd_some, f1 i hi, mRight h hn.2 hsq, bd2_some, gp_pos (isO_of ho), m1, bd2_some, gA_of o1 rfl, bd_some, aI_of t1 (by omega) (by omega), bd_some, f11 i (by omega), adL_get hi, mUp hml1 hn.2 hsq, bd2_some, gp_pos (isO_of o1), m2, bd2_some, nI_1, bfs_step r u m i hi]
      obtain ⟨H3, e3, fr3, sh3⟩ := ih (i + 1) d _ H2 fn2 fm2 (by omega) (by omega) (by omega) hml2 o2 n2 t2 w2 hL2 (seen_step hi hs)
      exact ⟨H3, e3, (fr1.tr fr2).tr fr3, sh3⟩
theorem mClearL {s : Nat} : ∀ (m i d : Nat) (H : Hp) (fn : Nat → Int32) (sz : Int32), i + m = 5 → m < d → H[22]? = some (mob ln dn nx sn sd mn sz) → H[33]? = some (.inl (0, 5, .inl fn)) → (∀ x, x < i → fn x = -9) → ∃ (H' : Hp) (fn' : Nat → Int32), fX10_nameFrom_2 d 22 p (nI s) (nI i) H = (bd (pV H' 22 9 22 (.int 0)) fun H1 => gp (isO H1 22 9 = true) (bd2 (FX10_meet 22 (nI s) H1) fun _ H3 => fX10_nameFrom_33 4096 22 p 0 H3)) ∧ Fr [22, 33, 34] H H' ∧ H'[22]? = some (mob ln dn nx sn sd mn sz) ∧ H'[33]? = some (.inl (0, 5, .inl fn')) ∧ H'[34]? = H[34]? ∧ ∀ x, x < 5 → fn' x = -9 := by
  intro m
  induction m with
  | zero =>
    intro i d H fn sz hk hd ho h33 hx
    obtain ⟨d, rfl⟩ : ∃ e, d = e + 1 := ⟨d - 1, by omega⟩
    show ∃ (H' : Hp) (fn' : Nat → Int32), bX10_nameFrom_2 (fX10_nameFrom_2 d) 22 p (nI s) (nI i) H = _ ∧ _
    unfold bX10_nameFrom_2
    rw [l_5, if_pos (nI_le (by omega) (by omega))]
    exact ⟨H, fn, rfl, Fr.rf _ H, ho, h33, rfl, fun x h => hx x (by omega)⟩
  | succ m ih =>
    intro i d H fn sz hk hd ho h33 hx
    obtain ⟨d, rfl⟩ : ∃ e, d = e + 1 := ⟨d - 1, by omega⟩
    show ∃ (H' : Hp) (fn' : Nat → Int32), bX10_nameFrom_2 (fX10_nameFrom_2 d) 22 p (nI s) (nI i) H = _ ∧ _
    unfold bX10_nameFrom_2
    rw [l_5, if_neg (nI_ge (by omega) (by omega)), gA_of ho rfl, bd_some, sI_of h33 (by omega) (by omega), bd_some, nI_1]
    obtain ⟨H', fn', e1, fr, e2, e3, e4, e5⟩ := ih (i + 1) d (H.set 33 (.inl (0, 5, .inl (upd fn i (-9))))) (upd fn i (-9)) sz (by omega) (by omega) (by rw [set_ne (by decide)]; exact ho) (set_at h33) (fun x h => by
      unfold upd
      by_cases e : x = i
      · rw [if_pos e]
      · rw [if_neg e]; exact hx x (by omega))
    exact ⟨H', fn', e1, (Fr.set H 33 _ (by decide)).tr fr, e2, e3, by rw [e4, set_ne (by decide)], e5⟩
theorem mNameFrom (hr : r ∈ P n) (hu : u ∈ P n) (hp : p ∉ [22, 33, 34]) {H : Hp} (h : ml H p n r u) (hs : Shp ln dn nx sn sd mn H) {s : Nat} (hsn : s < n) : ∃ H', FX10_nameFrom 22 p (nI s) H = some (lN (nameN n r u s), H') ∧ Fr [22, 33, 34] H H' ∧ Shp ln dn nx sn sd mn H' := by
  have hn := P_n hr
  obtain ⟨fn, fm, sz, ho, h33, h34⟩ := hs
  obtain ⟨H1, fn1, e1, fr1, o1, n1, t1, x1⟩ := mClearL (p := p) (s := s) 5 0 4096 H fn sz (by omega) (by omega) ho h33 (fun x h => by omega)
  rw [h34] at t1
  have o2 : (H1.set 22 (mob ln dn nx sn sd mn 0))[22]? = some (mob ln dn nx sn sd mn (nI ([] : List Nat).length)) := set_at o1
  obtain ⟨H2, fn2, fm2, m2, fr2, o3, n3, t3, w3⟩ := mMeet (L := []) (x := s) o2 (by rw [set_ne (by decide)]; exact n1) (by rw [set_ne (by decide)]; exact t1) (show NMf fn1 fm [] from ⟨(fun i hi => absurd hi (Nat.not_lt_zero i)), (fun x hx => by rw [if_neg (List.not_mem_nil)]; exact x1 x hx)⟩) ⟨List.nodup_nil, (fun x hx => absurd hx List.not_mem_nil)⟩ (by omega)
  have ha : adL [] s = [s] := by unfold adL; rw [if_neg (List.not_mem_nil)]; rfl
  rw [ha] at o3 w3
  have fr3 : Fr [22, 33, 34] H H2 := (fr1.tr (Fr.set H1 22 _ (by decide))).tr fr2
  obtain ⟨H3, e3, fr4, sh⟩ := mNameL hr hu hp (n + 1) 0 4096 [s] H2 fn2 fm2 (by omega) (by omega) (by omega) (ml_fr h fr3 hp) o3 n3 t3 w3 (lok_one hsn) (fun i hi => by omega)
  refine ⟨H3, ?_, fr3.tr fr4, sh⟩
  unfold FX10_nameFrom nameN
  rw [show (0 : Int32) = nI 0 from rfl, e1, pV_of o1 rfl, bd_some]
  have hsetm : (H1.set 22 (.inr (9, [Value.ref 23, .int ln, .ref 24, .ref 25, .ref 26, .ref 27, .ref 28, .int dn, .int nx, .ref 29, .ref 30, .ref 31, .ref 32, .int sn, .long sd, .ref 33, .ref 34, .ref 35, .ref 36, .int mn, .ref 37, .ref 38, .int sz].set 22 (.int 0)))) = H1.set 22 (mob ln dn nx sn sd mn 0) := rfl
  rw [hsetm, gp_pos (isO_of o2), m2, bd2_some]
  exact e3
theorem mLeastL (hr : r ∈ P n) (hu : u ∈ P n) (hp : p ∉ [22, 33, 34]) {S : Nat} (hS : S < 65536) : ∀ (m i d a : Nat) (H : Hp), i + m = n → m < d → a < 2 ^ 62 → ml H p n r u → Shp ln dn nx sn sd mn H → ∃ H', fX10_leastName_17 d 22 p (nI S) (lN a) (nI i) H = some (lN (leastNL n r u S m i a), H') ∧ Fr [22, 33, 34] H H' ∧ Shp ln dn nx sn sd mn H' := by
  have hn := P_n hr
  intro m
  induction m with
  | zero =>
    intro i d a H hk hd ha h hs
    obtain ⟨d, rfl⟩ : ∃ e, d = e + 1 := ⟨d - 1, by omega⟩
    show ∃ H', bX10_leastName_17 (fX10_leastName_17 d) _ _ _ _ _ H = _ ∧ _
    unfold bX10_leastName_17
    rw [ml0 h, bd_some, if_pos (nI_le (by omega) (by omega))]
    exact ⟨H, rfl, Fr.rf _ H, hs⟩
  | succ m ih =>
    intro i d a H hk hd ha h hs
    obtain ⟨d, rfl⟩ : ∃ e, d = e + 1 := ⟨d - 1, by omega⟩
    show ∃ H', bX10_leastName_17 (fX10_leastName_17 d) _ _ _ _ _ H = _ ∧ _
    unfold bX10_leastName_17
    rw [ml0 h, bd_some, if_neg (nI_ge (by omega) (by omega)), mHas hS (by omega), bd2_some, leastNL]
    by_cases e : S.testBit i = true
    · have hnl := name_lt hr hu (s := i) (by omega)
      obtain ⟨fn, fm, sz, ho, h33, h34⟩ := id hs
      obtain ⟨H1, e1, fr1, sh1⟩ := mNameFrom hr hu hp h hs (s := i) (by omega)
      rw [bit01_t e, if_neg (by decide), gp_pos (isO_of ho), e1, bd2_some, nI_1, e, Bool.true_and]
      by_cases e2 : nameN n r u i < a
      · rw [if_neg (fun q => by
          have h1 := (lg_cmp_ge _ _).mp q
          exact lg_lt_not_le ((lN_ltI hnl ha).mpr e2) h1), decide_eq_true e2, if_pos rfl]
        obtain ⟨H2, e3, fr2, sh2⟩ := ih (i + 1) d _ H1 (by omega) (by omega) hnl (ml_fr h fr1 hp) sh1
        exact ⟨H2, e3, fr1.tr fr2, sh2⟩
      · rw [if_pos ((lg_cmp_ge _ _).mpr (by
          rcases lg_tri (lN (nameN n r u i)) (lN a) with g | g | g
          · exact absurd ((lN_ltI hnl ha).mp g) e2
          · rw [g, fa_le64]; omega
          · rw [fa_le64]; rw [fa_lt64] at g; omega)), decide_eq_false e2, if_neg (by decide)]
        obtain ⟨H2, e3, fr2, sh2⟩ := ih (i + 1) d _ H1 (by omega) (by omega) ha (ml_fr h fr1 hp) sh1
        exact ⟨H2, e3, fr1.tr fr2, sh2⟩
    · have e2 : S.testBit i = false := by simpa using e
      rw [bit01_f e, if_pos rfl, nI_1, e2, Bool.false_and, if_neg (by decide)]
      exact ih (i + 1) d _ H (by omega) (by omega) ha h hs
theorem mLeast' (hr : r ∈ P n) (hu : u ∈ P n) (hp : p ∉ [22, 33, 34]) {H : Hp} (h : ml H p n r u) (hs : Shp ln dn nx sn sd mn H) {s : Nat} (hsn : s < n) : ∃ H', FX10_leastName 22 p (nI s) H = some (lN (leastN n r u s), H') ∧ Fr [22, 33, 34] H H' ∧ Shp ln dn nx sn sd mn H' := by
  have hn := P_n hr
  have hl := lt32 hn.2 (pieceN_lt hr hu hsn)
  obtain ⟨fn, fm, sz, ho, h33, h34⟩ := id hs
  obtain ⟨H1, e1, fr1, sh1⟩ := mNameFrom hr hu hp h hs hsn
  obtain ⟨H2, e2, fr2, sh2⟩ := mLeastL hr hu hp (S := pieceN n r u s) (by omega) n 0 4096 _ H1 (by omega) (by omega) (name_lt hr hu hsn) (ml_fr h fr1 hp) sh1
  refine ⟨H2, ?_, fr1.tr fr2, sh2⟩
  unfold FX10_leastName leastN
  rw [mPieceOf h hr hu hsn, bd2_some, gp_pos (isO_of ho), e1, bd2_some]
  exact e2
end MNM
