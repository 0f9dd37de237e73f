/-! Unlike numbers in the order in which they are met. -/
theorem nodup_sub : ∀ (L M : List Nat), L.Nodup → (∀ x ∈ L, x ∈ M) → L.length ≤ M.length
  | [], M, _, _ => Nat.zero_le _
  | x :: L, M, hd, hs => by
    have hx := hs x List.mem_cons_self
    rw [List.nodup_cons] at hd
    have h := nodup_sub L (M.erase x) hd.2 (fun y hy => (List.mem_erase_of_ne (a := y) (b := x) (fun q : y = x => hd.1 (q ▸ hy))).mpr (hs y (List.mem_cons_of_mem x hy)))
    rw [List.length_erase_of_mem hx] at h
    have : 0 < M.length := List.length_pos_of_mem hx
    show L.length + 1 ≤ M.length
    omega
theorem adL_nd {L : List Nat} {x : Nat} (h : L.Nodup) : (adL L x).Nodup := by
  unfold adL
  split
  · exact h
  · rename_i hm
    rw [List.nodup_append]
    refine ⟨h, by simp, fun a ha b hb => ?_⟩
    rw [List.mem_singleton] at hb
    subst hb
    exact fun e => hm (e ▸ ha)
/-- unlike numbers, all in M -/
def LM (M L : List Nat) : Prop := L.Nodup ∧ ∀ x ∈ L, x ∈ M
theorem adL_LM {M L : List Nat} {x : Nat} (h : LM M L) (hx : x ∈ M) : LM M (adL L x) := ⟨adL_nd h.1, fun y hy => by
  rcases adL_mem.mp hy with h1 | h1
  · exact h.2 y h1
  · rw [h1]; exact hx⟩
theorem LM_len {M L : List Nat} (h : LM M L) : L.length ≤ M.length := nodup_sub L M h.1 h.2
def DL (f : Nat → Int64) (L : List Nat) : Prop := ∀ i, i < L.length → f i = lN (L.getD i 0)
theorem updL_at (f : Nat → Int64) (i : Nat) (x : Int64) : vp_updL f i x i = x := by unfold vp_updL; rw [if_pos rfl]
theorem updL_ne {f : Nat → Int64} {i j : Nat} {x : Int64} (h : j ≠ i) : vp_updL f i x j = f j := by unfold vp_updL; rw [if_neg h]
theorem getD_app {L : List Nat} {x : Nat} : (L ++ [x]).getD L.length 0 = x := by
  rw [List.getD_eq_getElem?_getD, List.getElem?_append_right (Nat.le_refl _), Nat.sub_self]
  rfl
theorem DL_app {f : Nat → Int64} {L : List Nat} {x : Nat} (h : DL f L) : DL (vp_updL f L.length (lN x)) (L ++ [x]) := by
  intro i hi
  rw [List.length_append, List.length_singleton] at hi
  by_cases e : i = L.length
  · rw [e, updL_at, getD_app]
  · rw [updL_ne e, h i (by omega), List.getD_eq_getElem?_getD, List.getD_eq_getElem?_getD, List.getElem?_append_left (by omega)]
theorem idx_of_get {L : List Nat} (hL : L.Nodup) {x k : Nat} (hk : k < L.length) (h : L.getD k 0 = x) : x ∈ L ∧ L.idxOf x = k := by
  subst h
  exact ⟨getD_mem hk, idx_get hL hk⟩
theorem mem_get {L : List Nat} {x : Nat} (h : x ∈ L) : L.idxOf x < L.length ∧ L.getD (L.idxOf x) 0 = x := by
  refine ⟨idx_lt h, ?_⟩
  rw [List.getD_eq_getElem?_getD, List.getElem?_eq_getElem (idx_lt h)]
  exact List.getElem_idxOf (idx_lt h)
theorem adL_idx {L : List Nat} {x : Nat} : (adL L x).idxOf x = if x ∈ L then L.idxOf x else L.length := by
  unfold adL
  by_cases h : x ∈ L
  · rw [if_pos h, if_pos h]
  · rw [if_neg h, if_neg h, idx_app, if_neg h, if_pos rfl]
section D19
variable {c : CS} {m : MS} {L : List Nat} {x : Nat}
theorem eFind19L (hd : L.Nodup) (hl : L.length ≤ 128) (hb : ∀ y ∈ L, y < 2 ^ 62) (hx : x < 2 ^ 62) (hf : DL c.f20 L) (hc : c.tc = L.length) : ∀ (q i d : Nat), i + q = L.length → q < d → (∀ j, j < i → L.getD j 0 ≠ x) → fX0_find_2 d 19 (lN x) (nI i) (hp c m) = some (if x ∈ L then nI (L.idxOf x) else -1, hp c m) := by
  intro q
  induction q with
  | zero =>
    intro i d hk hd2 hn
    obtain ⟨d, rfl⟩ : ∃ e, d = e + 1 := ⟨d - 1, by omega⟩
    show bX0_find_2 (fX0_find_2 d) _ _ _ _ = _
    unfold bX0_find_2
    have hxl : ¬ x ∈ L := fun h => hn _ (by have := (mem_get h).1; omega) (mem_get h).2
    rw [hI19_1, bd_some, hc, if_pos (nI_le (by omega) (by omega)), if_neg hxl]
  | succ q ih =>
    intro i d hk hd2 hn
    obtain ⟨d, rfl⟩ : ∃ e, d = e + 1 := ⟨d - 1, by omega⟩
    show bX0_find_2 (fX0_find_2 d) _ _ _ _ = _
    unfold bX0_find_2
    have hil : i < L.length := by omega
    have hy := hb _ (getD_mem hil)
    rw [hI19_1, bd_some, hc, if_neg (nI_ge hil (by omega)), if_neg (show ¬ (128 : Int32) ≤ nI i from nI_ge (b := 128) (by omega) (by decide)), hA19_0, bd_some, hr20 (by omega), bd_some, hf i hil]
    by_cases e : L.getD i 0 = x
    · rw [if_pos ((lg_cmp_eq _ _).mpr (by rw [e])), if_pos (idx_of_get hd hil e).1, (idx_of_get hd hil e).2]
    · rw [if_neg (fun q => e ((pk_lEQ (by omega) (by omega)).mp ((lg_cmp_eq _ _).mp q))), nI_1]
      exact ih (i + 1) d (by omega) (by omega) (fun j hj => by
        by_cases ej : j = i
        · rw [ej]; exact e
        · exact hn j (by omega))
theorem eFind19 (hd : L.Nodup) (hl : L.length ≤ 128) (hb : ∀ y ∈ L, y < 2 ^ 62) (hx : x < 2 ^ 62) (hf : DL c.f20 L) (hc : c.tc = L.length) : FX0_find 19 (lN x) (hp c m) = some (if x ∈ L then nI (L.idxOf x) else -1, hp c m) := by
  unfold FX0_find
  exact eFind19L hd hl hb hx hf hc L.length 0 4096 (by omega) (by omega) (fun j hj => by omega)
theorem ePlace19 (hd : L.Nodup) (hl : L.length < 128) (hb : ∀ y ∈ L, y < 2 ^ 62) (hx : x < 2 ^ 62) (hf : DL c.f20 L) (hc : c.tc = L.length) : ∃ f', FX0_placeOf 19 (lN x) (hp c m) = some (nI ((adL L x).idxOf x), hp ((c.zf20 f').ztc (adL L x).length) m) ∧ DL f' (adL L x) := by
  unfold FX0_placeOf
  rw [gp_pos hO19, eFind19 hd (by omega) hb hx hf hc, bd2_some, adL_idx]
  unfold adL
  by_cases h : x ∈ L
  · refine ⟨c.f20, ?_, ?_⟩
    · have h1 := idx_lt h
      rw [if_pos h, if_pos (nI_pos' (by omega)), if_pos h, if_pos h, ← hc]
    · rw [if_pos h]; exact hf
  · refine ⟨vp_updL c.f20 L.length (lN x), ?_, ?_⟩
    · rw [if_neg h, if_neg (by decide), hI19_1, bd_some, hc, if_neg (nI_pos (by omega)), bd_some, if_pos (show nI L.length < 128 from nI_lt (b := 128) hl (by decide)), hA19_0, bd_some, bd_some, hw20 hl, bd_some, hI19_1, bd_some, hp19_1 (L.length + 1) (by rw [show (c.zf20 (vp_updL c.f20 L.length (lN x))).tc = L.length from hc]; exact nI_1 _), bd_some, hI19_1, bd_some, if_neg h, if_neg h, List.length_append, List.length_singleton]
      show some (nI (L.length + 1) - 1, _) = _
      rw [nI_pred]
    · rw [if_neg h]
      exact DL_app hf
end D19
section D15
variable {c : CS} {m : MS} {L : List Nat} {x : Nat}
theorem eFind15L (hd : L.Nodup) (hl : L.length ≤ 128) (hb : ∀ y ∈ L, y < 2 ^ 62) (hx : x < 2 ^ 62) (hf : DL c.f16 L) (hc : c.oc = L.length) : ∀ (q i d : Nat), i + q = L.length → q < d → (∀ j, j < i → L.getD j 0 ≠ x) → fX0_find_2 d 15 (lN x) (nI i) (hp c m) = some (if x ∈ L then nI (L.idxOf x) else -1, hp c m) := by
  intro q
  induction q with
  | zero =>
    intro i d hk hd2 hn
    obtain ⟨d, rfl⟩ : ∃ e, d = e + 1 := ⟨d - 1, by omega⟩
    show bX0_find_2 (fX0_find_2 d) _ _ _ _ = _
    unfold bX0_find_2
    have hxl : ¬ x ∈ L := fun h => hn _ (by have := (mem_get h).1; omega) (mem_get h).2
    rw [hI15_1, bd_some, hc, if_pos (nI_le (by omega) (by omega)), if_neg hxl]
  | succ q ih =>
    intro i d hk hd2 hn
    obtain ⟨d, rfl⟩ : ∃ e, d = e + 1 := ⟨d - 1, by omega⟩
    show bX0_find_2 (fX0_find_2 d) _ _ _ _ = _
    unfold bX0_find_2
    have hil : i < L.length := by omega
    have hy := hb _ (getD_mem hil)
    rw [hI15_1, bd_some, hc, if_neg (nI_ge hil (by omega)), if_neg (show ¬ (128 : Int32) ≤ nI i from nI_ge (b := 128) (by omega) (by decide)), hA15_0, bd_some, hr16 (by omega), bd_some, hf i hil]
    by_cases e : L.getD i 0 = x
    · rw [if_pos ((lg_cmp_eq _ _).mpr (by rw [e])), if_pos (idx_of_get hd hil e).1, (idx_of_get hd hil e).2]
    · rw [if_neg (fun q => e ((pk_lEQ (by omega) (by omega)).mp ((lg_cmp_eq _ _).mp q))), nI_1]
      exact ih (i + 1) d (by omega) (by omega) (fun j hj => by
        by_cases ej : j = i
        · rw [ej]; exact e
        · exact hn j (by omega))
theorem eFind15 (hd : L.Nodup) (hl : L.length ≤ 128) (hb : ∀ y ∈ L, y < 2 ^ 62) (hx : x < 2 ^ 62) (hf : DL c.f16 L) (hc : c.oc = L.length) : FX0_find 15 (lN x) (hp c m) = some (if x ∈ L then nI (L.idxOf x) else -1, hp c m) := by
  unfold FX0_find
  exact eFind15L hd hl hb hx hf hc L.length 0 4096 (by omega) (by omega) (fun j hj => by omega)
theorem ePlace15 (hd : L.Nodup) (hl : L.length < 128) (hb : ∀ y ∈ L, y < 2 ^ 62) (hx : x < 2 ^ 62) (hf : DL c.f16 L) (hc : c.oc = L.length) : ∃ f', FX0_placeOf 15 (lN x) (hp c m) = some (nI ((adL L x).idxOf x), hp ((c.zf16 f').zoc (adL L x).length) m) ∧ DL f' (adL L x) := by
  unfold FX0_placeOf
  rw [gp_pos hO15, eFind15 hd (by omega) hb hx hf hc, bd2_some, adL_idx]
  unfold adL
  by_cases h : x ∈ L
  · refine ⟨c.f16, ?_, ?_⟩
    · have h1 := idx_lt h
      rw [if_pos h, if_pos (nI_pos' (by omega)), if_pos h, if_pos h, ← hc]
    · rw [if_pos h]; exact hf
  · refine ⟨vp_updL c.f16 L.length (lN x), ?_, ?_⟩
    · rw [if_neg h, if_neg (by decide), hI15_1, bd_some, hc, if_neg (nI_pos (by omega)), bd_some, if_pos (show nI L.length < 128 from nI_lt (b := 128) hl (by decide)), hA15_0, bd_some, bd_some, hw16 hl, bd_some, hI15_1, bd_some, hp15_1 (L.length + 1) (by rw [show (c.zf16 (vp_updL c.f16 L.length (lN x))).oc = L.length from hc]; exact nI_1 _), bd_some, hI15_1, bd_some, if_neg h, if_neg h, List.length_append, List.length_singleton]
      show some (nI (L.length + 1) - 1, _) = _
      rw [nI_pred]
    · rw [if_neg h]
      exact DL_app hf
end D15
/-- met one after another: within M, closed -/
def Sn2 (f g : Nat → Nat) (k : Nat) (L : List Nat) : Prop := ∀ i, i < k → f (L.getD i 0) ∈ L ∧ g (L.getD i 0) ∈ L
theorem orbB_step (f g : Nat → Nat) (d : Nat) {k : Nat} {L : List Nat} (h : k < L.length) : orbB f g (d + 1) k L = orbB f g d (k + 1) (adL (adL L (f (L.getD k 0))) (g (L.getD k 0))) := by
  show (if k < L.length then _ else _) = _
  rw [if_pos h]
theorem orbB_end (f g : Nat → Nat) {k : Nat} {L : List Nat} : ∀ (d : Nat), L.length ≤ k → orbB f g d k L = L
  | 0, _ => rfl
  | d + 1, h => by
    show (if k < L.length then _ else _) = _
    rw [if_neg (by omega)]
def idN (n : Nat) : Nat := rowOf (fun i => i) n
theorem id_P0 : ∀ n, n < 6 → 1 ≤ n → idN n ∈ P n := by decide +kernel
theorem P_len : ∀ n, n < 6 → (P n).length ≤ 120 := by decide +kernel
theorem eStay {n : Nat} (hn : n ≤ 5) (H : Hp) : FX6_staying (nI n) H = some (nI (idN n), H) := by
  unfold FX6_staying
  have hL : ∀ (q i d w : Nat), i + q = n → q < d → fX6_staying_4 d (nI n) (nI w) (nI i) H = some (nI (up (fun i w => putN w i i) i q w), H) := by
    intro q
    induction q with
    | zero =>
      intro i d w hk hd
      obtain ⟨d, rfl⟩ : ∃ e, d = e + 1 := ⟨d - 1, by omega⟩
      show bX6_staying_4 (fX6_staying_4 d) _ _ _ H = _
      unfold bX6_staying_4
      rw [if_pos (nI_le (by omega) (by omega))]
      rfl
    | succ q ih =>
      intro i d w hk hd
      obtain ⟨d, rfl⟩ : ∃ e, d = e + 1 := ⟨d - 1, by omega⟩
      show bX6_staying_4 (fX6_staying_4 d) _ _ _ H = _
      unfold bX6_staying_4
      rw [if_neg (nI_ge (by omega) (by omega)), ePut (by omega) (by omega), bd2_some, nI_1, ih (i + 1) d _ (by omega) (by omega)]
      rfl
  exact hL n 0 4096 0 (by omega) (by omega)
/-- the turns of all squares that the two rows make -/
def gpN (n r u : Nat) : List Nat := orbB (fun w => thenN w r n) (fun w => thenN w u n) 121 0 [idN n]
section GP
theorem zc1 (c : CS) (f : Nat → Int64) (a b : Nat) : ((c.ztc a).zf20 f).ztc b = (c.zf20 f).ztc b := rfl
theorem zc2 (c : CS) (f g : Nat → Int64) (a b : Nat) : (((c.zf20 g).ztc a).zf20 f).ztc b = (c.zf20 f).ztc b := rfl
variable {c : CS} {m : MS} {n r u : Nat}
theorem eGpL (h : OK c m) (hn : c.n = n) (hr' : c.r = r) (hu' : c.u = u) (hr : r ∈ P n) (hu : u ∈ P n) : ∀ (q k d : Nat) (L : List Nat) (f : Nat → Int64), 121 ≤ k + q → q < d → k ≤ L.length → LM (P n) L → DL f L → ∃ f', fX9_groupSize_29 d 0 (nI k) (hp ((c.zf20 f).ztc L.length) m) = some (nI (orbB (fun w => thenN w r n) (fun w => thenN w u n) q k L).length, hp ((c.zf20 f').ztc (orbB (fun w => thenN w r n) (fun w => thenN w u n) q k L).length) m) := by
  have hn5 := P_n hr
  have h120 := P_len n (by omega)
  have hrl := P_lt hr
  have hul := P_lt hu
  intro q
  induction q with
  | zero =>
    intro k d L f hk hd hkl hL hf
    have := LM_len hL
    omega
  | succ q ih =>
    intro k d L f hk hd hkl hL hf
    obtain ⟨d, rfl⟩ : ∃ e, d = e + 1 := ⟨d - 1, by omega⟩
    have hlen := LM_len hL
    show ∃ f', bX9_groupSize_29 (fX9_groupSize_29 d) 0 (nI k) _ = _
    by_cases hk2 : k < L.length
    · have hw := hL.2 _ (getD_mem hk2)
      have hwl := P_lt hw
      have h1 : thenN (L.getD k 0) r n ∈ P n := P_then hw hr
      have h2 : thenN (L.getD k 0) u n ∈ P n := P_then hw hu
      have hb : ∀ {M : List Nat}, LM (P n) M → ∀ y ∈ M, y < 2 ^ 62 := fun hM y hy => by have := P_lt (hM.2 y hy); omega
      have hL1 := adL_LM hL h1
      have hL2 := adL_LM hL1 h2
      have hlen1 := LM_len hL1
      obtain ⟨f1, p1, p2⟩ := ePlace19 (c := (c.zf20 f).ztc L.length) (m := m) (x := thenN (L.getD k 0) r n) hL.1 (by omega) (hb hL) (by have := P_lt h1; omega) hf rfl
      obtain ⟨f2, p3, p4⟩ := ePlace19 (c := (c.zf20 f1).ztc (adL L (thenN (L.getD k 0) r n)).length) (m := m) (x := thenN (L.getD k 0) u n) hL1.1 (by omega) (hb hL1) (by have := P_lt h2; omega) p2 rfl
      obtain ⟨f', e'⟩ := ih (k + 1) d (adL (adL L (thenN (L.getD k 0) r n)) (thenN (L.getD k 0) u n)) f2 (by omega) (by omega) (by have a1 := adL_len L (thenN (L.getD k 0) r n); have a2 := adL_len (adL L (thenN (L.getD k 0) r n)) (thenN (L.getD k 0) u n); omega) hL2 p4
      refine ⟨f', ?_⟩
      rw [orbB_step _ _ _ hk2]
      refine Eq.trans ?_ e'
      unfold bX9_groupSize_29
      rw [hA0_7, bd_some, hI19_1, bd_some, if_neg (nI_ge hk2 (by omega)), if_neg (show ¬ (128 : Int32) ≤ nI k from nI_ge (b := 128) (by omega) (by decide)), bd_some, gp_pos hO19]
      unfold FX0_at
      rw [if_neg (nI_pos (by omega)), if_neg (show ¬ (128 : Int32) ≤ nI k from nI_ge (b := 128) (by omega) (by decide)), hA19_0, bd_some, hr20 (by omega), bd_some, bd2_some]
      rw [show CS.f20 ((c.zf20 f).ztc L.length) k = lN (L.getD k 0) from hf k hk2, lN_i, hA0_7, bd_some, hA0_1, bd_some, hI3_1, bd_some, bd_some, hI3_0, bd_some, show CS.r ((c.zf20 f).ztc L.length) = r from hr', show CS.n ((c.zf20 f).ztc L.length) = n from hn, eThen (by omega) (by omega) (by omega), bd2_some, gp_pos hO19, nI_l (by have := P_lt h1; omega), p1, bd2_some]
      rw [zc2, hA0_7, bd_some, hA0_1, bd_some, hI3_2, bd_some, bd_some, hI3_0, bd_some, show CS.u ((c.zf20 f1).ztc (adL L (thenN (L.getD k 0) r n)).length) = u from hu', show CS.n ((c.zf20 f1).ztc (adL L (thenN (L.getD k 0) r n)).length) = n from hn, eThen (by omega) (by omega) (by omega), bd2_some, gp_pos hO19, nI_l (by have := P_lt h2; omega), p3, bd2_some, nI_1, zc2]
    · refine ⟨f, ?_⟩
      rw [orbB_end _ _ _ (by omega)]
      unfold bX9_groupSize_29
      rw [hA0_7, bd_some, hI19_1, bd_some, if_pos (show nI L.length ≤ nI k from nI_le (by omega) (by omega))]
      unfold fX9_groupSize_117
      rw [hA0_7, bd_some, hI19_1, bd_some]
theorem eGp (h : OK c m) : ∃ f', FX9_groupSize 0 (hp c m) = some (nI (gpN c.n c.r c.u).length, hp ((c.zf20 f').ztc (gpN c.n c.r c.u).length) m) := by
  have hn5 := P_n h.2.1.1
  have hid := id_P0 c.n (by omega) hn5.1
  have hidl := P_lt hid
  obtain ⟨f1, p1, p2⟩ := ePlace19 (c := c.ztc 0) (m := m) (L := []) (x := idN c.n) (by simp) (by decide) (fun y hy => by cases hy) (by omega) (fun i hi => absurd hi (Nat.not_lt_zero i)) rfl
  have e1 : adL [] (idN c.n) = [idN c.n] := rfl
  rw [e1] at p1 p2
  obtain ⟨f2, q⟩ := eGpL (n := c.n) (r := c.r) (u := c.u) (m := m) (c := c) h rfl rfl rfl h.2.1.1 h.2.1.2.1 121 0 4096 [idN c.n] f1 (by omega) (by omega) (by omega) ⟨by simp, fun x hx => by rw [List.mem_singleton] at hx; rw [hx]; exact hid⟩ p2
  refine ⟨f2, ?_⟩
  unfold FX9_groupSize gpN
  rw [hA0_7, bd_some, hp19_1 (v := 0) 0 rfl, bd_some, hA0_7, bd_some, hA0_1, bd_some, hI3_0, bd_some, eStay (show CS.n (c.ztc 0) ≤ 5 from hn5.2), bd2_some, gp_pos hO19, nI_l (show idN (CS.n (c.ztc 0)) < 2 ^ 31 from by have : idN c.n < 2 ^ 31 := (by omega); exact this), show FX0_placeOf 19 (lN (idN (CS.n (c.ztc 0)))) (hp (c.ztc 0) m) = _ from p1, bd2_some, zc1]
  exact q
end GP
