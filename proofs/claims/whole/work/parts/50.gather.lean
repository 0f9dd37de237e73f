/-! The class gathers an orbit. -/
theorem ix_p {m : Nat} (h : 1 ≤ m) : nI m - 1 = ix m := by
  obtain ⟨k, rfl⟩ : ∃ k, m = k + 1 := ⟨m - 1, by omega⟩
  exact nI_pred k
theorem dv10 (X j : Nat) : X / 10 / 10 ^ j = X / 10 ^ (j + 1) := by rw [Nat.div_div_eq_div_mul, Nat.pow_succ, Nat.mul_comm]
theorem r10 {X : Nat} (h : X < 2 ^ 62) : (rJ (lN X) 10).toInt32 = nI (X % 10) ∧ lN X / 10 = lN (X / 10) := by
  refine ⟨?_, pk_lDiv (b := 10) (by omega) (by decide) (by decide)⟩
  rw [show rJ (lN X) 10 = lN (X % 10) from rJ_lN (d := 10) (by omega) (by decide) (by decide), lN_i]
section EG
variable {c : CS} {M : MS} {m : Nat}
theorem eBn54 {uw : Nat} : ∀ (i d X w : Nat), i ≤ 5 → i < d → X < 2 ^ 62 → (∀ j, j < i → X / 10 ^ j % 10 < 8) → fX2_becomeNamed_54 d 18 (nI m) (lN X) (nI w) (nI uw) (ix i) (hp c M) = some ((), hp (((c.zn8 m).zr8 (decD X i w)).zu8 uw) M) := by
  intro i
  induction i with
  | zero =>
    intro d X w h5 hd hX hj
    obtain ⟨d, rfl⟩ : ∃ e, d = e + 1 := ⟨d - 1, by omega⟩
    show bX2_becomeNamed_54 (fX2_becomeNamed_54 d) _ _ _ _ _ _ _ = _
    unfold bX2_becomeNamed_54
    rw [if_pos (show ix 0 < 0 by decide), gp_pos hO18, eBecome hg18, bd2_some, hs18]
    rfl
  | succ i ih =>
    intro d X w h5 hd hX hj
    obtain ⟨d, rfl⟩ : ∃ e, d = e + 1 := ⟨d - 1, by omega⟩
    show bX2_becomeNamed_54 (fX2_becomeNamed_54 d) _ _ _ _ _ _ _ = _
    unfold bX2_becomeNamed_54
    have h0 := hj 0 (by omega)
    rw [Nat.pow_zero, Nat.div_one] at h0
    rw [ix_s, if_neg (nI_pos (by omega)), (r10 hX).1, (r10 hX).2, ePut (by omega) h0, bd2_some, ix_m]
    exact ih d (X / 10) _ (by omega) (by omega) (by omega) (fun j hj2 => by rw [dv10]; exact hj (j + 1) (by omega))
theorem eBn14 (h1 : 1 ≤ m) (hm : m ≤ 5) : ∀ (i d X w : Nat), i ≤ 5 → i < d → X < 2 ^ 62 → (∀ j, j < i → X / 10 ^ j % 10 < 8) → (∀ j, j < m → X / 10 ^ i / 10 ^ j % 10 < 8) → fX2_becomeNamed_14 d 18 (nI m) (lN X) (nI 0) (nI w) (ix i) (hp c M) = some ((), hp (((c.zn8 m).zr8 (decD (X / 10 ^ i) m 0)).zu8 (decD X i w)) M) := by
  intro i
  induction i with
  | zero =>
    intro d X w h5 hd hX hj hk
    obtain ⟨d, rfl⟩ : ∃ e, d = e + 1 := ⟨d - 1, by omega⟩
    show bX2_becomeNamed_14 (fX2_becomeNamed_14 d) _ _ _ _ _ _ _ = _
    unfold bX2_becomeNamed_14
    rw [Nat.pow_zero, Nat.div_one] at hk
    rw [if_pos (show ix 0 < 0 by decide), ix_p h1, eBn54 m 4096 X 0 hm (by omega) hX hk, Nat.pow_zero, Nat.div_one]
    rfl
  | succ i ih =>
    intro d X w h5 hd hX hj hk
    obtain ⟨d, rfl⟩ : ∃ e, d = e + 1 := ⟨d - 1, by omega⟩
    show bX2_becomeNamed_14 (fX2_becomeNamed_14 d) _ _ _ _ _ _ _ = _
    unfold bX2_becomeNamed_14
    have h0 := hj 0 (by omega)
    rw [Nat.pow_zero, Nat.div_one] at h0
    rw [ix_s, if_neg (nI_pos (by omega)), (r10 hX).1, (r10 hX).2, ePut (by omega) h0, bd2_some, ix_m, ih d (X / 10) _ (by omega) (by omega) (by omega) (fun j hj2 => by rw [dv10]; exact hj (j + 1) (by omega)) (fun j hj2 => by rw [dv10]; exact hk j hj2), dv10]
    rfl
theorem eBn {x : Nat} (h : x ∈ T m) : FX2_becomeNamed 18 (lN x) (nI m) (hp c M) = some ((), hp (((c.zn8 m).zr8 (decR m x)).zu8 (decU m x)) M) := by
  have hm := T_m h
  obtain ⟨_, _, hx, hd⟩ := T_dec h
  unfold FX2_becomeNamed
  rw [ix_p hm.1]
  exact eBn14 hm.1 hm.2 m 4096 x 0 hm.2 (by omega) (by omega) (fun j hj => (hd j hj).2.2.1) (fun j hj => (hd j hj).2.2.2)
theorem zg1 (c : CS) (a b d a' b' d' : Nat) : ((((((c.zn8 a).zr8 b).zu8 d).zn8 a').zr8 b').zu8 d') = ((c.zn8 a').zr8 b').zu8 d' := rfl
theorem ePs {L : List Nat} {k hw : Nat} (hL : LM (T m) L) (hf : DL c.f16 L) (ho : c.oc = L.length) (hk : k < L.length) (hh : hw < 2) : ∃ r' u' f', FX4_placeSheared 14 (nI k) (nI m) (nI hw) (hp c M) = some (nI ((adL L (shN hw m (L.getD k 0))).idxOf (shN hw m (L.getD k 0))), hp (((((c.zn8 m).zr8 r').zu8 u').zf16 f').zoc (adL L (shN hw m (L.getD k 0))).length) M) ∧ DL f' (adL L (shN hw m (L.getD k 0))) := by
  have hx := hL.2 _ (getD_mem hk)
  have hm := T_m hx
  have hlen := Nat.le_trans (LM_len hL) (T_len m (by omega))
  obtain ⟨hr, hu, _, _⟩ := T_dec hx
  have hsh := T_sh2 hx
  have hy : shN hw m (L.getD k 0) ∈ T m := by
    have : hw = 0 ∨ hw = 1 := by omega
    rcases this with rfl | rfl
    · exact hsh.1
    · exact hsh.2
  have hyl := (T_dec hy).2.2.1
  obtain ⟨f', p1, p2⟩ := ePlace15 (c := ((c.zn8 m).zr8 (shR m (decR m (L.getD k 0)) (decU m (L.getD k 0)) hw)).zu8 (shU m (decR m (L.getD k 0)) (decU m (L.getD k 0)) hw)) (m := M) (L := L) (x := shN hw m (L.getD k 0)) hL.1 (by omega) (fun y hy => by have := (T_dec (hL.2 y hy)).2.2.1; omega) (by omega) hf ho
  refine ⟨shR m (decR m (L.getD k 0)) (decU m (L.getD k 0)) hw, shU m (decR m (L.getD k 0)) (decU m (L.getD k 0)) hw, f', ?_, p2⟩
  unfold FX4_placeSheared FX0_at
  rw [hA14_2, bd_some, hA14_0, bd_some, gp_pos hO15, if_neg (nI_pos (by omega)), if_neg (show ¬ (128 : Int32) ≤ nI k from nI_ge (b := 128) (by omega) (by decide)), hA15_0, bd_some, hr16 (by omega), bd_some, bd2_some, gp_pos hO18, hf k hk, eBn hx, bd2_some, hA14_2, bd_some, gp_pos hO18, eShear hg18 hr hu (by omega), bd2_some, hs18, zg1, hA14_0, bd_some, hA14_2, bd_some, gp_pos hO18, show (0 : Int32) = nI 0 from rfl, eLeast hg18 (P_shR hr hu hw) (P_shU hr hu hw) (s := 0) (by show 0 < m; omega), bd2_some, gp_pos hO15]
  show bd2 (FX0_placeOf 15 (lN (shN hw m (L.getD k 0))) _) _ = _
  rw [p1, bd2_some]
end EG
/-- the class's state with another orbit in it -/
def gC (c : CS) (a b e : Nat) (f : Nat → Int64) (o : Nat) (p : Nat → Int32) : CS := (((((c.zn8 a).zr8 b).zu8 e).zf16 f).zoc o).zf17 p
theorem gC1 (c : CS) (a b e a' b' e' o o' : Nat) (f f' : Nat → Int64) (p : Nat → Int32) : ((((((gC c a b e f o p).zn8 a').zr8 b').zu8 e').zf16 f').zoc o') = gC c a' b' e' f' o' p := rfl
theorem gC2 (c : CS) (a b e o : Nat) (f : Nat → Int64) (p p' : Nat → Int32) : (gC c a b e f o p).zf17 p' = gC c a b e f o p' := rfl
theorem gC3 (c : CS) (f : Nat → Int64) (o : Nat) : (c.zf16 f).zoc o = gC c c.n8 c.r8 c.u8 f o c.f17 := rfl
theorem gC4 (c : CS) : c = gC c c.n8 c.r8 c.u8 c.f16 c.oc c.f17 := rfl
theorem gC5 (c : CS) (f : Nat → Int64) (o o' : Nat) : ((c.zoc o').zf16 f).zoc o = gC c c.n8 c.r8 c.u8 f o c.f17 := rfl
theorem adL_im {L : List Nat} {x y : Nat} (h : y ∈ L) : (adL L x).idxOf y = L.idxOf y := by
  unfold adL
  split
  · rfl
  · rw [idx_app, if_pos h]
theorem eGaL {c : CS} {M : MS} {m : Nat} (hm : 1 ≤ m ∧ m ≤ 5) : ∀ (q k d : Nat) (L : List Nat) (a b e : Nat) (f : Nat → Int64) (p : Nat → Int32), 129 ≤ k + q → q < d → k ≤ L.length → LM (T m) L → DL f L → (∀ j, j < k → shN 0 m (L.getD j 0) ∈ L ∧ p j = nI (L.idxOf (shN 0 m (L.getD j 0)))) → ∃ a' b' e' f' p', fX4_gather_32 d 14 (nI m) (nI k) (hp (gC c a b e f L.length p) M) = some ((), hp (gC c a' b' e' f' (orbB (shN 0 m) (shN 1 m) q k L).length p') M) ∧ DL f' (orbB (shN 0 m) (shN 1 m) q k L) ∧ ∀ j, j < (orbB (shN 0 m) (shN 1 m) q k L).length → p' j = nI ((orbB (shN 0 m) (shN 1 m) q k L).idxOf (shN 0 m ((orbB (shN 0 m) (shN 1 m) q k L).getD j 0))) := by
  have h97 := T_len m (by omega)
  intro q
  induction q with
  | zero =>
    intro k d L a b e f p h1 h2 h3 hL
    have := LM_len hL
    omega
  | succ q ih =>
    intro k d L a b e f p h1 h2 h3 hL hf hj
    obtain ⟨d, rfl⟩ : ∃ e, d = e + 1 := ⟨d - 1, by omega⟩
    have hlen := LM_len hL
    show ∃ a' b' e' f' p', bX4_gather_32 (fX4_gather_32 d) 14 (nI m) (nI k) _ = _ ∧ _
    by_cases hk : k < L.length
    · have hx := hL.2 _ (getD_mem hk)
      have hsh := T_sh2 hx
      have hL1 := adL_LM hL hsh.1
      have hL2 := adL_LM hL1 hsh.2
      have l1 := adL_len L (shN 0 m (L.getD k 0))
      have l2 := adL_len (adL L (shN 0 m (L.getD k 0))) (shN 1 m (L.getD k 0))
      obtain ⟨r1, u1, f1, p1, p2⟩ := ePs (c := gC c a b e f L.length p) (M := M) (hw := 0) hL hf rfl hk (by decide)
      obtain ⟨r2, u2, f2, p3, p4⟩ := ePs (c := gC c m r1 u1 f1 (adL L (shN 0 m (L.getD k 0))).length (upd p k (nI ((adL L (shN 0 m (L.getD k 0))).idxOf (shN 0 m (L.getD k 0)))))) (M := M) (L := adL L (shN 0 m (L.getD k 0))) (k := k) (hw := 1) hL1 p2 rfl (by omega) (by decide)
      rw [adL_get hk] at p3 p4
      rw [gC1] at p1
      rw [gC1] at p3
      obtain ⟨a', b', e', f', p', g1, g2, g3⟩ := ih (k + 1) d (adL (adL L (shN 0 m (L.getD k 0))) (shN 1 m (L.getD k 0))) m r2 u2 f2 (upd p k (nI ((adL L (shN 0 m (L.getD k 0))).idxOf (shN 0 m (L.getD k 0))))) (by omega) (by omega) (by omega) hL2 p4 (fun j hjk => by
        rw [adL_get (by omega), adL_get (by omega)]
        by_cases ej : j = k
        · rw [ej, upd_at]
          have hin : shN 0 m (L.getD k 0) ∈ adL L (shN 0 m (L.getD k 0)) := adL_mem.mpr (.inr rfl)
          exact ⟨adL_mem.mpr (.inl hin), by rw [adL_im hin]⟩
        · obtain ⟨i1, i2⟩ := hj j (by omega)
          rw [upd_ne ej, i2]
          exact ⟨adL_mem.mpr (.inl (adL_mem.mpr (.inl i1))), by rw [adL_im (adL_mem.mpr (.inl i1)), adL_im i1]⟩)
      rw [orbB_step _ _ _ hk]
      refine ⟨a', b', e', f', p', ?_, g2, g3⟩
      refine Eq.trans ?_ g1
      unfold bX4_gather_32
      rw [hA14_0, bd_some, hI15_1, bd_some, show CS.oc (gC c a b e f L.length p) = L.length from rfl, if_neg (nI_ge hk (by omega)), if_neg (show ¬ (128 : Int32) ≤ nI k from nI_ge (b := 128) (by omega) (by decide)), hA14_1, bd_some, gp_pos hO14, show FX4_placeSheared 14 (nI k) (nI m) 0 (hp (gC c a b e f L.length p) M) = _ from p1, bd2_some, hw17 (by omega), bd_some, gC2, gp_pos hO14]
      show bd2 (FX4_placeSheared 14 (nI k) (nI m) (nI 1) (hp (gC c m r1 u1 f1 (adL L (shN 0 m (L.getD k 0))).length (upd p k (nI ((adL L (shN 0 m (L.getD k 0))).idxOf (shN 0 m (L.getD k 0)))))) M)) _ = _
      rw [p3, bd2_some, nI_1]
    · rw [orbB_end _ _ _ (by omega)]
      refine ⟨a, b, e, f, p, ?_, hf, fun j hjl => (hj j (by omega)).2⟩
      unfold bX4_gather_32
      rw [hA14_0, bd_some, hI15_1, bd_some, show CS.oc (gC c a b e f L.length p) = L.length from rfl, if_pos (nI_le (by omega) (by omega))]
theorem eGather {c : CS} {M : MS} {m x : Nat} (hx : x ∈ T m) (ho : OC c.oc c.f16 c.f17) : ∃ a b e f p x1, FX4_gather 14 (lN x) (nI m) (hp c M) = some ((), hp (gC c a b e f (orbN m x1).length p) M) ∧ x1 ∈ T m ∧ x ∈ orbN m x1 ∧ DL f (orbN m x1) ∧ ∀ j, j < (orbN m x1).length → p j = nI ((orbN m x1).idxOf (shN 0 m ((orbN m x1).getD j 0))) := by
  have hm := T_m hx
  have hxl := (T_dec hx).2.2.1
  have hmiss : FX0_find 15 (lN x) (hp c M) = some (-1, hp c M) → ∃ a b e f p x1, FX4_gather 14 (lN x) (nI m) (hp c M) = some ((), hp (gC c a b e f (orbN m x1).length p) M) ∧ x1 ∈ T m ∧ x ∈ orbN m x1 ∧ DL f (orbN m x1) ∧ ∀ j, j < (orbN m x1).length → p j = nI ((orbN m x1).idxOf (shN 0 m ((orbN m x1).getD j 0))) := by
    intro hfind
    obtain ⟨f1, p1, p2⟩ := ePlace15 (c := c.zoc 0) (m := M) (L := []) (x := x) (by simp) (by decide) (fun y hy => by cases hy) (by omega) (fun i hi => absurd hi (Nat.not_lt_zero i)) rfl
    rw [show adL [] x = [x] from rfl] at p1 p2
    obtain ⟨a', b', e', f', p', g1, g2, g3⟩ := eGaL (c := c) (M := M) hm 129 0 4096 [x] c.n8 c.r8 c.u8 f1 c.f17 (by omega) (by omega) (by omega) (LM_one hx) p2 (fun j hj => by omega)
    refine ⟨a', b', e', f', p', x, ?_, hx, orbN_self m x, g2, g3⟩
    unfold FX4_gather
    rw [hA14_0, bd_some, gp_pos hO15, hfind, bd2_some, if_pos (by decide), hA14_0, bd_some, hp15_1 (v := 0) 0 rfl, bd_some, hA14_0, bd_some, gp_pos hO15, p1, bd2_some, gC5]
    exact g1
  rcases ho with ho | ⟨m0, x0, h0, ho, hi⟩
  · refine hmiss ?_
    rw [eFind15 (L := []) (by simp) (by decide) (fun y hy => by cases hy) (by omega) (fun i hi => absurd hi (Nat.not_lt_zero i)) ho, if_neg (by simp)]
  · have hLM := orbN_LM h0
    have hlen := orbN_len h0
    have hfd := eFind15 (c := c) (m := M) (L := orbN m0 x0) (x := x) hLM.1 (by omega) (fun y hy => by have := (T_dec (hLM.2 y hy)).2.2.1; omega) (by omega) (fun i hil => (hi i (by omega)).1) ho
    by_cases hin : x ∈ orbN m0 x0
    · have e0 : m0 = m := T_one (hLM.2 x hin) hx
      subst e0
      have hlt := idx_lt hin
      refine ⟨c.n8, c.r8, c.u8, c.f16, c.f17, x0, ?_, h0, hin, fun i hil => (hi i (by omega)).1, fun j hj => (hi j (by omega)).2⟩
      rw [if_pos hin] at hfd
      unfold FX4_gather
      rw [hA14_0, bd_some, gp_pos hO15, hfd, bd2_some, if_neg (nI_pos (by omega)), ← ho, ← gC4]
    · rw [if_neg hin] at hfd
      exact hmiss hfd
-- rings
theorem rgC_le {F : List Nat} {n i : Nat} : ∀ (q p a : Nat), rgC F n i q p a ≤ n
  | 0, _, _ => Nat.zero_le _
  | q + 1, p, a => by
    unfold rgC
    split
    · exact Nat.zero_le _
    · split
      · split
        · omega
        · exact rgC_le q _ _
      · exact Nat.zero_le _
section RG
variable {c : CS} {M : MS} {F : List Nat} {n : Nat}
theorem eRg (ho : c.oc = n) (hn : n ≤ 97) (hF : ∀ j, j < n → c.f17 j = nI (F.getD j 0) ∧ F.getD j 0 < n) {i : Nat} (hi : i < n) : ∀ (q p a d : Nat), a + q = n + 2 → a ≤ n + 1 → q < d → p < n → fX4_ringFrom_4 d 14 (nI i) (nI p) (nI a) (hp c M) = some (nI (rgC F n i q p a), hp c M) := by
  intro q
  induction q with
  | zero => intro p a d h1 h2; omega
  | succ q ih =>
    intro p a d h1 h2 h3 h4
    obtain ⟨d, rfl⟩ : ∃ e, d = e + 1 := ⟨d - 1, by omega⟩
    obtain ⟨f1, f2⟩ := hF p h4
    show bX4_ringFrom_4 (fX4_ringFrom_4 d) _ _ _ _ _ = _
    unfold bX4_ringFrom_4 fX4_ringFrom_36
    rw [hA14_0, bd_some, hI15_1, bd_some, ho, rgC]
    by_cases e1 : n < a
    · rw [if_pos (nI_lt e1 (by omega)), if_pos e1]
      rfl
    · rw [if_neg (nI_nlt (by omega) (by omega)), if_neg e1, if_neg (nI_pos (by omega)), if_neg (show ¬ (128 : Int32) ≤ nI p from nI_ge (b := 128) (by omega) (by decide)), hA14_1, bd_some, hr17 (by omega), bd_some, f1]
      by_cases e2 : i ≤ F.getD p 0
      · rw [if_pos (nI_le e2 (by omega)), if_pos e2]
        by_cases e3 : F.getD p 0 = i
        · rw [if_pos (by rw [e3]), if_pos e3]
        · rw [if_neg (fun q => e3 ((nI_eq (by omega) (by omega)).mp q)), if_neg e3, nI_1]
          exact ih _ _ d (by omega) (by omega) (by omega) f2
      · rw [if_neg (nI_ge (by omega) (by omega)), if_neg e2]
        rfl
theorem eRing' (ho : c.oc = n) (hn : n ≤ 97) (hF : ∀ j, j < n → c.f17 j = nI (F.getD j 0) ∧ F.getD j 0 < n) {i : Nat} (hi : i < n) : FX4_ringFrom 14 (nI i) (hp c M) = some (nI (rgC F n i (n + 1) i 1), hp c M) := by
  unfold FX4_ringFrom
  exact eRg ho hn hF hi (n + 1) i 1 4096 (by omega) (by omega) (by omega) hi
theorem nI_le0 {v : Nat} (h : v < 2 ^ 31) : nI v ≤ 0 ↔ v = 0 := by
  constructor
  · intro q
    by_cases e : v = 0
    · exact e
    · exact absurd q (nI_ge (a := 0) (by omega) h)
  · intro q
    rw [q]
    decide
theorem eCu (ho : c.oc = n) (hn : n ≤ 97) (hF : ∀ j, j < n → c.f17 j = nI (F.getD j 0) ∧ F.getD j 0 < n) : ∀ (q i d a : Nat), i + q = n → q < d → fX4_cusps_4 d 14 (nI a) (nI i) (hp c M) = some (nI (cuC F n q i a), hp c M) := by
  intro q
  induction q with
  | zero =>
    intro i d a h1 h2
    obtain ⟨d, rfl⟩ : ∃ e, d = e + 1 := ⟨d - 1, by omega⟩
    show bX4_cusps_4 (fX4_cusps_4 d) _ _ _ _ = _
    unfold bX4_cusps_4
    rw [hA14_0, bd_some, hI15_1, bd_some, ho, if_pos (nI_le (by omega) (by omega))]
    rfl
  | succ q ih =>
    intro i d a h1 h2
    obtain ⟨d, rfl⟩ : ∃ e, d = e + 1 := ⟨d - 1, by omega⟩
    show bX4_cusps_4 (fX4_cusps_4 d) _ _ _ _ = _
    unfold bX4_cusps_4
    have hv := rgC_le (F := F) (n := n) (i := i) (n + 1) i 1
    rw [hA14_0, bd_some, hI15_1, bd_some, ho, if_neg (nI_ge (by omega) (by omega)), gp_pos hO14, eRing' ho hn hF (by omega), bd2_some, nI_1, nI_1, cuC]
    by_cases e : rgC F n i (n + 1) i 1 = 0
    · rw [if_pos ((nI_le0 (by omega)).mpr e), if_pos e]
      exact ih (i + 1) d _ (by omega) (by omega)
    · rw [if_neg (fun q => e ((nI_le0 (by omega)).mp q)), if_neg e]
      exact ih (i + 1) d _ (by omega) (by omega)
theorem eWi (ho : c.oc = n) (hn : n ≤ 97) (hF : ∀ j, j < n → c.f17 j = nI (F.getD j 0) ∧ F.getD j 0 < n) : ∀ (q i d a : Nat), i + q = n → q < d → a ≤ n → fX4_widest_4 d 14 (nI a) (nI i) (hp c M) = some (nI (wiC F n q i a), hp c M) := by
  intro q
  induction q with
  | zero =>
    intro i d a h1 h2 ha
    obtain ⟨d, rfl⟩ : ∃ e, d = e + 1 := ⟨d - 1, by omega⟩
    show bX4_widest_4 (fX4_widest_4 d) _ _ _ _ = _
    unfold bX4_widest_4
    rw [hA14_0, bd_some, hI15_1, bd_some, ho, if_pos (nI_le (by omega) (by omega))]
    rfl
  | succ q ih =>
    intro i d a h1 h2 ha
    obtain ⟨d, rfl⟩ : ∃ e, d = e + 1 := ⟨d - 1, by omega⟩
    show bX4_widest_4 (fX4_widest_4 d) _ _ _ _ = _
    unfold bX4_widest_4
    have hv := rgC_le (F := F) (n := n) (i := i) (n + 1) i 1
    rw [hA14_0, bd_some, hI15_1, bd_some, ho, if_neg (nI_ge (by omega) (by omega)), gp_pos hO14, eRing' ho hn hF (by omega), bd2_some, nI_1, wiC]
    by_cases e : a < rgC F n i (n + 1) i 1
    · rw [if_pos (nI_lt e (by omega)), if_pos e]
      exact ih (i + 1) d _ (by omega) (by omega) hv
    · rw [if_neg (nI_nlt (by omega) (by omega)), if_neg e]
      exact ih (i + 1) d _ (by omega) (by omega) ha
end RG
