/-! Seams that open by chance. -/
def coL (o x : Nat) : Nat → Nat → Nat → Nat
  | 0, _, a => a
  | q + 1, i, a => coL o x q (i + 1) (a * (if o.testBit i then x else 10 - x))
def coN (n o x : Nat) : Nat := coL o x n 0 1
theorem co_ck : (allN 6 fun n => allN (2 ^ n) fun o => allN 11 fun x => Nat.beq (coN n o x) (x ^ popc o * (10 - x) ^ (n - popc o)) && Nat.ble (coN n o x) 100000) = true := by decide +kernel
theorem co_at {n o x : Nat} (hn : n ≤ 5) (ho : o < 2 ^ n) (hx : x ≤ 10) : coN n o x = x ^ popc o * (10 - x) ^ (n - popc o) ∧ coN n o x ≤ 100000 := by
  have h := allN_at (allN_at (allN_at co_ck n (by omega)) o ho) x (by omega)
  rw [Bool.and_eq_true] at h
  exact ⟨Nat.eq_of_beq_eq_true h.1, Nat.le_of_ble_eq_true h.2⟩
def ciL (n r u x : Nat) : Nat → Nat → Nat → Nat
  | 0, _, a => a
  | q + 1, o, a => ciL n r u x q (o + 1) (if reachN n r u 0 (2 ^ n - 1) o = 2 ^ n - 1 then a + coN n o x else a)
theorem ci_le {n r u x : Nat} (hn : n ≤ 5) (hx : x ≤ 10) : ∀ (q o a : Nat), o + q ≤ 2 ^ n → ciL n r u x q o a ≤ a + q * 100000
  | 0, _, _, _ => by unfold ciL; omega
  | q + 1, o, a, h => by
    unfold ciL
    have h1 := (co_at hn (show o < 2 ^ n by omega) hx).2
    have h2 := ci_le (r := r) (u := u) hn hx q (o + 1) (a + coN n o x) (by omega)
    have h3 := ci_le (r := r) (u := u) hn hx q (o + 1) a (by omega)
    rw [Nat.succ_mul]
    by_cases e : reachN n r u 0 (2 ^ n - 1) o = 2 ^ n - 1
    · rw [if_pos e]; omega
    · rw [if_neg e]; exact Nat.le_trans h3 (Nat.add_le_add_left (Nat.le_add_right _ _) a)
section OP
variable {H : Hp} {k n r u : Nat}
theorem eCoL (h : gl H k n r u) (hn : n ≤ 5) {op x : Nat} (ho : op < 65536) (hx : x ≤ 10) : ∀ (q i d a : Nat), i + q = n → q < d → fX2_casesOfOpen_5 d k (nI op) (nI x) (nI a) (nI i) H = some (nI (coL op x q i a), H) := by
  intro q
  induction q with
  | zero =>
    intro i d a hk hd
    obtain ⟨d, rfl⟩ : ∃ e, d = e + 1 := ⟨d - 1, by omega⟩
    show bX2_casesOfOpen_5 (fX2_casesOfOpen_5 d) _ _ _ _ _ H = _
    unfold bX2_casesOfOpen_5
    rw [gl0 h, bd_some, if_pos (nI_le (by omega) (by omega))]
    rfl
  | succ q ih =>
    intro i d a hk hd
    obtain ⟨d, rfl⟩ : ∃ e, d = e + 1 := ⟨d - 1, by omega⟩
    show bX2_casesOfOpen_5 (fX2_casesOfOpen_5 d) _ _ _ _ _ H = _
    unfold bX2_casesOfOpen_5
    rw [gl0 h, bd_some, if_neg (nI_ge (by omega) (by omega)), eIsIn ho (by omega), bd2_some, show (10 : Int32) - nI x = nI (10 - x) from pk_sub (a := 10) hx, nI_mul, nI_mul, nI_1]
    show _ = some (nI (coL op x q (i + 1) (a * (if op.testBit i then x else 10 - x))), H)
    cases e : op.testBit i with
    | true => rw [bit01_t e, if_neg (by decide), ih (i + 1) d _ (by omega) (by omega), if_pos rfl]
    | false => rw [bit01_f (by rw [e]; decide), if_pos rfl, ih (i + 1) d _ (by omega) (by omega), if_neg (by decide)]
theorem eCo (h : gl H k n r u) (hn : n ≤ 5) {op x : Nat} (ho : op < 65536) (hx : x ≤ 10) : FX2_casesOfOpen k (nI op) (nI x) H = some (nI (coN n op x), H) := by
  unfold FX2_casesOfOpen
  exact eCoL h hn ho hx n 0 4096 1 (by omega) (by omega)
theorem eCaL (h : gl H k n r u) (hn : n ≤ 5) : ∀ (q i d a : Nat), i + q = n → q < d → fX2_casesInAll_4 d k (nI a) (nI i) H = some (nI (a * 10 ^ q), H) := by
  intro q
  induction q with
  | zero =>
    intro i d a hk hd
    obtain ⟨d, rfl⟩ : ∃ e, d = e + 1 := ⟨d - 1, by omega⟩
    show bX2_casesInAll_4 (fX2_casesInAll_4 d) _ _ _ H = _
    unfold bX2_casesInAll_4
    rw [gl0 h, bd_some, if_pos (nI_le (by omega) (by omega)), Nat.pow_zero, Nat.mul_one]
  | succ q ih =>
    intro i d a hk hd
    obtain ⟨d, rfl⟩ : ∃ e, d = e + 1 := ⟨d - 1, by omega⟩
    show bX2_casesInAll_4 (fX2_casesInAll_4 d) _ _ _ H = _
    unfold bX2_casesInAll_4
    rw [gl0 h, bd_some, if_neg (nI_ge (by omega) (by omega)), show nI a * 10 = nI (a * 10) from nI_mul a 10, nI_1, ih (i + 1) d _ (by omega) (by omega), Nat.mul_assoc, Nat.mul_comm 10, ← Nat.pow_succ]
theorem eCa (h : gl H k n r u) (hn : n ≤ 5) : FX2_casesInAll k H = some (nI (10 ^ n), H) := by
  unfold FX2_casesInAll
  refine (eCaL h hn n 0 4096 1 (by omega) (by omega)).trans ?_
  rw [Nat.one_mul]
theorem eCiL (h : gl H k n r u) (hr : r ∈ P n) (hu : u ∈ P n) {x : Nat} (hx : x ≤ 10) : ∀ (q op d a : Nat), op + q = 2 ^ n → q < d → fX2_casesInOnePiece_10 d k (nI x) (nI (2 ^ n - 1)) (nI a) (nI op) H = some (nI (ciL n r u x q op a), H) := by
  have hn := P_n hr
  have hrl := P_lt hr
  have hul := P_lt hu
  have hp2n : 2 ^ n ≤ 32 := Nat.pow_le_pow_right (n := 2) (by decide) hn.2
  have hp1 : 0 < 2 ^ n := Nat.two_pow_pos n
  intro q
  induction q with
  | zero =>
    intro op d a hk hd
    obtain ⟨d, rfl⟩ : ∃ e, d = e + 1 := ⟨d - 1, by omega⟩
    show bX2_casesInOnePiece_10 (fX2_casesInOnePiece_10 d) _ _ _ _ _ H = _
    unfold bX2_casesInOnePiece_10
    rw [if_pos (nI_lt (by omega) (by omega))]
    rfl
  | succ q ih =>
    intro op d a hk hd
    obtain ⟨d, rfl⟩ : ∃ e, d = e + 1 := ⟨d - 1, by omega⟩
    show bX2_casesInOnePiece_10 (fX2_casesInOnePiece_10 d) _ _ _ _ _ H = _
    unfold bX2_casesInOnePiece_10
    have hl := reach32 hr hu (s := 0) (come := 2 ^ n - 1) (opn := op) (by omega)
    rw [if_neg (nI_nlt (by omega) (by omega)), gp_pos (glO h), show FX2_reach k 0 (nI (2 ^ n - 1)) (nI op) H = some (nI (reachN n r u 0 (2 ^ n - 1) op), H) from eReach h hn.1 hn.2 (by omega) (by omega) (s := 0) (by decide) (by omega), bd2_some, gp_pos (glO h), eCo h hn.2 (by omega) hx, bd2_some, nI_add, nI_1]
    show _ = some (nI (ciL n r u x q (op + 1) (if reachN n r u 0 (2 ^ n - 1) op = 2 ^ n - 1 then a + coN n op x else a)), H)
    by_cases e : reachN n r u 0 (2 ^ n - 1) op = 2 ^ n - 1
    · rw [if_pos (by rw [e]), if_pos e]
      exact ih (op + 1) d _ (by omega) (by omega)
    · rw [if_neg (fun q => e ((nI_eq (by omega) (by omega)).mp q)), if_neg e]
      exact ih (op + 1) d _ (by omega) (by omega)
theorem eCi (h : gl H k n r u) (hr : r ∈ P n) (hu : u ∈ P n) {x : Nat} (hx : x ≤ 10) : FX2_casesInOnePiece k (nI x) H = some (nI (ciL n r u x (2 ^ n) 0 0), H) := by
  have hn := P_n hr
  have hp2n : 2 ^ n ≤ 32 := Nat.pow_le_pow_right (n := 2) (by decide) hn.2
  unfold FX2_casesInOnePiece
  rw [gp_pos (glO h), eAll h hn.2, bd2_some]
  exact eCiL h hr hu hx (2 ^ n) 0 4096 0 (by omega) (by omega)
end OP
theorem mOpL {c : CS} {m : MS} {n r u : Nat} (hml : ml (hp c m) 24 n r u) (hr : r ∈ P n) (hu : u ∈ P n) {x : Nat} (hx : x ≤ 10) {v R : Int32} (hF : ∀ H, FX10_fraction (nI (ciL n r u x (2 ^ n) 0 0)) (nI (10 ^ n)) v H = some (R, H)) : ∀ (q op d a : Nat), op + q = 2 ^ n → q < d → ciL n r u x q op a = ciL n r u x (2 ^ n) 0 0 → fX10_opens_35 d 22 (nI x) v (nI n) (nI (2 ^ n - 1)) (nI a) (nI op) (hp c m) = some (R, hp c m) := by
  have hn := P_n hr
  have hp2n : 2 ^ n ≤ 32 := Nat.pow_le_pow_right (n := 2) (by decide) hn.2
  have hp1 : 0 < 2 ^ n := Nat.two_pow_pos n
  intro q
  induction q with
  | zero =>
    intro op d a hk hd he
    obtain ⟨d, rfl⟩ : ∃ e, d = e + 1 := ⟨d - 1, by omega⟩
    show bX10_opens_35 (fX10_opens_35 d) _ _ _ _ _ _ _ _ = _
    unfold bX10_opens_35
    have he : a = ciL n r u x (2 ^ n) 0 0 := he
    rw [if_pos (nI_lt (by omega) (by omega)), show FX10_power 10 (nI n) (hp c m) = some (nI (10 ^ n), hp c m) from mPow (b := 10) _ (by omega), bd2_some, he, hF, bd2_some]
  | succ q ih =>
    intro op d a hk hd he
    obtain ⟨d, rfl⟩ : ∃ e, d = e + 1 := ⟨d - 1, by omega⟩
    show bX10_opens_35 (fX10_opens_35 d) _ _ _ _ _ _ _ _ = _
    unfold bX10_opens_35
    have hpo := popc_le5 n (by omega) op (by omega)
    have hfl : fallL n r u (2 ^ n - 1) op n 0 (2 ^ n - 1) 0 ≤ n := by
      have : ∀ (q i l a : Nat), fallL n r u (2 ^ n - 1) op q i l a ≤ a + q := by
        intro q
        induction q with
        | zero => intro i l a; exact Nat.le_refl _
        | succ q ih =>
          intro i l a
          unfold fallL
          split
          · have := ih (i + 1) (wo l (reachN n r u i (2 ^ n - 1) op) 5) (a + 1); omega
          · have := ih (i + 1) l a; omega
      have := this n 0 (2 ^ n - 1) 0
      omega
    rw [if_neg (nI_nlt (by omega) (by omega)), mOnes (by omega), bd2_some, hA22_2, bd_some, mFallen hml hr hu (by omega) (by omega), bd2_some, nI_1]
    have he2 : ciL n r u x q (op + 1) (if reachN n r u 0 (2 ^ n - 1) op = 2 ^ n - 1 then a + coN n op x else a) = ciL n r u x (2 ^ n) 0 0 := he
    by_cases e : reachN n r u 0 (2 ^ n - 1) op = 2 ^ n - 1
    · rw [if_pos e] at he2
      rw [if_pos (show nI (fallL n r u (2 ^ n - 1) op n 0 (2 ^ n - 1) 0) = 1 from by rw [(fall_one hr hu).mpr e]; rfl), mPow _ (by omega), bd2_some, show (10 : Int32) - nI x = nI (10 - x) from pk_sub (a := 10) hx, pk_sub hpo, mPow _ (by omega), bd2_some, nI_mul, nI_add, ← (co_at hn.2 (show op < 2 ^ n by omega) hx).1]
      exact ih (op + 1) d _ (by omega) (by omega) he2
    · rw [if_neg e] at he2
      rw [if_neg (show ¬ nI (fallL n r u (2 ^ n - 1) op n 0 (2 ^ n - 1) 0) = 1 from fun q => e ((fall_one hr hu).mp ((nI_eq (b := 1) (by omega) (by decide)).mp q))), nI_a0]
      exact ih (op + 1) d _ (by omega) (by omega) he2
theorem c_opens (x v : Int32) : Eqv (fun H => FX9_opens 0 x v H) (fun H => FX10_opens 22 x v H) := by
  intro c m h
  have hn := h.n5
  have hr := h.2.1.1
  have hu := h.2.1.2.1
  have hp2n : 2 ^ c.n ≤ 32 := Nat.pow_le_pow_right (n := 2) (by decide) hn
  show ∃ r c' m', FX9_opens 0 x v (hp c m) = _ ∧ FX10_opens 22 x v (hp c' m) = _ ∧ _
  unfold FX9_opens FX10_opens
  rw [rg_clsL (l := 0) (h := 10) (a := 0) (b := 10) rfl rfl]
  by_cases hg : rg 0 10 x = true
  · obtain ⟨w, _, hw, rfl⟩ := (rg_t (by decide) (by decide)).mp hg
    have hle := ci_le (r := c.r) (u := c.u) hn hw (2 ^ c.n) 0 0 (by omega)
    have h10 : 10 ^ c.n ≤ 10 ^ 5 := Nat.pow_le_pow_right (by decide) hn
    have h10p : 0 < 10 ^ c.n := Nat.pow_pos (by decide)
    obtain ⟨R, X, Y, p1, p2, p3⟩ := frac_both (a := nI (ciL c.n c.r c.u w (2 ^ c.n) 0 0)) (A := ciL c.n c.r c.u w (2 ^ c.n) 0 0) (B := 0) (b := 10 ^ c.n) (by omega) (by decide) (by rw [pk_sub (Nat.zero_le _)]; rfl) h10p (by omega) v c m
    refine ⟨R, (c.zfa X).zfz Y, m, ?_, ?_, h⟩
    · rw [if_pos hg, hA0_8, bd_some, hA0_1, bd_some, gp_pos hO3, eCi hg3 hr hu hw, bd2_some, hA0_1, bd_some, gp_pos hO3, eCa hg3 hn, bd2_some, gp_pos hO21, p1, bd2_some, hA0_8, bd_some, gp_pos hO21, p2, bd2_some]
    · rw [rg_inL (l := 0) (h := 10) (a := 0) (b := 10) rfl rfl (by decide) (by decide), bd2_some, hg, if_neg b01_1, hA22_2, bd_some, ml0 (ok_ml h _), bd_some, shl1 (by omega), Nat.one_shiftLeft, show nI (2 ^ c.n) - 1 = nI (2 ^ c.n - 1) from pk_sub (b := 1) (Nat.two_pow_pos _)]
      exact mOpL (ok_ml h _) hr hu hw p3 (2 ^ c.n) 0 4096 0 (by omega) (by omega) rfl
  · refine ⟨-2, c, m, ?_, ?_, h⟩
    · rw [if_neg hg]
    · rw [rg_inL (l := 0) (h := 10) (a := 0) (b := 10) rfl rfl (by decide) (by decide), bd2_some, rgF hg, if_pos b01_f]
