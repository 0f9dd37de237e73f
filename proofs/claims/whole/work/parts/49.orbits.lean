/-! Orbits: all names of one orbit have the same orbit. -/
theorem orbB_cong {f g f' g' : Nat → Nat} {M : List Nat} (h : ∀ y ∈ M, (f y = f' y ∧ g y = g' y) ∧ f' y ∈ M ∧ g' y ∈ M) : ∀ (d k : Nat) (L : List Nat), (∀ y ∈ L, y ∈ M) → orbB f g d k L = orbB f' g' d k L
  | 0, _, _, _ => rfl
  | d + 1, k, L, hL => by
    by_cases hk : k < L.length
    · obtain ⟨⟨e1, e2⟩, m1, m2⟩ := h _ (hL _ (getD_mem hk))
      rw [orbB_step _ _ _ hk, orbB_step _ _ _ hk, e1, e2]
      refine orbB_cong h d (k + 1) _ (fun y hy => ?_)
      rw [adL_mem, adL_mem] at hy
      rcases hy with (hy | rfl) | rfl
      · exact hL y hy
      · exact m1
      · exact m2
    · rw [orbB_end _ _ _ (by omega), orbB_end _ _ _ (by omega)]
theorem orbB_LM {f g : Nat → Nat} {M : List Nat} (h : ∀ y ∈ M, f y ∈ M ∧ g y ∈ M) : ∀ (d k : Nat) (L : List Nat), LM M L → LM M (orbB f g d k L)
  | 0, _, _, hL => hL
  | d + 1, k, L, hL => by
    by_cases hk : k < L.length
    · have hm := h _ (hL.2 _ (getD_mem hk))
      rw [orbB_step _ _ _ hk]
      exact orbB_LM h d (k + 1) _ (adL_LM (adL_LM hL hm.1) hm.2)
    · rw [orbB_end _ _ _ (by omega)]
      exact hL
theorem orbB_sub {f g : Nat → Nat} {x : Nat} : ∀ (d k : Nat) (L : List Nat), x ∈ L → x ∈ orbB f g d k L
  | 0, _, _, hL => hL
  | d + 1, k, L, hL => by
    by_cases hk : k < L.length
    · rw [orbB_step _ _ _ hk]
      exact orbB_sub d (k + 1) _ (adL_mem.mpr (.inl (adL_mem.mpr (.inl hL))))
    · rw [orbB_end _ _ _ (by omega)]
      exact hL
theorem orbN_T {m x : Nat} (h : x ∈ T m) : orbN m x = orbB (sdT 0 m) (sdT 1 m) 129 0 [x] := orbB_cong (M := T m) (fun y hy => T_sh hy) 129 0 [x] (fun y hy => by rw [List.mem_singleton] at hy; rw [hy]; exact h)
theorem T_sh2 {m y : Nat} (h : y ∈ T m) : shN 0 m y ∈ T m ∧ shN 1 m y ∈ T m := by
  obtain ⟨⟨e1, e2⟩, m1, m2⟩ := T_sh h
  rw [e1, e2]
  exact ⟨m1, m2⟩
theorem LM_one {m x : Nat} (h : x ∈ T m) : LM (T m) [x] := ⟨by simp, fun y hy => by rw [List.mem_singleton] at hy; rw [hy]; exact h⟩
theorem orbN_LM {m x : Nat} (h : x ∈ T m) : LM (T m) (orbN m x) := orbB_LM (fun y hy => T_sh2 hy) 129 0 [x] (LM_one h)
theorem orbN_self (m x : Nat) : x ∈ orbN m x := orbB_sub 129 0 [x] List.mem_cons_self
theorem orbN_len {m x : Nat} (h : x ∈ T m) : (orbN m x).length ≤ 97 ∧ 0 < (orbN m x).length := ⟨Nat.le_trans (LM_len (orbN_LM h)) (T_len m (by have := T_m h; omega)), List.length_pos_of_mem (orbN_self m x)⟩
def FN (m x : Nat) : List Nat := (orbN m x).map (fun y => (orbN m x).idxOf (shN 0 m y))
def oeT : Nat → List OE
  | 1 => oe1
  | 2 => oe2
  | 3 => oe3
  | 4 => oe4
  | 5 => oe5
  | _ => []
theorem oe_fst : ∀ m, m < 6 → (oeT m).map (fun e => e.1) = T m := by decide +kernel
theorem ckO_app {m : Nat} {A B : List OE} (h1 : ckO m A = true) (h2 : ckO m B = true) : ckO m (A ++ B) = true := by
  unfold ckO at h1 h2 ⊢
  rw [List.all_append, h1, h2]
  rfl
theorem oe_ck {m : Nat} (h1 : 1 ≤ m) (h5 : m ≤ 5) : ckO m (oeT m) = true := by
  have : m = 1 ∨ m = 2 ∨ m = 3 ∨ m = 4 ∨ m = 5 := by omega
  rcases this with rfl | rfl | rfl | rfl | rfl
  · exact ckO1_0
  · exact ckO2_0
  · exact ckO3_0
  · exact ckO_app ckO4_0 ckO4_1
  · exact ckO_app (ckO_app (ckO_app ckO5_0 ckO5_1) ckO5_2) ckO5_3
def ckP (E : List OE) : Bool := E.all fun e => (e.2.2.1.all fun i => Nat.blt i e.2.2.2.2.1) && E.all fun e' => (Nat.beq e.2.2.2.1 e'.2.2.2.1 == e.2.1.contains e'.1) && (!(Nat.beq e.2.2.2.1 e'.2.2.2.1) || (Nat.beq e.2.2.2.2.1 e'.2.2.2.2.1 && (Nat.beq e.2.2.2.2.2.1 e'.2.2.2.2.2.1 && Nat.beq e.2.2.2.2.2.2 e'.2.2.2.2.2.2)))
theorem ckP_ck : (allN 6 fun m => ckP (oeT m)) = true := by decide +kernel
theorem oe_at {m x : Nat} (h : x ∈ T m) : ∃ e ∈ oeT m, e.1 = x ∧ orbN m x = e.2.1 ∧ FN m x = e.2.2.1 ∧ (orbN m x).length = e.2.2.2.2.1 ∧ cuC (FN m x) (orbN m x).length (orbN m x).length 0 0 = e.2.2.2.2.2.1 ∧ cuM (FN m x) (orbN m x).length 0 0 = e.2.2.2.2.2.1 ∧ wiC (FN m x) (orbN m x).length (orbN m x).length 0 0 = e.2.2.2.2.2.2 ∧ wiM (FN m x) (orbN m x).length 0 0 = e.2.2.2.2.2.2 := by
  have hm := T_m h
  have h2 := h
  rw [← oe_fst m (by omega)] at h2
  obtain ⟨e, he, hx⟩ := List.mem_map.mp h2
  have hx : e.1 = x := hx
  have q := List.all_eq_true.mp (oe_ck hm.1 hm.2) e he
  rw [Bool.and_eq_true, Bool.and_eq_true, Bool.and_eq_true, Bool.and_eq_true, Bool.and_eq_true, Bool.and_eq_true] at q
  obtain ⟨q1, q2, q3, q4, q5, q6, q7⟩ := q
  have q1 := of_decide_eq_true q1
  have q2 := of_decide_eq_true q2
  have q3 := Nat.eq_of_beq_eq_true q3
  have eo : orbN m x = e.2.1 := by rw [orbN_T h, ← hx]; exact q1
  have ef : FN m x = e.2.2.1 := by
    unfold FN
    rw [← q2, eo]
    refine List.map_congr_left (fun y hy => ?_)
    rw [← eo] at hy
    rw [(T_sh ((orbN_LM h).2 y hy)).1.1]
  have el : (orbN m x).length = e.2.2.2.2.1 := by rw [eo]; exact q3
  refine ⟨e, he, hx, eo, ef, el, ?_, ?_, ?_, ?_⟩
  · rw [ef, el]; exact Nat.eq_of_beq_eq_true q4
  · rw [ef, el]; exact Nat.eq_of_beq_eq_true q5
  · rw [ef, el]; exact Nat.eq_of_beq_eq_true q6
  · rw [ef, el]; exact Nat.eq_of_beq_eq_true q7
theorem beq_sym {a b : Nat} : Nat.beq a b = true ↔ a = b := ⟨Nat.eq_of_beq_eq_true, fun h => by rw [h]; exact Nat.beq_refl b⟩
/-- the class may hold another's orbit, if it is the same -/
theorem orb_same {m x y : Nat} (hy : y ∈ T m) (h : x ∈ orbN m y) : (orbN m y).length = (orbN m x).length ∧ cuC (FN m y) (orbN m y).length (orbN m y).length 0 0 = cuM (FN m x) (orbN m x).length 0 0 ∧ wiC (FN m y) (orbN m y).length (orbN m y).length 0 0 = wiM (FN m x) (orbN m x).length 0 0 ∧ ∀ z, z ∈ orbN m y ↔ z ∈ orbN m x := by
  have hx := (orbN_LM hy).2 x h
  have hm := T_m hx
  obtain ⟨a, ha, a1, a2, a3, a4, a5, a6, a7, a8⟩ := oe_at hy
  obtain ⟨b, hb, b1, b2, b3, b4, b5, b6, b7, b8⟩ := oe_at hx
  have ck := allN_at ckP_ck m (by omega)
  have key : ∀ e ∈ oeT m, ∀ e' ∈ oeT m, (e'.1 ∈ e.2.1 ↔ e.2.2.2.1 = e'.2.2.2.1) ∧ (e.2.2.2.1 = e'.2.2.2.1 → e.2.2.2.2.1 = e'.2.2.2.2.1 ∧ e.2.2.2.2.2.1 = e'.2.2.2.2.2.1 ∧ e.2.2.2.2.2.2 = e'.2.2.2.2.2.2) := by
    intro e he e' he'
    have q := List.all_eq_true.mp ck e he
    rw [Bool.and_eq_true] at q
    have q := List.all_eq_true.mp q.2 e' he'
    rw [Bool.and_eq_true] at q
    have q1 : Nat.beq e.2.2.2.1 e'.2.2.2.1 = e.2.1.contains e'.1 := eq_of_beq q.1
    refine ⟨?_, fun hq => ?_⟩
    · rw [← beq_sym, q1, List.contains_iff_mem]
    · have q2 := q.2
      rw [beq_sym.mpr hq, Bool.not_true, Bool.false_or, Bool.and_eq_true, Bool.and_eq_true] at q2
      exact ⟨Nat.eq_of_beq_eq_true q2.1, Nat.eq_of_beq_eq_true q2.2.1, Nat.eq_of_beq_eq_true q2.2.2⟩
  have hr : a.2.2.2.1 = b.2.2.2.1 := by
    refine (key a ha b hb).1.mp ?_
    rw [b1, ← a2]
    exact h
  obtain ⟨k1, k2, k3⟩ := (key a ha b hb).2 hr
  refine ⟨by rw [a4, b4, k1], by rw [a5, b6, k2], by rw [a7, b8, k3], fun z => ?_⟩
  constructor
  · intro hz
    obtain ⟨e, he, e1, _⟩ := oe_at ((orbN_LM hy).2 z hz)
    rw [a2, ← e1] at hz
    rw [b2, ← e1]
    refine (key b hb e he).1.mpr ?_
    rw [← hr]
    exact (key a ha e he).1.mp hz
  · intro hz
    obtain ⟨e, he, e1, _⟩ := oe_at ((orbN_LM hx).2 z hz)
    rw [b2, ← e1] at hz
    rw [a2, ← e1]
    refine (key a ha e he).1.mpr ?_
    rw [hr]
    exact (key b hb e he).1.mp hz
theorem FN_lt {m x i : Nat} (hx : x ∈ T m) (hi : i < (orbN m x).length) : (FN m x).getD i 0 < (orbN m x).length := by
  have hm := T_m hx
  obtain ⟨a, ha, a1, a2, a3, a4, _⟩ := oe_at hx
  have q := List.all_eq_true.mp (allN_at ckP_ck m (by omega)) a ha
  rw [Bool.and_eq_true] at q
  have hl : (FN m x).length = (orbN m x).length := by unfold FN; rw [List.length_map]
  have hg : (FN m x).getD i 0 ∈ FN m x := getD_mem (by omega)
  have hg2 := hg
  rw [a3] at hg2
  rw [a4]
  have := List.all_eq_true.mp q.1 _ hg2
  rw [← a3] at this
  exact Nat.le_of_ble_eq_true this
theorem FN_at {m x i : Nat} (hi : i < (orbN m x).length) : (FN m x).getD i 0 = (orbN m x).idxOf (shN 0 m ((orbN m x).getD i 0)) := by
  unfold FN
  exact mp_get hi
