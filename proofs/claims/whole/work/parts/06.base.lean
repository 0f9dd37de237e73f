/-! Binds of the printed functions, switches, the copy. -/
def bd {α β : Type} (a : Option α) (f : α → Option β) : Option β := match a with
  | some x => f x
  | none => none
def bd2 {α β γ : Type} (a : Option (α × β)) (f : α → β → Option γ) : Option γ := match a with
  | some q => f q.1 q.2
  | none => none
def gp {β : Type} (p : Prop) [Decidable p] (x : Option β) : Option β := if p then x else none
theorem bd_some {α β : Type} (x : α) (f : α → Option β) : bd (some x) f = f x := rfl
theorem bd2_some {α β γ : Type} (x : α) (y : β) (f : α → β → Option γ) : bd2 (some (x, y)) f = f x y := rfl
theorem gp_pos {β : Type} {p : Prop} [Decidable p] {x : Option β} (h : p) : gp p x = x := if_pos h
theorem bd_inv {α β : Type} {a : Option α} {f : α → Option β} {r : β} (h : bd a f = some r) : ∃ x, a = some x ∧ f x = some r := by
  cases a with
  | none => cases h
  | some x => exact ⟨x, rfl, h⟩
theorem bd2_inv {α β γ : Type} {a : Option (α × β)} {f : α → β → Option γ} {r : γ} (h : bd2 a f = some r) : ∃ x y, a = some (x, y) ∧ f x y = some r := by
  cases a with
  | none => cases h
  | some x => exact ⟨x.1, x.2, rfl, h⟩
theorem gp_inv {β : Type} {p : Prop} [Decidable p] {x : Option β} {r : β} (h : gp p x = some r) : p ∧ x = some r := by
  unfold gp at h
  split at h
  · rename_i hp
    exact ⟨hp, h⟩
  · cases h
theorem nar_bool {v : Int32} (h : v = 0 ∨ v = 1) : narrow .boolean (.int v) = .int v := by
  rcases h with rfl | rfl <;> rfl
theorem sw_out {x : Int32} {lo hi : Int} (h : ∀ k : Int, lo ≤ k → k ≤ hi → x.toInt ≠ k) : x.toInt < lo ∨ hi < x.toInt := by
  rcases Int.lt_or_le x.toInt lo with h1 | h1
  · exact Or.inl h1
  · rcases Int.lt_or_le hi x.toInt with h2 | h2
    · exact Or.inr h2
    · exact absurd rfl (h x.toInt h1 h2)
def cpI (H : Hp) (k : Nat) (sp dp n : Int32) : Option Hp := match H[k]? with
  | some (.inl a) => match Nat.beq a.1 0, a.2.2 with
    | true, .inl f => if sp < 0 ∨ dp < 0 ∨ n < 0 ∨ a.2.1 < sp.toNatClampNeg + n.toNatClampNeg ∨ a.2.1 < dp.toNatClampNeg + n.toNatClampNeg then none else some (H.set k (.inl (0, a.2.1, .inl (va_cpy f f sp.toNatClampNeg dp.toNatClampNeg n.toNatClampNeg))))
    | _, _ => none
  | _ => none
theorem cpI_inv {H H' : Hp} {k : Nat} {sp dp n : Int32} (h : cpI H k sp dp n = some H') : ∃ N f, H[k]? = some (.inl (0, N, .inl f)) ∧ (¬ sp < 0 ∧ ¬ dp < 0 ∧ ¬ n < 0 ∧ sp.toNatClampNeg + n.toNatClampNeg ≤ N ∧ dp.toNatClampNeg + n.toNatClampNeg ≤ N) ∧ H' = H.set k (.inl (0, N, .inl (va_cpy f f sp.toNatClampNeg dp.toNatClampNeg n.toNatClampNeg))) := by
  unfold cpI at h
  split at h
  · rename_i a ha
    split at h
    · rename_i f h1 h2
      split at h
      · cases h
      · rename_i hi
        cases h
        have h1 := Nat.eq_of_beq_eq_true h1
        obtain ⟨a1, a2, a3⟩ := a
        cases h2
        cases h1
        refine ⟨_, _, ha, ⟨fun q => hi (Or.inl q), fun q => hi (Or.inr (Or.inl q)), fun q => hi (Or.inr (Or.inr (Or.inl q))), Nat.not_lt.mp (fun q => hi (Or.inr (Or.inr (Or.inr (Or.inl q))))), Nat.not_lt.mp (fun q => hi (Or.inr (Or.inr (Or.inr (Or.inr q)))))⟩, rfl⟩
    · cases h
  · cases h
theorem sn_copy {G : GG} {T : Md} {M : Mt} {pc : Nat} {L : LL} {st : List Value} {H H1 : Hp} {k idx : Nat} {sp dp n : Int32} (hd : decode M.2.1 pc = .ok (.invokestatic idx, 3)) (hlk : Cond.methodLink M.1.cls idx arraycopyName ∈ gW) (hnat : Cond.native arraycopyName ∈ gW) (hstat : Cond.static arraycopyName ∈ gW) (hini : Cond.initialized "java/lang/System" ∈ gW) (hroom : 1 ≤ M.2.2.2.2.1 ∧ (st.map fun v => v.category).sum + (nativeFrameWords "java/lang/System" "arraycopy" 5 + 11) ≤ M.2.2.2.2.2) (hc : cpI H k sp dp n = some H1) (kk : Sn G T M (pc + 3) L st H1) : Sn G T M pc L (.int n :: .int dp :: .ref k :: .int sp :: .ref k :: st) H := by
  intro p l e R s m args below meth cd hp locs ls X hP hH hS hl hL
  obtain ⟨hx, hb, hml, -, -, hown, hts, hE, hA, hfr, hlo, -, -, hinj, -⟩ := id X
  obtain ⟨N, f, h1, ⟨g1, g2, g3, g4, g5⟩, rfl⟩ := cpI_inv hc
  have he : (cw G H)[k]? = some (G.2.1 k, .inl (G.2.2.1 0, N, .inl f)) := cw_get h1
  refine va_copyi (rest := List.map (cv G.2.1) st) hx hb (hml.trans hl.1.symm) hown (hts _ hlk) (hts _ hnat) (hts _ hstat) (hts _ hini) hE.1 hP (cw_D hinj hH hA) hS k k 0 0 he he rfl rfl rfl g1 g2 g3 g4 g5 (fun _ _ => rfl) (Nat.le_trans hroom.1 hfr) (by rw [cv_sum]; exact Nat.le_trans hroom.2 hlo) hd (fun hp1 locs1 hP1 hD1 hS1 => ?_)
  have hset : (cw G H).set k (G.2.1 k, .inl (G.2.2.1 0, N, .inl (va_cpy f f sp.toNatClampNeg dp.toNatClampNeg n.toNatClampNeg))) = cw G (H.set k (.inl (0, N, .inl (va_cpy f f sp.toNatClampNeg dp.toNatClampNeg n.toNatClampNeg)))) := cw_set G H k (.inl (0, N, .inl (va_cpy f f sp.toNatClampNeg dp.toNatClampNeg n.toNatClampNeg)))
  rw [hset] at hP1
  exact kk p l e R s m args below meth cd hp1 locs1 ls X hP1 (by rw [List.length_set]; exact hH) hS1 hl hL
-- Math's own
theorem wm_max : Cond.static Lib.Math.max.name ∈ gW ∧ Cond.initialized "java/lang/Math" ∈ gW ∧ Cond.code Lib.Math.max.name Lib.Math.max.code 2 (some .int) ∈ gW := ⟨gW_at 333 (by decide +kernel), gW_at 41 (by decide +kernel), gW_at 334 (by decide +kernel)⟩
theorem wm_abs : Cond.static Lib.Math.abs.name ∈ gW ∧ Cond.initialized "java/lang/Math" ∈ gW ∧ Cond.code Lib.Math.abs.name Lib.Math.abs.code 1 (some .int) ∈ gW := ⟨gW_at 557 (by decide +kernel), gW_at 41 (by decide +kernel), gW_at 558 (by decide +kernel)⟩
theorem wm_min : Cond.static Lib.MathLoose.min_long.x ∈ gW ∧ Cond.initialized "java/lang/Math" ∈ gW ∧ Cond.code Lib.MathLoose.min_long.x Lib.MathLoose.min_long.code 4 (some .long) ∈ gW := ⟨gW_at 434 (by decide +kernel), gW_at 41 (by decide +kernel), gW_at 435 (by decide +kernel)⟩
theorem sn_mmax {G : GG} {T : Md} {M : Mt} {pc : Nat} {L : LL} {st : List Value} {H : Hp} {idx : Nat} {x y : Int32} (hd : decode M.2.1 pc = .ok (.invokestatic idx, 3)) (hlk : Cond.methodLink M.1.cls idx Lib.Math.max.name ∈ gW) (hroom : 1 ≤ M.2.2.2.2.1 ∧ 8 + 15 ≤ M.2.2.2.2.2) (hst : Nat.ble ((st.map fun v => v.category).sum) 8 = true) (kk : Sn G T M (pc + 3) L (.int (if x < y then y else x) :: st) H) : Sn G T M pc L (.int y :: .int x :: st) H := by
  intro p l e R s m args below meth cd hp locs ls X hP hH hS hl hL
  obtain ⟨hx, hb, hml, -, -, hown, hts, hE, hA, hfr, hlo, hce, hsl, hinj, -⟩ := id X
  have h8 := Nat.le_of_ble_eq_true hst
  exact va_mmax (rest := List.map (cv G.2.1) st) hx hb (hml.trans hl.1.symm) hown (hts _ hlk) (hts _ wm_max.1) (hts _ wm_max.2.1) (hts _ wm_max.2.2) (Nat.le_trans hroom.1 hfr) (by rw [cv_sum]; omega) hce hsl hd (kk p l e R s m args below meth cd hp locs ls X hP hH hS hl hL)
theorem sn_mabs {G : GG} {T : Md} {M : Mt} {pc : Nat} {L : LL} {st : List Value} {H : Hp} {idx : Nat} {x : Int32} (hd : decode M.2.1 pc = .ok (.invokestatic idx, 3)) (hlk : Cond.methodLink M.1.cls idx Lib.Math.abs.name ∈ gW) (hroom : 1 ≤ M.2.2.2.2.1 ∧ 8 + 15 ≤ M.2.2.2.2.2) (hst : Nat.ble ((st.map fun v => v.category).sum) 8 = true) (kk : Sn G T M (pc + 3) L (.int (if 0 ≤ x then x else 0 - x) :: st) H) : Sn G T M pc L (.int x :: st) H := by
  intro p l e R s m args below meth cd hp locs ls X hP hH hS hl hL
  obtain ⟨hx, hb, hml, -, -, hown, hts, hE, hA, hfr, hlo, hce, hsl, hinj, -⟩ := id X
  have h8 := Nat.le_of_ble_eq_true hst
  exact va_mabs (rest := List.map (cv G.2.1) st) hx hb (hml.trans hl.1.symm) hown (hts _ hlk) (hts _ wm_abs.1) (hts _ wm_abs.2.1) (hts _ wm_abs.2.2) (Nat.le_trans hroom.1 hfr) (by rw [cv_sum]; omega) hce hsl hd (kk p l e R s m args below meth cd hp locs ls X hP hH hS hl hL)
theorem sn_mmin {G : GG} {T : Md} {M : Mt} {pc : Nat} {L : LL} {st : List Value} {H : Hp} {idx : Nat} {x y : Int64} (hd : decode M.2.1 pc = .ok (.invokestatic idx, 3)) (hlk : Cond.methodLink M.1.cls idx Lib.MathLoose.min_long.x ∈ gW) (hroom : 1 ≤ M.2.2.2.2.1 ∧ 8 + 15 ≤ M.2.2.2.2.2) (hst : Nat.ble ((st.map fun v => v.category).sum) 8 = true) (kk : Sn G T M (pc + 3) L (.long (if y < x then y else x) :: st) H) : Sn G T M pc L (.long y :: .long x :: st) H := by
  intro p l e R s m args below meth cd hp locs ls X hP hH hS hl hL
  obtain ⟨hx, hb, hml, -, -, hown, hts, hE, hA, hfr, hlo, hce, hsl, hinj, -⟩ := id X
  have h8 := Nat.le_of_ble_eq_true hst
  exact va_mmin_long (rest := List.map (cv G.2.1) st) hx hb (hml.trans hl.1.symm) hown (hts _ hlk) (hts _ wm_min.1) (hts _ wm_min.2.1) (hts _ wm_min.2.2) (Nat.le_trans hroom.1 hfr) (by rw [cv_sum]; omega) hce hsl hd (kk p l e R s m args below meth cd hp locs ls X hP hH hS hl hL)
