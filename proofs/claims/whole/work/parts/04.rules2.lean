/-! Rules for branches, divisions, constants, heap, calls, returns. -/
def rI (x y : Int32) : Int32 := x - x / y * y
def rJ (x y : Int64) : Int64 := x - x / y * y
-- reads and writes of abstract cells
def gI (H : Hp) (k ci j : Nat) : Option Int32 := match H[k]? with
  | some (.inr o) => match Nat.beq o.1 ci, o.2[j]? with
    | true, some (.int x) => some x
    | _, _ => none
  | _ => none
def gJ (H : Hp) (k ci j : Nat) : Option Int64 := match H[k]? with
  | some (.inr o) => match Nat.beq o.1 ci, o.2[j]? with
    | true, some (.long x) => some x
    | _, _ => none
  | _ => none
def gA (H : Hp) (k ci j : Nat) : Option Nat := match H[k]? with
  | some (.inr o) => match Nat.beq o.1 ci, o.2[j]? with
    | true, some (.ref x) => some x
    | _, _ => none
  | _ => none
def pV (H : Hp) (k ci j : Nat) (v : Value) : Option Hp := match H[k]? with
  | some (.inr o) => match Nat.beq o.1 ci, o.2[j]? with
    | true, some _ => some (H.set k (.inr (ci, o.2.set j v)))
    | _, _ => none
  | _ => none
/-- is there an object of the class at this place -/
def isO (H : Hp) (k ci : Nat) : Bool := match H[k]? with
  | some (.inr o) => Nat.beq o.1 ci
  | _ => false
def aI (H : Hp) (k t : Nat) (i : Int32) : Option Int32 := match H[k]? with
  | some (.inl a) => match Nat.beq a.1 t, a.2.2 with
    | true, .inl f => if i < 0 ∨ a.2.1 ≤ i.toNatClampNeg then none else some (f i.toNatClampNeg)
    | _, _ => none
  | _ => none
def aJ (H : Hp) (k : Nat) (i : Int32) : Option Int64 := match H[k]? with
  | some (.inl a) => match Nat.beq a.1 1, a.2.2 with
    | true, .inr (.inl f) => if i < 0 ∨ a.2.1 ≤ i.toNatClampNeg then none else some (f i.toNatClampNeg)
    | _, _ => none
  | _ => none
def sI (H : Hp) (k t : Nat) (i x : Int32) : Option Hp := match H[k]? with
  | some (.inl a) => match Nat.beq a.1 t, a.2.2 with
    | true, .inl f => if i < 0 ∨ a.2.1 ≤ i.toNatClampNeg then none else some (H.set k (.inl (t, a.2.1, .inl (upd f i.toNatClampNeg x))))
    | _, _ => none
  | _ => none
def sJ (H : Hp) (k : Nat) (i : Int32) (x : Int64) : Option Hp := match H[k]? with
  | some (.inl a) => match Nat.beq a.1 1, a.2.2 with
    | true, .inr (.inl f) => if i < 0 ∨ a.2.1 ≤ i.toNatClampNeg then none else some (H.set k (.inl (1, a.2.1, .inr (.inl (vp_updL f i.toNatClampNeg x)))))
    | _, _ => none
  | _ => none
theorem gI_inv {H : Hp} {k ci j : Nat} {x : Int32} (h : gI H k ci j = some x) : ∃ fs, H[k]? = some (.inr (ci, fs)) ∧ fs[j]? = some (.int x) := by
  unfold gI at h
  split at h
  · rename_i o ho
    split at h
    · rename_i y h1 h2
      cases h
      have h1 := Nat.eq_of_beq_eq_true h1
      subst h1
      exact ⟨_, ho, h2⟩
    · cases h
  · cases h
theorem gJ_inv {H : Hp} {k ci j : Nat} {x : Int64} (h : gJ H k ci j = some x) : ∃ fs, H[k]? = some (.inr (ci, fs)) ∧ fs[j]? = some (.long x) := by
  unfold gJ at h
  split at h
  · rename_i o ho
    split at h
    · rename_i y h1 h2
      cases h
      have h1 := Nat.eq_of_beq_eq_true h1
      subst h1
      exact ⟨_, ho, h2⟩
    · cases h
  · cases h
theorem gA_inv {H : Hp} {k ci j : Nat} {x : Nat} (h : gA H k ci j = some x) : ∃ fs, H[k]? = some (.inr (ci, fs)) ∧ fs[j]? = some (.ref x) := by
  unfold gA at h
  split at h
  · rename_i o ho
    split at h
    · rename_i y h1 h2
      cases h
      have h1 := Nat.eq_of_beq_eq_true h1
      subst h1
      exact ⟨_, ho, h2⟩
    · cases h
  · cases h
theorem pV_inv {H H' : Hp} {k ci j : Nat} {v : Value} (h : pV H k ci j v = some H') : ∃ fs, H[k]? = some (.inr (ci, fs)) ∧ j < fs.length ∧ H' = H.set k (.inr (ci, fs.set j v)) := by
  unfold pV at h
  split at h
  · rename_i o ho
    split at h
    · rename_i y h1 h2
      cases h
      have h1 := Nat.eq_of_beq_eq_true h1
      subst h1
      exact ⟨_, ho, (List.getElem?_eq_some_iff.mp h2).1, rfl⟩
    · cases h
  · cases h
theorem isO_inv {H : Hp} {k ci : Nat} (h : isO H k ci = true) : ∃ fs, H[k]? = some (.inr (ci, fs)) := by
  unfold isO at h
  split at h
  · rename_i o ho
    have h1 := Nat.eq_of_beq_eq_true h
    subst h1
    exact ⟨_, ho⟩
  · cases h
theorem aI_inv {H : Hp} {k t : Nat} {i x : Int32} (h : aI H k t i = some x) : ∃ n f, H[k]? = some (.inl (t, n, .inl f)) ∧ vp_in i n ∧ x = f i.toNatClampNeg := by
  unfold aI at h
  split at h
  · rename_i a ha
    split at h
    · rename_i f h1 h2
      split at h
      · cases h
      · rename_i hi
        cases h
        have h1 := Nat.eq_of_beq_eq_true h1
        subst h1
        obtain ⟨a1, a2, a3⟩ := a
        cases h2
        exact ⟨_, _, ha, hi, rfl⟩
    · cases h
  · cases h
theorem aJ_inv {H : Hp} {k : Nat} {i : Int32} {x : Int64} (h : aJ H k i = some x) : ∃ n f, H[k]? = some (.inl (1, n, .inr (.inl f))) ∧ vp_in i n ∧ x = f i.toNatClampNeg := by
  unfold aJ at h
  split at h
  · rename_i a ha
    split at h
    · rename_i f h1 h2
      split at h
      · cases h
      · rename_i hi
        cases h
        have h1 := Nat.eq_of_beq_eq_true h1
        obtain ⟨a1, a2, a3⟩ := a
        cases h2
        cases h1
        exact ⟨_, _, ha, hi, rfl⟩
    · cases h
  · cases h
theorem sI_inv {H H' : Hp} {k t : Nat} {i x : Int32} (h : sI H k t i x = some H') : ∃ n f, H[k]? = some (.inl (t, n, .inl f)) ∧ vp_in i n ∧ H' = H.set k (.inl (t, n, .inl (upd f i.toNatClampNeg x))) := by
  unfold sI at h
  split at h
  · rename_i a ha
    split at h
    · rename_i f h1 h2
      split at h
      · cases h
      · rename_i hi
        cases h
        have h1 := Nat.eq_of_beq_eq_true h1
        subst h1
        obtain ⟨a1, a2, a3⟩ := a
        cases h2
        exact ⟨_, _, ha, hi, rfl⟩
    · cases h
  · cases h
theorem sJ_inv {H H' : Hp} {k : Nat} {i : Int32} {x : Int64} (h : sJ H k i x = some H') : ∃ n f, H[k]? = some (.inl (1, n, .inr (.inl f))) ∧ vp_in i n ∧ H' = H.set k (.inl (1, n, .inr (.inl (vp_updL f i.toNatClampNeg x)))) := by
  unfold sJ at h
  split at h
  · rename_i a ha
    split at h
    · rename_i f h1 h2
      split at h
      · cases h
      · rename_i hi
        cases h
        have h1 := Nat.eq_of_beq_eq_true h1
        obtain ⟨a1, a2, a3⟩ := a
        cases h2
        cases h1
        exact ⟨_, _, ha, hi, rfl⟩
    · cases h
  · cases h
/-- a field of a class, as a method of 'own' spells it -/
def FOk (own : String) (idx ci j : Nat) : Prop := ∃ (C : String) (Tf : u_T) (N : Nat) (ty0 : Nat → FieldType), vwCl[ci]? = some (C, Tf, N) ∧ j < N ∧ (∀ w ∈ u_ws C Tf N, w ∈ gW) ∧ (∀ k, k < N → parseFieldDescriptor (Tf k).2.2.1 = some (ty0 k)) ∧ (∀ a, a < N → ∀ b, b < N → a ≠ b → (Tf a).2.1 ≠ (Tf b).2.1) ∧ (Cond.fieldLink own idx (Tf j).1 (Tf j).2.1 (Tf j).2.2.1 ∈ gW ∨ ∃ host, Cond.fieldLinkNest own idx (Tf j).1 (Tf j).2.1 (Tf j).2.2.1 host ∈ nW)
/-- one that may be written outside of a constructor, with an int or a long -/
def FPu (ci j : Nat) (ty : FieldType) : Prop := ∃ (C : String) (Tf : u_T) (N : Nat), vwCl[ci]? = some (C, Tf, N) ∧ (Tf j).2.2.2 = false ∧ parseFieldDescriptor (Tf j).2.2.1 = some ty
section RULES2
variable {G : GG} {T : Md} {M : Mt} {pc : Nat} {L L' : LL} {st st' : List Value} {H : Hp}
theorem sn_if_eq {x : Int32} {off : Int} {tgt : Nat} (hd : decode M.2.1 pc = .ok (.ifCond .eq off, 3)) (ht : (pc : Int) + off = (tgt : Int)) (kt : x = 0 → Sn G T M tgt L st H) (kf : ¬ x = 0 → Sn G T M (pc + 3) L st H) : Sn G T M pc L (.int x :: st) H := by
  intro p l e R s m args below meth cd hp locs ls X hP hH hS hl hL
  exact lv_if_eq (rest := List.map (cv G.2.1) st) X.1 X.2.1 hd ht (fun q => kt q p l e R s m args below meth cd hp locs ls X hP hH hS hl hL) (fun q => kf q p l e R s m args below meth cd hp locs ls X hP hH hS hl hL)
theorem sn_if_ne {x : Int32} {off : Int} {tgt : Nat} (hd : decode M.2.1 pc = .ok (.ifCond .ne off, 3)) (ht : (pc : Int) + off = (tgt : Int)) (kt : ¬ x = 0 → Sn G T M tgt L st H) (kf : x = 0 → Sn G T M (pc + 3) L st H) : Sn G T M pc L (.int x :: st) H := by
  intro p l e R s m args below meth cd hp locs ls X hP hH hS hl hL
  exact lv_if_ne (rest := List.map (cv G.2.1) st) X.1 X.2.1 hd ht (fun q => kt q p l e R s m args below meth cd hp locs ls X hP hH hS hl hL) (fun q => kf q p l e R s m args below meth cd hp locs ls X hP hH hS hl hL)
theorem sn_if_lt {x : Int32} {off : Int} {tgt : Nat} (hd : decode M.2.1 pc = .ok (.ifCond .lt off, 3)) (ht : (pc : Int) + off = (tgt : Int)) (kt : x < 0 → Sn G T M tgt L st H) (kf : ¬ x < 0 → Sn G T M (pc + 3) L st H) : Sn G T M pc L (.int x :: st) H := by
  intro p l e R s m args below meth cd hp locs ls X hP hH hS hl hL
  exact lv_if_lt (rest := List.map (cv G.2.1) st) X.1 X.2.1 hd ht (fun q => kt q p l e R s m args below meth cd hp locs ls X hP hH hS hl hL) (fun q => kf q p l e R s m args below meth cd hp locs ls X hP hH hS hl hL)
theorem sn_if_ge {x : Int32} {off : Int} {tgt : Nat} (hd : decode M.2.1 pc = .ok (.ifCond .ge off, 3)) (ht : (pc : Int) + off = (tgt : Int)) (kt : 0 ≤ x → Sn G T M tgt L st H) (kf : ¬ 0 ≤ x → Sn G T M (pc + 3) L st H) : Sn G T M pc L (.int x :: st) H := by
  intro p l e R s m args below meth cd hp locs ls X hP hH hS hl hL
  exact lv_if_ge (rest := List.map (cv G.2.1) st) X.1 X.2.1 hd ht (fun q => kt q p l e R s m args below meth cd hp locs ls X hP hH hS hl hL) (fun q => kf q p l e R s m args below meth cd hp locs ls X hP hH hS hl hL)
theorem sn_if_gt {x : Int32} {off : Int} {tgt : Nat} (hd : decode M.2.1 pc = .ok (.ifCond .gt off, 3)) (ht : (pc : Int) + off = (tgt : Int)) (kt : 0 < x → Sn G T M tgt L st H) (kf : ¬ 0 < x → Sn G T M (pc + 3) L st H) : Sn G T M pc L (.int x :: st) H := by
  intro p l e R s m args below meth cd hp locs ls X hP hH hS hl hL
  exact lv_if_gt (rest := List.map (cv G.2.1) st) X.1 X.2.1 hd ht (fun q => kt q p l e R s m args below meth cd hp locs ls X hP hH hS hl hL) (fun q => kf q p l e R s m args below meth cd hp locs ls X hP hH hS hl hL)
theorem sn_if_le {x : Int32} {off : Int} {tgt : Nat} (hd : decode M.2.1 pc = .ok (.ifCond .le off, 3)) (ht : (pc : Int) + off = (tgt : Int)) (kt : x ≤ 0 → Sn G T M tgt L st H) (kf : ¬ x ≤ 0 → Sn G T M (pc + 3) L st H) : Sn G T M pc L (.int x :: st) H := by
  intro p l e R s m args below meth cd hp locs ls X hP hH hS hl hL
  exact lv_if_le (rest := List.map (cv G.2.1) st) X.1 X.2.1 hd ht (fun q => kt q p l e R s m args below meth cd hp locs ls X hP hH hS hl hL) (fun q => kf q p l e R s m args below meth cd hp locs ls X hP hH hS hl hL)
theorem sn_icmp_eq {x y : Int32} {off : Int} {tgt : Nat} (hd : decode M.2.1 pc = .ok (.if_icmp .eq off, 3)) (ht : (pc : Int) + off = (tgt : Int)) (kt : x = y → Sn G T M tgt L st H) (kf : ¬ x = y → Sn G T M (pc + 3) L st H) : Sn G T M pc L (.int y :: .int x :: st) H := by
  intro p l e R s m args below meth cd hp locs ls X hP hH hS hl hL
  exact lv_icmp_eq (rest := List.map (cv G.2.1) st) X.1 X.2.1 hd ht (fun q => kt q p l e R s m args below meth cd hp locs ls X hP hH hS hl hL) (fun q => kf q p l e R s m args below meth cd hp locs ls X hP hH hS hl hL)
theorem sn_icmp_ne {x y : Int32} {off : Int} {tgt : Nat} (hd : decode M.2.1 pc = .ok (.if_icmp .ne off, 3)) (ht : (pc : Int) + off = (tgt : Int)) (kt : ¬ x = y → Sn G T M tgt L st H) (kf : x = y → Sn G T M (pc + 3) L st H) : Sn G T M pc L (.int y :: .int x :: st) H := by
  intro p l e R s m args below meth cd hp locs ls X hP hH hS hl hL
  exact lv_icmp_ne (rest := List.map (cv G.2.1) st) X.1 X.2.1 hd ht (fun q => kt q p l e R s m args below meth cd hp locs ls X hP hH hS hl hL) (fun q => kf q p l e R s m args below meth cd hp locs ls X hP hH hS hl hL)
theorem sn_icmp_lt {x y : Int32} {off : Int} {tgt : Nat} (hd : decode M.2.1 pc = .ok (.if_icmp .lt off, 3)) (ht : (pc : Int) + off = (tgt : Int)) (kt : x < y → Sn G T M tgt L st H) (kf : ¬ x < y → Sn G T M (pc + 3) L st H) : Sn G T M pc L (.int y :: .int x :: st) H := by
  intro p l e R s m args below meth cd hp locs ls X hP hH hS hl hL
  exact lv_icmp_lt (rest := List.map (cv G.2.1) st) X.1 X.2.1 hd ht (fun q => kt q p l e R s m args below meth cd hp locs ls X hP hH hS hl hL) (fun q => kf q p l e R s m args below meth cd hp locs ls X hP hH hS hl hL)
theorem sn_icmp_ge {x y : Int32} {off : Int} {tgt : Nat} (hd : decode M.2.1 pc = .ok (.if_icmp .ge off, 3)) (ht : (pc : Int) + off = (tgt : Int)) (kt : y ≤ x → Sn G T M tgt L st H) (kf : ¬ y ≤ x → Sn G T M (pc + 3) L st H) : Sn G T M pc L (.int y :: .int x :: st) H := by
  intro p l e R s m args below meth cd hp locs ls X hP hH hS hl hL
  exact lv_icmp_ge (rest := List.map (cv G.2.1) st) X.1 X.2.1 hd ht (fun q => kt q p l e R s m args below meth cd hp locs ls X hP hH hS hl hL) (fun q => kf q p l e R s m args below meth cd hp locs ls X hP hH hS hl hL)
theorem sn_icmp_gt {x y : Int32} {off : Int} {tgt : Nat} (hd : decode M.2.1 pc = .ok (.if_icmp .gt off, 3)) (ht : (pc : Int) + off = (tgt : Int)) (kt : y < x → Sn G T M tgt L st H) (kf : ¬ y < x → Sn G T M (pc + 3) L st H) : Sn G T M pc L (.int y :: .int x :: st) H := by
  intro p l e R s m args below meth cd hp locs ls X hP hH hS hl hL
  exact lv_icmp_gt (rest := List.map (cv G.2.1) st) X.1 X.2.1 hd ht (fun q => kt q p l e R s m args below meth cd hp locs ls X hP hH hS hl hL) (fun q => kf q p l e R s m args below meth cd hp locs ls X hP hH hS hl hL)
theorem sn_icmp_le {x y : Int32} {off : Int} {tgt : Nat} (hd : decode M.2.1 pc = .ok (.if_icmp .le off, 3)) (ht : (pc : Int) + off = (tgt : Int)) (kt : x ≤ y → Sn G T M tgt L st H) (kf : ¬ x ≤ y → Sn G T M (pc + 3) L st H) : Sn G T M pc L (.int y :: .int x :: st) H := by
  intro p l e R s m args below meth cd hp locs ls X hP hH hS hl hL
  exact lv_icmp_le (rest := List.map (cv G.2.1) st) X.1 X.2.1 hd ht (fun q => kt q p l e R s m args below meth cd hp locs ls X hP hH hS hl hL) (fun q => kf q p l e R s m args below meth cd hp locs ls X hP hH hS hl hL)
theorem sn_idiv {x y : Int32} (hd : decode M.2.1 pc = .ok (.idiv, 1)) (hy : ¬ y = 0) (k : Sn G T M (pc + 1) L (.int (x / y) :: st) H) : Sn G T M pc L (.int y :: .int x :: st) H := by
  intro p l e R s m args below meth cd hp locs ls X hP hH hS hl hL
  exact lv_idiv (rest := List.map (cv G.2.1) st) X.1 X.2.1 hd hy (k p l e R s m args below meth cd hp locs ls X hP hH hS hl hL)
theorem sn_irem {x y : Int32} (hd : decode M.2.1 pc = .ok (.irem, 1)) (hy : ¬ y = 0) (k : Sn G T M (pc + 1) L (.int (rI x y) :: st) H) : Sn G T M pc L (.int y :: .int x :: st) H := by
  intro p l e R s m args below meth cd hp locs ls X hP hH hS hl hL
  exact lv_irem (rest := List.map (cv G.2.1) st) X.1 X.2.1 hd hy (k p l e R s m args below meth cd hp locs ls X hP hH hS hl hL)
theorem sn_ldiv {x y : Int64} (hd : decode M.2.1 pc = .ok (.ldiv, 1)) (hy : ¬ y = 0) (k : Sn G T M (pc + 1) L (.long (x / y) :: st) H) : Sn G T M pc L (.long y :: .long x :: st) H := by
  intro p l e R s m args below meth cd hp locs ls X hP hH hS hl hL
  exact lv_ldiv (rest := List.map (cv G.2.1) st) X.1 X.2.1 hd hy (k p l e R s m args below meth cd hp locs ls X hP hH hS hl hL)
theorem sn_lrem {x y : Int64} (hd : decode M.2.1 pc = .ok (.lrem, 1)) (hy : ¬ y = 0) (k : Sn G T M (pc + 1) L (.long (rJ x y) :: st) H) : Sn G T M pc L (.long y :: .long x :: st) H := by
  intro p l e R s m args below meth cd hp locs ls X hP hH hS hl hL
  exact lv_lrem (rest := List.map (cv G.2.1) st) X.1 X.2.1 hd hy (k p l e R s m args below meth cd hp locs ls X hP hH hS hl hL)
theorem sn_ldcw {idx : Nat} {v : Int32} (hd : decode M.2.1 pc = .ok (.ldc_w idx, 3)) (hw : Cond.constant M.1.cls idx v ∈ gW) (k : Sn G T M (pc + 3) L (.int v :: st) H) : Sn G T M pc L st H := by
  intro p l e R s m args below meth cd hp locs ls X hP hH hS hl hL
  obtain ⟨hx, hb, -, -, -, hown, hts, -⟩ := id X
  exact lv_ldcw hx hb hown (hts _ hw) hd (k p l e R s m args below meth cd hp locs ls X hP hH hS hl hL)
theorem sn_ldc2 {idx : Nat} {v : Int64} (hd : decode M.2.1 pc = .ok (.ldc2_w idx, 3)) (hw : Cond.constantLong M.1.cls idx v ∈ gW) (k : Sn G T M (pc + 3) L (.long v :: st) H) : Sn G T M pc L st H := by
  intro p l e R s m args below meth cd hp locs ls X hP hH hS hl hL
  obtain ⟨hx, hb, -, -, -, hown, hts, -⟩ := id X
  exact lv_ldc2 hx hb hown (hts _ hw) hd (k p l e R s m args below meth cd hp locs ls X hP hH hS hl hL)
theorem sn_forget {L2 : LL} (h : ∀ (i : Nat) (v : Value), L2[i]? = some (some v) → L[i]? = some (some v)) (hl2 : L2.length = L.length) (k : Sn G T M pc L2 st H) : Sn G T M pc L st H := by
  intro p l e R s m args below meth cd hp locs ls X hP hH hS hl hL
  refine k p l e R s m args below meth cd hp locs ls X hP hH hS (lp_mono (ad := G.2.1) hl (fun q hq => ?_)) (by rw [hl2]; exact hL)
  obtain ⟨j, v, h1, h2⟩ := (lp_mem _ _ _).mp hq
  exact (lp_mem _ _ _).mpr ⟨j, v, h j v h1, h2⟩
/-- fewer known locals, by a mask -/
def mskL : List Bool → LL → LL
  | b :: bs, v :: l => (bif b then v else none) :: mskL bs l
  | _, l => l
theorem mskL_len : ∀ (bs : List Bool) (l : LL), (mskL bs l).length = l.length
  | b :: bs, v :: l => by simp [mskL, mskL_len bs l]
  | [], l => by simp [mskL]
  | _ :: _, [] => by simp [mskL]
theorem mskL_at : ∀ (bs : List Bool) (l : LL) (i : Nat) (v : Value), (mskL bs l)[i]? = some (some v) → l[i]? = some (some v)
  | b :: bs, w :: l, 0, v, h => by
    cases b <;> simp [mskL] at h ⊢
    exact h
  | b :: bs, w :: l, i + 1, v, h => by
    simp only [mskL, List.getElem?_cons_succ] at h ⊢
    exact mskL_at bs l i v h
  | [], l, i, v, h => by simpa [mskL] using h
  | _ :: _, [], i, v, h => by simpa [mskL] using h
theorem sn_msk (bs : List Bool) {L2 : LL} (he : mskL bs L = L2) (k : Sn G T M pc L2 st H) : Sn G T M pc L st H := by
  subst he
  exact sn_forget (fun i v h => mskL_at bs L i v h) (mskL_len bs L) k
theorem sn_get {idx ci j k : Nat} {fs : List Value} {v : Value} (hd : decode M.2.1 pc = .ok (.getfield idx, 3)) (hf : FOk M.1.cls idx ci j) (hk : H[k]? = some (.inr (ci, fs))) (hv : fs[j]? = some v) (kk : Sn G T M (pc + 3) L (v :: st) H) : Sn G T M pc L (.ref k :: st) H := by
  intro p l e R s m args below meth cd hp locs ls X hP hH hS hl hL
  obtain ⟨hx, hb, -, -, -, hown, hts, hE, -⟩ := id X
  obtain ⟨C, Tf, N, ty0, hc, hj, hin, hty, hnm, hlk⟩ := hf
  have he : (cw G H)[k]? = some (G.2.1 k, .inr (ci, fs.map (cv G.2.1))) := cw_get hk
  have hv' : (fs.map (cv G.2.1))[j]? = some (cv G.2.1 v) := by rw [List.getElem?_map, hv]; rfl
  rcases hlk with hlk | ⟨host, hlk⟩
  · exact va_get (rest := List.map (cv G.2.1) st) hx hb hts hin hown hE.1 hP k he hc j hj (hts _ hlk) (fun _ h9 => h9) hv' hd (kk p l e R s m args below meth cd hp locs ls X hP hH hS hl hL)
  · exact va_getN (rest := List.map (cv G.2.1) st) hx hb hts hin hown hE.1 hP k he hc j hj (va_Nw.use (nW_on hlk) (hE.2.1 _ hlk)) (fun _ h9 => h9) hv' hd (kk p l e R s m args below meth cd hp locs ls X hP hH hS hl hL)
theorem sn_gI {idx ci j k : Nat} {v : Int32} (hd : decode M.2.1 pc = .ok (.getfield idx, 3)) (hf : FOk M.1.cls idx ci j) (hk : gI H k ci j = some v) (kk : Sn G T M (pc + 3) L (.int v :: st) H) : Sn G T M pc L (.ref k :: st) H := by
  obtain ⟨fs, h1, h2⟩ := gI_inv hk
  exact sn_get hd hf h1 h2 kk
theorem sn_gJ {idx ci j k : Nat} {v : Int64} (hd : decode M.2.1 pc = .ok (.getfield idx, 3)) (hf : FOk M.1.cls idx ci j) (hk : gJ H k ci j = some v) (kk : Sn G T M (pc + 3) L (.long v :: st) H) : Sn G T M pc L (.ref k :: st) H := by
  obtain ⟨fs, h1, h2⟩ := gJ_inv hk
  exact sn_get hd hf h1 h2 kk
theorem sn_gA {idx ci j k : Nat} {v : Nat} (hd : decode M.2.1 pc = .ok (.getfield idx, 3)) (hf : FOk M.1.cls idx ci j) (hk : gA H k ci j = some v) (kk : Sn G T M (pc + 3) L (.ref v :: st) H) : Sn G T M pc L (.ref k :: st) H := by
  obtain ⟨fs, h1, h2⟩ := gA_inv hk
  exact sn_get hd hf h1 h2 kk
theorem set_cv (fs : List Value) (ad : Nat → Nat) (j : Nat) (v : Value) : (fs.map (cv ad)).set j (cv ad v) = (fs.set j v).map (cv ad) := (List.map_set).symm
theorem sn_put {idx ci j k : Nat} {ty : FieldType} {v : Value} {H1 : Hp} (hd : decode M.2.1 pc = .ok (.putfield idx, 3)) (hf : FOk M.1.cls idx ci j) (hpu : FPu ci j ty) (hn : narrow ty (cv G.2.1 v) = cv G.2.1 v) (hfit : fits ty (cv G.2.1 v) = true) (hk : pV H k ci j v = some H1) (kk : Sn G T M (pc + 3) L st H1) : Sn G T M pc L (v :: .ref k :: st) H := by
  intro p l e R s m args below meth cd hp locs ls X hP hH hS hl hL
  obtain ⟨hx, hb, -, -, -, hown, hts, hE, hA, -, -, -, -, hinj, -⟩ := id X
  obtain ⟨C, Tf, N, ty0, hc, hj, hin, hty, hnm, hlk⟩ := hf
  obtain ⟨C', Tf', N', hc', hfin, hd2⟩ := hpu
  cases hc.symm.trans hc'
  obtain ⟨fs, h1, h2, rfl⟩ := pV_inv hk
  have he : (cw G H)[k]? = some (G.2.1 k, .inr (ci, fs.map (cv G.2.1))) := cw_get h1
  have hD : va_D (T.2.2.1 s) (cw G H) := cw_D hinj hH hA
  have hset : (cw G H).set k (G.2.1 k, .inr (ci, (fs.map (cv G.2.1)).set j (cv G.2.1 v))) = cw G (H.set k (.inr (ci, fs.set j v))) := by
    rw [set_cv]
    exact cw_set G H k (.inr (ci, fs.set j v))
  rcases hlk with hlk | ⟨host, hlk⟩
  · refine va_put (rest := List.map (cv G.2.1) st) hx hb hts hin ty0 hty hnm hown hE.1 hP hD hS k he hc j hj (hts _ hlk) (fun _ h9 => h9) hfin hd2 hn hfit (by rw [List.length_map]; exact h2) hd (fun hp1 locs1 hP1 hD1 hS1 => ?_)
    rw [hset] at hP1
    exact kk p l e R s m args below meth cd hp1 locs1 ls X hP1 (by rw [List.length_set]; exact hH) hS1 hl hL
  · refine va_putN (rest := List.map (cv G.2.1) st) hx hb hts hin ty0 hty hnm hown hE.1 hP hD hS k he hc j hj (va_Nw.use (nW_on hlk) (hE.2.1 _ hlk)) (fun _ h9 => h9) hfin hd2 hn hfit (by rw [List.length_map]; exact h2) hd (fun hp1 locs1 hP1 hD1 hS1 => ?_)
    rw [hset] at hP1
    exact kk p l e R s m args below meth cd hp1 locs1 ls X hP1 (by rw [List.length_set]; exact hH) hS1 hl hL
theorem sn_pI {idx ci j k : Nat} {v : Int32} {H1 : Hp} (hd : decode M.2.1 pc = .ok (.putfield idx, 3)) (hf : FOk M.1.cls idx ci j) (hpu : FPu ci j .int) (hk : pV H k ci j (.int v) = some H1) (kk : Sn G T M (pc + 3) L st H1) : Sn G T M pc L (.int v :: .ref k :: st) H := sn_put hd hf hpu rfl rfl hk kk
theorem sn_pJ {idx ci j k : Nat} {v : Int64} {H1 : Hp} (hd : decode M.2.1 pc = .ok (.putfield idx, 3)) (hf : FOk M.1.cls idx ci j) (hpu : FPu ci j .long) (hk : pV H k ci j (.long v) = some H1) (kk : Sn G T M (pc + 3) L st H1) : Sn G T M pc L (.long v :: .ref k :: st) H := sn_put hd hf hpu rfl rfl hk kk
theorem sn_iald {k : Nat} {i v : Int32} (hd : decode M.2.1 pc = .ok (.iaload, 1)) (hk : aI H k 0 i = some v) (kk : Sn G T M (pc + 1) L (.int v :: st) H) : Sn G T M pc L (.int i :: .ref k :: st) H := by
  intro p l e R s m args below meth cd hp locs ls X hP hH hS hl hL
  obtain ⟨hx, hb, -, -, -, hown, hts, hE, -⟩ := id X
  obtain ⟨n, f, h1, h2, rfl⟩ := aI_inv hk
  have he : (cw G H)[k]? = some (G.2.1 k, .inl (G.2.2.1 0, n, .inl f)) := cw_get h1
  exact va_iald (rest := List.map (cv G.2.1) st) hx hb hE.1 hP k 0 he rfl h2 hd (kk p l e R s m args below meth cd hp locs ls X hP hH hS hl hL)
theorem sn_zald {k : Nat} {i v : Int32} (hd : decode M.2.1 pc = .ok (.baload, 1)) (hk : aI H k 2 i = some v) (kk : Sn G T M (pc + 1) L (.int v :: st) H) : Sn G T M pc L (.int i :: .ref k :: st) H := by
  intro p l e R s m args below meth cd hp locs ls X hP hH hS hl hL
  obtain ⟨hx, hb, -, -, -, hown, hts, hE, -⟩ := id X
  obtain ⟨n, f, h1, h2, rfl⟩ := aI_inv hk
  have he : (cw G H)[k]? = some (G.2.1 k, .inl (G.2.2.1 2, n, .inl f)) := cw_get h1
  exact va_zald (rest := List.map (cv G.2.1) st) hx hb hE.1 hP k 2 he rfl h2 hd (kk p l e R s m args below meth cd hp locs ls X hP hH hS hl hL)
theorem sn_lald {k : Nat} {i : Int32} {v : Int64} (hd : decode M.2.1 pc = .ok (.laload, 1)) (hk : aJ H k i = some v) (kk : Sn G T M (pc + 1) L (.long v :: st) H) : Sn G T M pc L (.int i :: .ref k :: st) H := by
  intro p l e R s m args below meth cd hp locs ls X hP hH hS hl hL
  obtain ⟨hx, hb, -, -, -, hown, hts, hE, -⟩ := id X
  obtain ⟨n, f, h1, h2, rfl⟩ := aJ_inv hk
  have he : (cw G H)[k]? = some (G.2.1 k, .inl (G.2.2.1 1, n, .inr (.inl f))) := cw_get h1
  exact va_lald (rest := List.map (cv G.2.1) st) hx hb hE.1 hP k 1 he rfl h2 hd (kk p l e R s m args below meth cd hp locs ls X hP hH hS hl hL)
theorem sn_iast {k : Nat} {i x : Int32} {H1 : Hp} (hd : decode M.2.1 pc = .ok (.iastore, 1)) (hk : sI H k 0 i x = some H1) (kk : Sn G T M (pc + 1) L st H1) : Sn G T M pc L (.int x :: .int i :: .ref k :: st) H := by
  intro p l e R s m args below meth cd hp locs ls X hP hH hS hl hL
  obtain ⟨hx, hb, -, -, -, hown, hts, hE, hA, -, -, -, -, hinj, -⟩ := id X
  obtain ⟨n, f, h1, h2, rfl⟩ := sI_inv hk
  have he : (cw G H)[k]? = some (G.2.1 k, .inl (G.2.2.1 0, n, .inl f)) := cw_get h1
  refine va_iast (rest := List.map (cv G.2.1) st) hx hb hE.1 hP (cw_D hinj hH hA) hS k 0 he rfl h2 hd (fun hp1 locs1 hP1 hD1 hS1 => ?_)
  have hset : (cw G H).set k (G.2.1 k, .inl (G.2.2.1 0, n, .inl (upd f i.toNatClampNeg x))) = cw G (H.set k (.inl (0, n, .inl (upd f i.toNatClampNeg x)))) := cw_set G H k (.inl (0, n, .inl (upd f i.toNatClampNeg x)))
  rw [hset] at hP1
  exact kk p l e R s m args below meth cd hp1 locs1 ls X hP1 (by rw [List.length_set]; exact hH) hS1 hl hL
theorem sn_zast {k : Nat} {i x : Int32} {H1 : Hp} (hd : decode M.2.1 pc = .ok (.bastore, 1)) (hk : sI H k 2 i (vp_nar .boolean x) = some H1) (kk : Sn G T M (pc + 1) L st H1) : Sn G T M pc L (.int x :: .int i :: .ref k :: st) H := by
  intro p l e R s m args below meth cd hp locs ls X hP hH hS hl hL
  obtain ⟨hx, hb, -, -, -, hown, hts, hE, hA, -, -, -, -, hinj, -⟩ := id X
  obtain ⟨n, f, h1, h2, rfl⟩ := sI_inv hk
  have he : (cw G H)[k]? = some (G.2.1 k, .inl (G.2.2.1 2, n, .inl f)) := cw_get h1
  refine va_zast (rest := List.map (cv G.2.1) st) hx hb hE.1 hP (cw_D hinj hH hA) hS k 2 he rfl h2 hd (fun hp1 locs1 hP1 hD1 hS1 => ?_)
  have hset : (cw G H).set k (G.2.1 k, .inl (G.2.2.1 2, n, .inl (upd f i.toNatClampNeg (vp_nar .boolean x)))) = cw G (H.set k (.inl (2, n, .inl (upd f i.toNatClampNeg (vp_nar .boolean x))))) := cw_set G H k (.inl (2, n, .inl (upd f i.toNatClampNeg (vp_nar .boolean x))))
  rw [hset] at hP1
  exact kk p l e R s m args below meth cd hp1 locs1 ls X hP1 (by rw [List.length_set]; exact hH) hS1 hl hL
theorem sn_last {k : Nat} {i : Int32} {x : Int64} {H1 : Hp} (hd : decode M.2.1 pc = .ok (.lastore, 1)) (hk : sJ H k i x = some H1) (kk : Sn G T M (pc + 1) L st H1) : Sn G T M pc L (.long x :: .int i :: .ref k :: st) H := by
  intro p l e R s m args below meth cd hp locs ls X hP hH hS hl hL
  obtain ⟨hx, hb, -, -, -, hown, hts, hE, hA, -, -, -, -, hinj, -⟩ := id X
  obtain ⟨n, f, h1, h2, rfl⟩ := sJ_inv hk
  have he : (cw G H)[k]? = some (G.2.1 k, .inl (G.2.2.1 1, n, .inr (.inl f))) := cw_get h1
  refine va_last (rest := List.map (cv G.2.1) st) hx hb hE.1 hP (cw_D hinj hH hA) hS k 1 he rfl h2 hd (fun hp1 locs1 hP1 hD1 hS1 => ?_)
  have hset : (cw G H).set k (G.2.1 k, .inl (G.2.2.1 1, n, .inr (.inl (vp_updL f i.toNatClampNeg x)))) = cw G (H.set k (.inl (1, n, .inr (.inl (vp_updL f i.toNatClampNeg x))))) := cw_set G H k (.inl (1, n, .inr (.inl (vp_updL f i.toNatClampNeg x))))
  rw [hset] at hP1
  exact kk p l e R s m args below meth cd hp1 locs1 ls X hP1 (by rw [List.length_set]; exact hH) hS1 hl hL
/-- the static row -/
theorem sn_ord {idx : Nat} (hd : decode M.2.1 pc = .ok (.getstatic idx, 3)) (hw : Cond.fieldLink M.1.cls idx "SquareFolds$Gluing" "ORDERS" "[I" ∈ gW) (kk : Sn G T M (pc + 3) L (.ref 1000 :: st) H) : Sn G T M pc L st H := by
  intro p l e R s m args below meth cd hp locs ls X hP hH hS hl hL
  obtain ⟨hx, hb, -, -, -, hown, hts, hE, -⟩ := id X
  exact va_gets hx hb hE.2.2.1 hS hown (hts _ hw) (fun _ h9 => h9) hd (kk p l e R s m args below meth cd hp locs ls X hP hH hS hl hL)
theorem sn_ordlen (hd : decode M.2.1 pc = .ok (.arraylength, 1)) (kk : Sn G T M (pc + 1) L (.int 6 :: st) H) : Sn G T M pc L (.ref 1000 :: st) H := by
  intro p l e R s m args below meth cd hp locs ls X hP hH hS hl hL
  obtain ⟨hx, hb, -, -, -, hown, hts, hE, -⟩ := id X
  exact va_tlen (rest := List.map (cv G.2.1) st) hx hb hE.2.2.2.1 hS rfl hd (kk p l e R s m args below meth cd hp locs ls X hP hH hS hl hL)
theorem sn_ordld {i : Int32} (hd : decode M.2.1 pc = .ok (.iaload, 1)) (hi : vp_in i 6) (kk : Sn G T M (pc + 1) L (.int (ordf i.toNatClampNeg) :: st) H) : Sn G T M pc L (.int i :: .ref 1000 :: st) H := by
  intro p l e R s m args below meth cd hp locs ls X hP hH hS hl hL
  obtain ⟨hx, hb, -, -, -, hown, hts, hE, -⟩ := id X
  exact va_ti (rest := List.map (cv G.2.1) st) hx hb hE.2.2.2.1 hS hi rfl hd (kk p l e R s m args below meth cd hp locs ls X hP hH hS hl hL)
/-- the script -/
theorem sn_scrlen (hd : decode M.2.1 pc = .ok (.arraylength, 1)) (kk : Sn G T M (pc + 1) L (.int (Int32.ofNat G.2.2.2.1) :: st) H) : Sn G T M pc L (.ref 1001 :: st) H := by
  intro p l e R s m args below meth cd hp locs ls X hP hH hS hl hL
  obtain ⟨hx, hb, -, -, -, hown, hts, hE, -⟩ := id X
  exact va_slen (rest := List.map (cv G.2.1) st) hx hb hE.2.2.2.2.1 hE.2.2.2.2.2.1 hE.2.2.2.2.2.2 hS hd (kk p l e R s m args below meth cd hp locs ls X hP hH hS hl hL)
theorem sn_scrld {i : Int32} (hd : decode M.2.1 pc = .ok (.iaload, 1)) (hi : vp_in i G.2.2.2.1) (kk : Sn G T M (pc + 1) L (.int (G.2.2.2.2 i.toNatClampNeg) :: st) H) : Sn G T M pc L (.int i :: .ref 1001 :: st) H := by
  intro p l e R s m args below meth cd hp locs ls X hP hH hS hl hL
  obtain ⟨hx, hb, -, -, -, hown, hts, hE, -⟩ := id X
  exact va_sld (rest := List.map (cv G.2.1) st) hx hb hE.2.2.2.2.1 hE.2.2.2.2.2.1 hE.2.2.2.2.2.2 hS hi hd (kk p l e R s m args below meth cd hp locs ls X hP hH hS hl hL)
-- switches
theorem sn_tblIn {x : Int32} {dflt lo hi off : Int} {offs : Array Int} {len tgt : Nat} (hd : decode M.2.1 pc = .ok (.tableswitch dflt lo hi offs, len)) (h1 : ¬ x.toInt < lo) (h2 : ¬ hi < x.toInt) (ho : offs[(x.toInt - lo).toNat]? = some off) (ht : (pc : Int) + off = (tgt : Int)) (k : Sn G T M tgt L st H) : Sn G T M pc L (.int x :: st) H := by
  intro p l e R s m args below meth cd hp locs ls X hP hH hS hl hL
  exact lv_tableIn (rest := List.map (cv G.2.1) st) X.1 X.2.1 hd h1 h2 ho ht (k p l e R s m args below meth cd hp locs ls X hP hH hS hl hL)
theorem sn_tblOut {x : Int32} {dflt lo hi : Int} {offs : Array Int} {len tgt : Nat} (hd : decode M.2.1 pc = .ok (.tableswitch dflt lo hi offs, len)) (h : x.toInt < lo ∨ hi < x.toInt) (ht : (pc : Int) + dflt = (tgt : Int)) (k : Sn G T M tgt L st H) : Sn G T M pc L (.int x :: st) H := by
  intro p l e R s m args below meth cd hp locs ls X hP hH hS hl hL
  exact lv_tableOut (rest := List.map (cv G.2.1) st) X.1 X.2.1 hd h ht (k p l e R s m args below meth cd hp locs ls X hP hH hS hl hL)
theorem sn_lkp {x : Int32} {dflt off : Int} {ps : Array (Int × Int)} {len tgt : Nat} (hd : decode M.2.1 pc = .ok (.lookupswitch dflt ps, len)) (hp : (ps.toList.zip (ps.toList.drop 1)).all (fun (a, next) => a.1 < next.1) = true) (ho : Op.lookupswitch.offset ps.toList dflt x.toInt = off) (ht : (pc : Int) + off = (tgt : Int)) (k : Sn G T M tgt L st H) : Sn G T M pc L (.int x :: st) H := by
  intro p l e R s m args below meth cd hp' locs ls X hP hH hS hl hL
  exact lv_lookup (rest := List.map (cv G.2.1) st) X.1 X.2.1 hd hp ho ht (k p l e R s m args below meth cd hp' locs ls X hP hH hS hl hL)
end RULES2
