/-! A light machine over abstract cells: places instead of addresses, one judgement Sn, rules for blocks, heap, calls, returns. -/
abbrev Hp : Type := List va_E
abbrev Mt : Type := MethodName × ByteArray × Nat × Option FieldType × Nat × Nat
abbrev GG : Type := va_G × (Nat → Nat) × (Nat → ClassId) × Nat × (Nat → Int32)
abbrev Md : Type := Nat × Nat × (State → Nat → Prop) × (Room → Array Value → Prop) × (State → Array Value → List Frame → State → Prop)
abbrev LL : Type := List (Option Value)
def cv (ad : Nat → Nat) : Value → Value
  | .ref k => .ref (ad k)
  | v => v
theorem cv_cat (ad : Nat → Nat) (v : Value) : (cv ad v).category = v.category := by cases v <;> rfl
def ce (G : GG) : va_E → va_E
  | .inl a => .inl (G.2.2.1 a.1, a.2)
  | .inr o => .inr (o.1, o.2.map (cv G.2.1))
def cw (G : GG) (H : Hp) : va_W := H.mapIdx (fun k e => (G.2.1 k, ce G e))
theorem cw_get {G : GG} {H : Hp} {k : Nat} {e : va_E} (h : H[k]? = some e) : (cw G H)[k]? = some (G.2.1 k, ce G e) := by
  simp [cw, List.getElem?_mapIdx, h]
theorem cw_set (G : GG) (H : Hp) (k : Nat) (e : va_E) : (cw G H).set k (G.2.1 k, ce G e) = cw G (H.set k e) := by
  apply List.ext_getElem?
  intro i
  simp only [cw, List.getElem?_set, List.getElem?_mapIdx, List.length_mapIdx]
  by_cases h : k = i
  · subst h
    by_cases h2 : k < H.length <;> simp [h2]
  · simp [h]
def aA (G : GG) : Nat → Prop := fun q => ∃ k, k < 39 ∧ q = G.2.1 k
def aInj (G : GG) : Prop := ∀ i j, i < 39 → j < 39 → G.2.1 i = G.2.1 j → i = j
theorem cw_D {G : GG} {H : Hp} {A : Nat → Prop} (hi : aInj G) (hl : H.length = 39) (hA : ∀ q, aA G q → A q) : va_D A (cw G H) := by
  have key : ∀ (k : Nat) (q : Nat × va_E), (cw G H)[k]? = some q → k < 39 ∧ q.1 = G.2.1 k := by
    intro k q h
    simp only [cw, List.getElem?_mapIdx] at h
    cases hk : H[k]? with
    | none => rw [hk] at h; cases h
    | some e => rw [hk] at h; cases h; exact ⟨hl ▸ (List.getElem?_eq_some_iff.mp hk).1, rfl⟩
  refine ⟨fun i j p q h1 h2 h => ?_, fun k q h => ?_⟩
  · obtain ⟨a1, b1⟩ := key i p h1
    obtain ⟨a2, b2⟩ := key j q h2
    exact hi i j a1 a2 (b1.symm.trans (h.trans b2))
  · obtain ⟨a1, b1⟩ := key k q h
    exact hA _ ⟨k, a1, b1⟩
-- words
def isNest : Jvm.Cond → Bool
  | .fieldLinkNest .. => true
  | .methodLinkNest .. => true
  | _ => false
def gW : List Jvm.Cond := lw_tbl.filter goodWord
def nW : List Jvm.Cond := lw_tbl.filter isNest
theorem gW_at {w : Jvm.Cond} (i : Nat) (h : (decide (lw_tbl[i]? = some w) && goodWord w) = true) : w ∈ gW := by
  simp only [Bool.and_eq_true, decide_eq_true_eq] at h
  exact List.mem_filter.mpr ⟨List.mem_of_getElem? h.1, h.2⟩
theorem nW_at {w : Jvm.Cond} (i : Nat) (h : (decide (lw_tbl[i]? = some w) && isNest w) = true) : w ∈ nW := by
  simp only [Bool.and_eq_true, decide_eq_true_eq] at h
  exact List.mem_filter.mpr ⟨List.mem_of_getElem? h.1, h.2⟩
theorem gW_good {w : Jvm.Cond} (h : w ∈ gW) : (w.onTables && w.keeps) = true ∨ ∃ ty, w = .arrayClass ty := good_of_word (List.mem_filter.mp h).2
theorem nW_on {w : Jvm.Cond} (h : w ∈ nW) : w.onTables = true := by
  have h2 := (List.mem_filter.mp h).2
  cases w <;> first | rfl | (simp [isNest] at h2)
theorem nW_warm {s U : State} (hW : s.WarmedH U.vm) (h : ∀ w ∈ nW, va_Nw w s) : ∀ w ∈ nW, va_Nw w U := by
  intro w hw
  have h1 := h w hw
  have h2 := (List.mem_filter.mp hw).2
  cases w <;> first | exact va_Nw.warmF hW h1 | exact va_Nw.warmM hW h1 | (simp [isNest] at h2)
-- what stays outside: the tables, the static row, the script
def ordf : Nat → Int32 := fun k => match k with
  | 0 => 1
  | 1 => 1
  | 2 => 2
  | 3 => 6
  | 4 => 24
  | _ => 120
def tysG (G : GG) : List (ClassId × FieldType) := [(G.2.2.1 0, .int), (G.2.2.1 1, .long), (G.2.2.1 2, .boolean)]
def Ev (G : GG) (A : Nat → Prop) (U : State) : Prop := va_K G.1 vwCl (tysG G) U ∧ (∀ w ∈ nW, va_Nw w U) ∧ va_Z "SquareFolds$Gluing" "ORDERS" "[I" (.ref (G.2.1 1000)) A U U.heap ∧ va_T .int (G.2.1 1000) 6 (fun k => .int (ordf k)) A U U.heap ∧ (va_X (G.2.1 1001) G.2.2.2.1 G.2.2.2.2 U U.heap ∧ G.2.1 1001 < U.heap.size ∧ ¬ A (G.2.1 1001))
theorem Ev.go {G : GG} {A B : Nat → Prop} {s U : State} {H : Heap} {locs : List Loc} (h : Ev G A s) (hS : va_S A s.heap H locs) (hU : U.heap = H) (hW : s.WarmedH U.vm) (hAB : ∀ q, B q → A q) : Ev G B U := by
  obtain ⟨hK, hN, hZ, hX, ⟨hX', h1', h2'⟩⟩ := h
  refine ⟨va_K.moved hW.alike hK, nW_warm hW hN, ?_, ?_, ⟨?_, ?_, fun q => h2' (hAB _ q)⟩⟩
  · rw [hU]
    exact ((va_Z.moved hW.alike hZ).kept (fun a ha hn => hS.2.1 a ha hn)).narrow hAB
  · rw [hU]
    exact ((va_T.moved hW.alike hX).kept (fun a ha hn => hS.2.1 a ha hn)).narrow hAB
  · rw [hU]
    exact (va_X.moved hW.alike hX').kept (hS.2.1 _ h1' h2')
  · rw [hU]
    exact Nat.lt_of_lt_of_le h1' hS.1
theorem Ev.calling {G : GG} {A : Nat → Prop} {U : State} {g : JFrame} {mk : MethodId} {a : Array Value} (h : Ev G A U) : Ev G A (U.calling g mk a) := by
  obtain ⟨hK, hN, hZ, hX, ⟨hX', h1', h2'⟩⟩ := h
  exact ⟨va_K.moved (u := U) (U := U.calling g mk a) (Vm.Alike.refl U.vm) hK, fun w hw => va_Nw.same (nW_on hw) (u := U) (U := U.calling g mk a) rfl (hN w hw), va_Z.moved (u := U) (U := U.calling g mk a) (Vm.Alike.refl U.vm) hZ, va_T.moved (u := U) (U := U.calling g mk a) (Vm.Alike.refl U.vm) hX, ⟨va_X.moved (u := U) (U := U.calling g mk a) (Vm.Alike.refl U.vm) hX', h1', h2'⟩⟩
-- locals
def lp (ad : Nat → Nat) : Nat → LL → List (Nat × Value)
  | _, [] => []
  | i, none :: l => lp ad (i + 1) l
  | i, some v :: l => (i, cv ad v) :: lp ad (i + 1) l
theorem lp_mem {ad : Nat → Nat} : ∀ (L : LL) (i : Nat) (q : Nat × Value), q ∈ lp ad i L ↔ ∃ (j : Nat) (v : Value), L[j]? = some (some v) ∧ q = (i + j, cv ad v)
  | [], i, q => by simp [lp]
  | none :: l, i, q => by
    simp only [lp, lp_mem l (i + 1) q]
    constructor
    · rintro ⟨j, v, h, rfl⟩
      exact ⟨j + 1, v, by simpa using h, by congr 1; omega⟩
    · rintro ⟨j, v, h, rfl⟩
      cases j with
      | zero => simp at h
      | succ j => exact ⟨j, v, by simpa using h, by congr 1; omega⟩
  | some w :: l, i, q => by
    simp only [lp, List.mem_cons, lp_mem l (i + 1) q]
    constructor
    · rintro (rfl | ⟨j, v, h, rfl⟩)
      · exact ⟨0, w, by simp, by simp⟩
      · exact ⟨j + 1, v, by simpa using h, by congr 1; omega⟩
    · rintro ⟨j, v, h, rfl⟩
      cases j with
      | zero => left; simp at h; subst h; rfl
      | succ j => right; exact ⟨j, v, by simpa using h, by congr 1; omega⟩
theorem lp_at {ad : Nat → Nat} {ls : Array Slot} {nL : Nat} {L : LL} (h : lv_has ls nL (lp ad 0 L)) {i : Nat} {v : Value} (hi : L[i]? = some (some v)) : ls[i]? = some (.val (cv ad v)) := h.2.2 (i, cv ad v) ((lp_mem L 0 _).mpr ⟨i, v, hi, by rw [Nat.zero_add]⟩)
theorem lp_mono {ad : Nat → Nat} {ls : Array Slot} {nL : Nat} {l l' : List (Nat × Value)} (h : lv_has ls nL l) (hs : ∀ q ∈ l', q ∈ l) : lv_has ls nL l' := ⟨h.1, h.2.1, fun q hq => h.2.2 q (hs q hq)⟩
def isL2 : Option (Option Value) → Bool
  | some (some (.long _)) => true
  | some (some (.double _)) => true
  | _ => false
def kl (L : LL) : Nat → LL
  | 0 => L
  | j + 1 => bif isL2 L[j]? then L.set j none else L
def st1 (L : LL) (i : Nat) (v : Value) : LL := (kl L i).set i (some v)
def st2 (L : LL) (i : Nat) (v : Value) : LL := ((kl L i).set i (some v)).set (i + 1) none
theorem kl_len (L : LL) (i : Nat) : (kl L i).length = L.length := by
  cases i with
  | zero => rfl
  | succ j =>
    simp only [kl]
    cases isL2 L[j]? <;> simp
theorem kl_at {L : LL} {i j : Nat} {w : Value} (h : (kl L i)[j]? = some (some w)) : L[j]? = some (some w) ∧ ¬ (j + 1 = i ∧ w.category = 2) := by
  cases i with
  | zero => exact ⟨h, fun q => by omega⟩
  | succ k =>
    simp only [kl] at h
    cases hb : isL2 L[k]? with
    | false =>
      rw [hb] at h
      simp only [cond_false] at h
      refine ⟨h, fun q => ?_⟩
      have hk : j = k := by omega
      subst hk
      rw [h] at hb
      have h2 := q.2
      cases w <;> simp [isL2, Value.category] at hb h2
    | true =>
      rw [hb] at h
      simp only [cond_true] at h
      by_cases hk : j = k
      · subst hk
        rw [List.getElem?_set] at h
        simp only [if_true] at h
        split at h <;> cases h
      · rw [List.getElem?_set_ne (fun e => hk e.symm)] at h
        exact ⟨h, fun q => hk (by omega)⟩
theorem lp_st1 {ad : Nat → Nat} {ls' : Array Slot} {nL : Nat} {L : LL} {i : Nat} {v : Value} (h : lv_has ls' nL ((i, cv ad v) :: (lp ad 0 L).filter (fun q => !(q.1 == i) && !(q.1 + 1 == i && q.2.category == 2)))) : lv_has ls' nL (lp ad 0 (st1 L i v)) := by
  refine lp_mono (ad := ad) h (fun q hq => ?_)
  obtain ⟨j, w, h1, rfl⟩ := (lp_mem _ _ _).mp hq
  by_cases hj : j = i
  · subst hj
    rw [st1, List.getElem?_set] at h1
    simp only [if_true] at h1
    split at h1
    · cases h1
      rw [Nat.zero_add]
      exact List.mem_cons_self
    · cases h1
  · rw [st1, List.getElem?_set_ne (fun e => hj e.symm)] at h1
    obtain ⟨h2, h3⟩ := kl_at h1
    refine List.mem_cons_of_mem _ (List.mem_filter.mpr ⟨(lp_mem _ _ _).mpr ⟨j, w, h2, rfl⟩, ?_⟩)
    simp only [Nat.zero_add, cv_cat]
    by_cases h4 : j + 1 = i
    · have h5 : ¬ w.category = 2 := fun q => h3 ⟨h4, q⟩
      simp [hj, h5]
    · simp [hj, h4]
theorem lp_st2 {ad : Nat → Nat} {ls' : Array Slot} {nL : Nat} {L : LL} {i : Nat} {v : Value} (h : lv_has ls' nL ((i, cv ad v) :: (lp ad 0 L).filter (fun q => !(q.1 == i) && (!(q.1 == i + 1) && !(q.1 + 1 == i && q.2.category == 2))))) : lv_has ls' nL (lp ad 0 (st2 L i v)) := by
  refine lp_mono (ad := ad) h (fun q hq => ?_)
  obtain ⟨j, w, h1, rfl⟩ := (lp_mem _ _ _).mp hq
  by_cases hj2 : j = i + 1
  · subst hj2
    rw [st2, List.getElem?_set] at h1
    simp only [if_true] at h1
    split at h1 <;> cases h1
  · rw [st2, List.getElem?_set_ne (fun e => hj2 e.symm)] at h1
    by_cases hj : j = i
    · subst hj
      rw [List.getElem?_set] at h1
      simp only [if_true] at h1
      split at h1
      · cases h1
        rw [Nat.zero_add]
        exact List.mem_cons_self
      · cases h1
    · rw [List.getElem?_set_ne (fun e => hj e.symm)] at h1
      obtain ⟨h2, h3⟩ := kl_at h1
      refine List.mem_cons_of_mem _ (List.mem_filter.mpr ⟨(lp_mem _ _ _).mpr ⟨j, w, h2, rfl⟩, ?_⟩)
      simp only [Nat.zero_add, cv_cat]
      by_cases h4 : j + 1 = i
      · have h5 : ¬ w.category = 2 := fun q => h3 ⟨h4, q⟩
        simp [hj, hj2, h5]
      · simp [hj, hj2, h4]
-- the judgement
def Cx (G : GG) (T : Md) (M : Mt) (p : Program) (R : Room) (s : State) (m : MethodId) (args : Array Value) (meth : Method) (c : Code) : Prop :=
  p.tables.exec = Jvm.exec ∧ c.code = M.2.1 ∧ c.maxLocals = M.2.2.1 ∧ meth.sig.returnType = M.2.2.2.1 ∧ meth.locks = false ∧ s.vm.findClass M.1.cls = some m.cls ∧ (∀ w ∈ gW, w.before args s = true) ∧ Ev G (T.2.2.1 s) s ∧ (∀ q, aA G q → T.2.2.1 s q) ∧ M.2.2.2.2.1 ≤ R.frames ∧ M.2.2.2.2.2 ≤ R.locals ∧ T.1 ≤ R.cells ∧ T.2.1 ≤ R.slots ∧ aInj G ∧ T.2.2.2.1 R args
def Sn (G : GG) (T : Md) (M : Mt) (pc : Nat) (L : LL) (st : List Value) (H : Hp) : Prop :=
  ∀ (p : Program) (l : Launch) (e : Env) (R : Room) (s : State) (m : MethodId) (args : Array Value) (below : List Frame) (meth : Method) (c : Code) (hp : Heap) (locs : List Loc) (ls : Array Slot),
    Cx G T M p R s m args meth c → va_P G.1 vwCl (cw G H) hp → H.length = 39 → va_S (T.2.2.1 s) s.heap hp locs → lv_has ls M.2.2.1 (lp G.2.1 0 L) → L.length = M.2.2.1 →
    W p l e R s m args below meth c hp locs T.1 T.2.1 (T.2.2.2.2 s args below) (F0 m pc ls (st.map (cv G.2.1)))
