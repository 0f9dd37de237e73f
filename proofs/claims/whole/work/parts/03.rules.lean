/-! The rules of the light machine. -/
-- straight blocks: an item is an instruction and its constant (or the goto's target)
abbrev It : Type := Instr × Value
def lenOf : Instr → Nat
  | .bipush _ | .iload _ | .istore _ | .lload _ | .lstore _ | .aload _ | .astore _ => 2
  | .sipush _ | .iinc _ _ | .goto _ => 3
  | _ => 1
def okC (ins : Instr) (pc : Nat) (c : Value) : Bool :=
  match ins with
  | .iconst n => decide (c = .int (Int32.ofInt n))
  | .bipush n => decide (c = .int (Int8.ofInt n).toInt32)
  | .sipush n => decide (c = .int (Int16.ofInt n).toInt32)
  | .lconst n => decide (c = .long (Int64.ofNat (n : Nat)))
  | .iinc _ n => decide (c = .int (Int32.ofInt n))
  | .goto off => match c with
    | .retAddr t => decide ((pc : Int) + off = (t : Int))
    | _ => false
  | _ => decide (c = .null)
def nxt (ins : Instr) (pc : Nat) (c : Value) : Nat := match c with
  | .retAddr t => t
  | _ => pc + lenOf ins
def decB (cc : ByteArray) : Nat → List It → Bool
  | _, [] => true
  | pc, it :: r => decide (decode cc pc = .ok (it.1, lenOf it.1)) && (okC it.1 pc it.2 && decB cc (nxt it.1 pc it.2) r)
def endB : Nat → List It → Nat
  | pc, [] => pc
  | pc, it :: r => endB (nxt it.1 pc it.2) r
abbrev St2 : Type := Option (LL × List Value)
def ldI (L : LL) (i : Nat) (st : List Value) : St2 := match L[i]? with
  | some (some (.int x)) => some (L, .int x :: st)
  | _ => none
def ldJ (L : LL) (i : Nat) (st : List Value) : St2 := match L[i]? with
  | some (some (.long x)) => some (L, .long x :: st)
  | _ => none
def ldA (L : LL) (i : Nat) (st : List Value) : St2 := match L[i]? with
  | some (some (.ref x)) => some (L, .ref x :: st)
  | _ => none
def sto (L : LL) (i : Nat) : List Value → St2
  | .int x :: st => match L[i]? with
    | some _ => some (st1 L i (.int x), st)
    | none => none
  | .ref x :: st => match L[i]? with
    | some _ => some (st1 L i (.ref x), st)
    | none => none
  | .long x :: st => match L[i + 1]? with
    | some _ => some (st2 L i (.long x), st)
    | none => none
  | _ => none
def incI (L : LL) (i : Nat) (c : Value) (st : List Value) : St2 := match L[i]?, c with
  | some (some (.int x)), .int k => some (st1 L i (.int (x + k)), st)
  | _, _ => none
def oII (f : Int32 → Int32 → Int32) (L : LL) : List Value → St2
  | .int y :: .int x :: st => some (L, .int (f x y) :: st)
  | _ => none
def oI (f : Int32 → Value) (L : LL) : List Value → St2
  | .int x :: st => some (L, f x :: st)
  | _ => none
def oJ (f : Int64 → Value) (L : LL) : List Value → St2
  | .long x :: st => some (L, f x :: st)
  | _ => none
def oJJ (f : Int64 → Int64 → Value) (L : LL) : List Value → St2
  | .long y :: .long x :: st => some (L, f x y :: st)
  | _ => none
def oJI (f : Int64 → Int32 → Int64) (L : LL) : List Value → St2
  | .int y :: .long x :: st => some (L, .long (f x y) :: st)
  | _ => none
def dupV (L : LL) : List Value → St2
  | .int x :: st => some (L, .int x :: .int x :: st)
  | .ref x :: st => some (L, .ref x :: .ref x :: st)
  | _ => none
def popV (L : LL) : List Value → St2
  | .int _ :: st => some (L, st)
  | .ref _ :: st => some (L, st)
  | _ => none
def iushrF (x y : Int32) : Int32 := (x.toUInt32 >>> (y.toUInt32 &&& Int32.toUInt32 31)).toInt32
def lushrF (x : Int64) (y : Int32) : Int64 := (x.toUInt64 >>> (y.toInt64.toUInt64 &&& Int64.toUInt64 63)).toInt64
def stepV (it : It) (L : LL) (st : List Value) : St2 :=
  match it.1 with
  | .iconst _ => some (L, it.2 :: st)
  | .bipush _ => some (L, it.2 :: st)
  | .sipush _ => some (L, it.2 :: st)
  | .lconst _ => some (L, it.2 :: st)
  | .iload i => ldI L i st
  | .iload_n i => ldI L i.val st
  | .lload i => ldJ L i st
  | .lload_n i => ldJ L i.val st
  | .aload i => ldA L i st
  | .aload_n i => ldA L i.val st
  | .istore i => match st with
    | .int x :: st => sto L i (.int x :: st)
    | _ => none
  | .istore_n i => match st with
    | .int x :: st => sto L i.val (.int x :: st)
    | _ => none
  | .lstore i => match st with
    | .long x :: st => sto L i (.long x :: st)
    | _ => none
  | .lstore_n i => match st with
    | .long x :: st => sto L i.val (.long x :: st)
    | _ => none
  | .astore_n i => match st with
    | .ref x :: st => sto L i.val (.ref x :: st)
    | _ => none
  | .iinc i _ => incI L i it.2 st
  | .iadd => oII (fun x y => x + y) L st
  | .isub => oII (fun x y => x - y) L st
  | .imul => oII (fun x y => x * y) L st
  | .iand => oII (fun x y => x &&& y) L st
  | .ior => oII (fun x y => x ||| y) L st
  | .ixor => oII (fun x y => x ^^^ y) L st
  | .ishl => oII (fun x y => x <<< (y &&& 31)) L st
  | .ishr => oII (fun x y => x >>> (y &&& 31)) L st
  | .iushr => oII iushrF L st
  | .ineg => oI (fun x => .int (-x)) L st
  | .i2l => oI (fun x => .long x.toInt64) L st
  | .l2i => oJ (fun x => .int x.toInt32) L st
  | .ladd => oJJ (fun x y => .long (x + y)) L st
  | .lsub => oJJ (fun x y => .long (x - y)) L st
  | .lmul => oJJ (fun x y => .long (x * y)) L st
  | .land => oJJ (fun x y => .long (x &&& y)) L st
  | .lor => oJJ (fun x y => .long (x ||| y)) L st
  | .lcmp => oJJ (fun x y => .int (lg_cmp x y)) L st
  | .lshl => oJI (fun x y => x <<< (y.toInt64 &&& 63)) L st
  | .lushr => oJI lushrF L st
  | .dup => dupV L st
  | .pop => popV L st
  | .goto _ => some (L, st)
  | _ => none
def runB : List It → LL → List Value → St2
  | [], L, st => some (L, st)
  | it :: r, L, st => match stepV it L st with
    | some q => runB r q.1 q.2
    | none => none
section RULES
variable {G : GG} {T : Md} {M : Mt} {pc : Nat} {L L' : LL} {st st' : List Value} {H : Hp}
theorem ldI_inv {i : Nat} (h : ldI L i st = some (L', st')) : ∃ x, L[i]? = some (some (.int x)) ∧ L' = L ∧ st' = .int x :: st := by
  unfold ldI at h
  split at h
  · rename_i x hx
    cases h
    exact ⟨x, hx, rfl, rfl⟩
  · cases h
theorem ldJ_inv {i : Nat} (h : ldJ L i st = some (L', st')) : ∃ x, L[i]? = some (some (.long x)) ∧ L' = L ∧ st' = .long x :: st := by
  unfold ldJ at h
  split at h
  · rename_i x hx
    cases h
    exact ⟨x, hx, rfl, rfl⟩
  · cases h
theorem ldA_inv {i : Nat} (h : ldA L i st = some (L', st')) : ∃ x, L[i]? = some (some (.ref x)) ∧ L' = L ∧ st' = .ref x :: st := by
  unfold ldA at h
  split at h
  · rename_i x hx
    cases h
    exact ⟨x, hx, rfl, rfl⟩
  · cases h
theorem sto_int {i : Nat} {x : Int32} (h : sto L i (.int x :: st) = some (L', st')) : i < L.length ∧ L' = st1 L i (.int x) ∧ st' = st := by
  simp only [sto] at h
  split at h
  · rename_i y hy
    cases h
    exact ⟨(List.getElem?_eq_some_iff.mp hy).1, rfl, rfl⟩
  · cases h
theorem sto_ref {i : Nat} {x : Nat} (h : sto L i (.ref x :: st) = some (L', st')) : i < L.length ∧ L' = st1 L i (.ref x) ∧ st' = st := by
  simp only [sto] at h
  split at h
  · rename_i y hy
    cases h
    exact ⟨(List.getElem?_eq_some_iff.mp hy).1, rfl, rfl⟩
  · cases h
theorem sto_long {i : Nat} {x : Int64} (h : sto L i (.long x :: st) = some (L', st')) : i + 1 < L.length ∧ L' = st2 L i (.long x) ∧ st' = st := by
  simp only [sto] at h
  split at h
  · rename_i y hy
    cases h
    exact ⟨(List.getElem?_eq_some_iff.mp hy).1, rfl, rfl⟩
  · cases h
theorem incI_inv {i : Nat} {c : Value} (h : incI L i c st = some (L', st')) : ∃ x k, L[i]? = some (some (.int x)) ∧ c = .int k ∧ L' = st1 L i (.int (x + k)) ∧ st' = st := by
  unfold incI at h
  split at h
  · rename_i x k hx
    cases h
    exact ⟨x, k, hx, rfl, rfl, rfl⟩
  · cases h
theorem oII_inv {f : Int32 → Int32 → Int32} (h : oII f L st = some (L', st')) : ∃ x y r, st = .int y :: .int x :: r ∧ L' = L ∧ st' = .int (f x y) :: r := by
  unfold oII at h
  split at h
  · cases h
    exact ⟨_, _, _, rfl, rfl, rfl⟩
  · cases h
theorem oI_inv {f : Int32 → Value} (h : oI f L st = some (L', st')) : ∃ x r, st = .int x :: r ∧ L' = L ∧ st' = f x :: r := by
  unfold oI at h
  split at h
  · cases h
    exact ⟨_, _, rfl, rfl, rfl⟩
  · cases h
theorem oJ_inv {f : Int64 → Value} (h : oJ f L st = some (L', st')) : ∃ x r, st = .long x :: r ∧ L' = L ∧ st' = f x :: r := by
  unfold oJ at h
  split at h
  · cases h
    exact ⟨_, _, rfl, rfl, rfl⟩
  · cases h
theorem oJJ_inv {f : Int64 → Int64 → Value} (h : oJJ f L st = some (L', st')) : ∃ x y r, st = .long y :: .long x :: r ∧ L' = L ∧ st' = f x y :: r := by
  unfold oJJ at h
  split at h
  · cases h
    exact ⟨_, _, _, rfl, rfl, rfl⟩
  · cases h
theorem oJI_inv {f : Int64 → Int32 → Int64} (h : oJI f L st = some (L', st')) : ∃ x y r, st = .int y :: .long x :: r ∧ L' = L ∧ st' = .long (f x y) :: r := by
  unfold oJI at h
  split at h
  · cases h
    exact ⟨_, _, _, rfl, rfl, rfl⟩
  · cases h
theorem st1_len (L : LL) (i : Nat) (v : Value) : (st1 L i v).length = L.length := by rw [st1, List.length_set, kl_len]
theorem st2_len (L : LL) (i : Nat) (v : Value) : (st2 L i v).length = L.length := by rw [st2, List.length_set, List.length_set, kl_len]
set_option maxHeartbeats 4000000 in
theorem sn_it {ins : Instr} {c : Value} (hd : decode M.2.1 pc = .ok (ins, lenOf ins)) (hc : okC ins pc c = true) (hs : stepV (ins, c) L st = some (L', st')) (k : Sn G T M (nxt ins pc c) L' st' H) : Sn G T M pc L st H := by
  intro p l e R s m args below meth cd hp locs ls X hP hH hS hl hL
  obtain ⟨hx, hb, -⟩ := id X
  cases ins with
  | iconst n =>
    simp only [okC, decide_eq_true_eq] at hc
    subst hc
    simp only [stepV] at hs
    cases hs
    exact lv_iconst hx hb hd rfl (k p l e R s m args below meth cd hp locs ls X hP hH hS hl hL)
  | bipush n =>
    simp only [okC, decide_eq_true_eq] at hc
    subst hc
    simp only [stepV] at hs
    cases hs
    exact lv_bipush hx hb hd rfl (k p l e R s m args below meth cd hp locs ls X hP hH hS hl hL)
  | sipush n =>
    simp only [okC, decide_eq_true_eq] at hc
    subst hc
    simp only [stepV] at hs
    cases hs
    exact lv_sipush hx hb hd rfl (k p l e R s m args below meth cd hp locs ls X hP hH hS hl hL)
  | lconst n =>
    simp only [okC, decide_eq_true_eq] at hc
    subst hc
    simp only [stepV] at hs
    cases hs
    exact lv_lconst hx hb hd rfl (k p l e R s m args below meth cd hp locs ls X hP hH hS hl hL)
  | iload i =>
    simp only [okC, decide_eq_true_eq] at hc
    subst hc
    obtain ⟨x, h1, rfl, rfl⟩ := ldI_inv hs
    exact lv_iload hx hb hd (lp_at hl h1) (k p l e R s m args below meth cd hp locs ls X hP hH hS hl hL)
  | iload_n i =>
    simp only [okC, decide_eq_true_eq] at hc
    subst hc
    obtain ⟨x, h1, rfl, rfl⟩ := ldI_inv hs
    exact lv_iload_n hx hb hd rfl (lp_at hl h1) (k p l e R s m args below meth cd hp locs ls X hP hH hS hl hL)
  | lload i =>
    simp only [okC, decide_eq_true_eq] at hc
    subst hc
    obtain ⟨x, h1, rfl, rfl⟩ := ldJ_inv hs
    exact lv_lload hx hb hd (lp_at hl h1) (k p l e R s m args below meth cd hp locs ls X hP hH hS hl hL)
  | lload_n i =>
    simp only [okC, decide_eq_true_eq] at hc
    subst hc
    obtain ⟨x, h1, rfl, rfl⟩ := ldJ_inv hs
    exact lv_lload_n hx hb hd rfl (lp_at hl h1) (k p l e R s m args below meth cd hp locs ls X hP hH hS hl hL)
  | aload i =>
    simp only [okC, decide_eq_true_eq] at hc
    subst hc
    obtain ⟨x, h1, rfl, rfl⟩ := ldA_inv hs
    exact lv_aload hx hb hd (lp_at hl h1) (k p l e R s m args below meth cd hp locs ls X hP hH hS hl hL)
  | aload_n i =>
    simp only [okC, decide_eq_true_eq] at hc
    subst hc
    obtain ⟨x, h1, rfl, rfl⟩ := ldA_inv hs
    exact lv_aload_n hx hb hd rfl (lp_at hl h1) (k p l e R s m args below meth cd hp locs ls X hP hH hS hl hL)
  | istore i =>
    simp only [okC, decide_eq_true_eq] at hc
    subst hc
    simp only [stepV] at hs
    split at hs
    · rename_i x r
      obtain ⟨h1, rfl, rfl⟩ := sto_int hs
      exact lv_istore (rest := List.map (cv G.2.1) st') hx hb hd hl (by rw [← hL]; exact h1) rfl (fun ls' hl' => k p l e R s m args below meth cd hp locs ls' X hP hH hS (lp_st1 (v := .int x) hl') (by rw [st1_len]; exact hL))
    · cases hs
  | istore_n i =>
    simp only [okC, decide_eq_true_eq] at hc
    subst hc
    simp only [stepV] at hs
    split at hs
    · rename_i x r
      obtain ⟨h1, rfl, rfl⟩ := sto_int hs
      exact lv_istore_n (rest := List.map (cv G.2.1) st') hx hb hd rfl hl (by rw [← hL]; exact h1) rfl (fun ls' hl' => k p l e R s m args below meth cd hp locs ls' X hP hH hS (lp_st1 (v := .int x) hl') (by rw [st1_len]; exact hL))
    · cases hs
  | lstore i =>
    simp only [okC, decide_eq_true_eq] at hc
    subst hc
    simp only [stepV] at hs
    split at hs
    · rename_i x r
      obtain ⟨h1, rfl, rfl⟩ := sto_long hs
      exact lv_lstore (rest := List.map (cv G.2.1) st') hx hb hd hl (by rw [← hL]; exact h1) rfl (fun ls' hl' => k p l e R s m args below meth cd hp locs ls' X hP hH hS (lp_st2 (v := .long x) hl') (by rw [st2_len]; exact hL))
    · cases hs
  | lstore_n i =>
    simp only [okC, decide_eq_true_eq] at hc
    subst hc
    simp only [stepV] at hs
    split at hs
    · rename_i x r
      obtain ⟨h1, rfl, rfl⟩ := sto_long hs
      exact lv_lstore_n (rest := List.map (cv G.2.1) st') hx hb hd rfl hl (by rw [← hL]; exact h1) rfl (fun ls' hl' => k p l e R s m args below meth cd hp locs ls' X hP hH hS (lp_st2 (v := .long x) hl') (by rw [st2_len]; exact hL))
    · cases hs
  | astore_n i =>
    simp only [okC, decide_eq_true_eq] at hc
    subst hc
    simp only [stepV] at hs
    split at hs
    · rename_i x r
      obtain ⟨h1, rfl, rfl⟩ := sto_ref hs
      exact lv_astore_n (rest := List.map (cv G.2.1) st') hx hb hd rfl hl (by rw [← hL]; exact h1) rfl (fun ls' hl' => k p l e R s m args below meth cd hp locs ls' X hP hH hS (lp_st1 (v := .ref x) hl') (by rw [st1_len]; exact hL))
    · cases hs
  | iinc i n =>
    simp only [okC, decide_eq_true_eq] at hc
    obtain ⟨x, kk, h1, h2, rfl, rfl⟩ := incI_inv hs
    have h2 : c = Value.int kk := h2
    subst h2
    cases hc
    obtain ⟨j, hj⟩ := List.getElem?_of_mem ((lp_mem (ad := G.2.1) L 0 (i, .int x)).mpr ⟨i, .int x, h1, by rw [Nat.zero_add]; rfl⟩)
    exact lv_iinc hx hb hd hl hj rfl (by rw [← hL]; exact (List.getElem?_eq_some_iff.mp h1).1) rfl (fun ls' hl' => k p l e R s m args below meth cd hp locs ls' X hP hH hS (lp_st1 (v := .int (x + Int32.ofInt n)) hl') (by rw [st1_len]; exact hL))
  | iadd =>
    simp only [okC, decide_eq_true_eq] at hc
    subst hc
    obtain ⟨x, y, r, rfl, rfl, rfl⟩ := oII_inv hs
    exact lv_iadd (rest := List.map (cv G.2.1) r) hx hb hd (k p l e R s m args below meth cd hp locs ls X hP hH hS hl hL)
  | isub =>
    simp only [okC, decide_eq_true_eq] at hc
    subst hc
    obtain ⟨x, y, r, rfl, rfl, rfl⟩ := oII_inv hs
    exact lv_isub (rest := List.map (cv G.2.1) r) hx hb hd (k p l e R s m args below meth cd hp locs ls X hP hH hS hl hL)
  | imul =>
    simp only [okC, decide_eq_true_eq] at hc
    subst hc
    obtain ⟨x, y, r, rfl, rfl, rfl⟩ := oII_inv hs
    exact lv_imul (rest := List.map (cv G.2.1) r) hx hb hd (k p l e R s m args below meth cd hp locs ls X hP hH hS hl hL)
  | iand =>
    simp only [okC, decide_eq_true_eq] at hc
    subst hc
    obtain ⟨x, y, r, rfl, rfl, rfl⟩ := oII_inv hs
    exact lv_iand (rest := List.map (cv G.2.1) r) hx hb hd (k p l e R s m args below meth cd hp locs ls X hP hH hS hl hL)
  | ior =>
    simp only [okC, decide_eq_true_eq] at hc
    subst hc
    obtain ⟨x, y, r, rfl, rfl, rfl⟩ := oII_inv hs
    exact lv_ior (rest := List.map (cv G.2.1) r) hx hb hd (k p l e R s m args below meth cd hp locs ls X hP hH hS hl hL)
  | ixor =>
    simp only [okC, decide_eq_true_eq] at hc
    subst hc
    obtain ⟨x, y, r, rfl, rfl, rfl⟩ := oII_inv hs
    exact lv_ixor (rest := List.map (cv G.2.1) r) hx hb hd (k p l e R s m args below meth cd hp locs ls X hP hH hS hl hL)
  | ishl =>
    simp only [okC, decide_eq_true_eq] at hc
    subst hc
    obtain ⟨x, y, r, rfl, rfl, rfl⟩ := oII_inv hs
    exact lv_ishl (rest := List.map (cv G.2.1) r) hx hb hd (k p l e R s m args below meth cd hp locs ls X hP hH hS hl hL)
  | ishr =>
    simp only [okC, decide_eq_true_eq] at hc
    subst hc
    obtain ⟨x, y, r, rfl, rfl, rfl⟩ := oII_inv hs
    exact lv_ishr (rest := List.map (cv G.2.1) r) hx hb hd (k p l e R s m args below meth cd hp locs ls X hP hH hS hl hL)
  | iushr =>
    simp only [okC, decide_eq_true_eq] at hc
    subst hc
    obtain ⟨x, y, r, rfl, rfl, rfl⟩ := oII_inv hs
    exact lv_iushr (rest := List.map (cv G.2.1) r) hx hb hd rfl (k p l e R s m args below meth cd hp locs ls X hP hH hS hl hL)
  | ineg =>
    simp only [okC, decide_eq_true_eq] at hc
    subst hc
    obtain ⟨x, r, rfl, rfl, rfl⟩ := oI_inv hs
    exact lv_ineg (rest := List.map (cv G.2.1) r) hx hb hd (k p l e R s m args below meth cd hp locs ls X hP hH hS hl hL)
  | i2l =>
    simp only [okC, decide_eq_true_eq] at hc
    subst hc
    obtain ⟨x, r, rfl, rfl, rfl⟩ := oI_inv hs
    exact lv_i2l (rest := List.map (cv G.2.1) r) hx hb hd rfl (k p l e R s m args below meth cd hp locs ls X hP hH hS hl hL)
  | l2i =>
    simp only [okC, decide_eq_true_eq] at hc
    subst hc
    obtain ⟨x, r, rfl, rfl, rfl⟩ := oJ_inv hs
    exact lv_l2i (rest := List.map (cv G.2.1) r) hx hb hd rfl (k p l e R s m args below meth cd hp locs ls X hP hH hS hl hL)
  | ladd =>
    simp only [okC, decide_eq_true_eq] at hc
    subst hc
    obtain ⟨x, y, r, rfl, rfl, rfl⟩ := oJJ_inv hs
    exact lv_ladd (rest := List.map (cv G.2.1) r) hx hb hd (k p l e R s m args below meth cd hp locs ls X hP hH hS hl hL)
  | lsub =>
    simp only [okC, decide_eq_true_eq] at hc
    subst hc
    obtain ⟨x, y, r, rfl, rfl, rfl⟩ := oJJ_inv hs
    exact lv_lsub (rest := List.map (cv G.2.1) r) hx hb hd (k p l e R s m args below meth cd hp locs ls X hP hH hS hl hL)
  | lmul =>
    simp only [okC, decide_eq_true_eq] at hc
    subst hc
    obtain ⟨x, y, r, rfl, rfl, rfl⟩ := oJJ_inv hs
    exact lv_lmul (rest := List.map (cv G.2.1) r) hx hb hd (k p l e R s m args below meth cd hp locs ls X hP hH hS hl hL)
  | land =>
    simp only [okC, decide_eq_true_eq] at hc
    subst hc
    obtain ⟨x, y, r, rfl, rfl, rfl⟩ := oJJ_inv hs
    exact lv_land (rest := List.map (cv G.2.1) r) hx hb hd (k p l e R s m args below meth cd hp locs ls X hP hH hS hl hL)
  | lor =>
    simp only [okC, decide_eq_true_eq] at hc
    subst hc
    obtain ⟨x, y, r, rfl, rfl, rfl⟩ := oJJ_inv hs
    exact lv_lor (rest := List.map (cv G.2.1) r) hx hb hd (k p l e R s m args below meth cd hp locs ls X hP hH hS hl hL)
  | lcmp =>
    simp only [okC, decide_eq_true_eq] at hc
    subst hc
    obtain ⟨x, y, r, rfl, rfl, rfl⟩ := oJJ_inv hs
    exact W.lcmp (rest := List.map (cv G.2.1) r) hx hb hd (k p l e R s m args below meth cd hp locs ls X hP hH hS hl hL)
  | lshl =>
    simp only [okC, decide_eq_true_eq] at hc
    subst hc
    obtain ⟨x, y, r, rfl, rfl, rfl⟩ := oJI_inv hs
    exact lv_lshl (rest := List.map (cv G.2.1) r) hx hb hd rfl (k p l e R s m args below meth cd hp locs ls X hP hH hS hl hL)
  | lushr =>
    simp only [okC, decide_eq_true_eq] at hc
    subst hc
    obtain ⟨x, y, r, rfl, rfl, rfl⟩ := oJI_inv hs
    exact lv_lushr (rest := List.map (cv G.2.1) r) hx hb hd rfl (k p l e R s m args below meth cd hp locs ls X hP hH hS hl hL)
  | dup =>
    simp only [okC, decide_eq_true_eq] at hc
    subst hc
    simp only [stepV] at hs
    unfold dupV at hs
    split at hs
    · cases hs
      exact lv_dup (va := .int _) (rest := List.map (cv G.2.1) _) hx hb hd rfl (k p l e R s m args below meth cd hp locs ls X hP hH hS hl hL)
    · cases hs
      exact lv_dup (va := .ref _) (rest := List.map (cv G.2.1) _) hx hb hd rfl (k p l e R s m args below meth cd hp locs ls X hP hH hS hl hL)
    · cases hs
  | pop =>
    simp only [okC, decide_eq_true_eq] at hc
    subst hc
    simp only [stepV] at hs
    unfold popV at hs
    split at hs
    · cases hs
      exact lv_pop (va := .int _) (rest := List.map (cv G.2.1) _) hx hb hd rfl (k p l e R s m args below meth cd hp locs ls X hP hH hS hl hL)
    · cases hs
      exact lv_pop (va := .ref _) (rest := List.map (cv G.2.1) _) hx hb hd rfl (k p l e R s m args below meth cd hp locs ls X hP hH hS hl hL)
    · cases hs
  | goto off =>
    simp only [stepV] at hs
    cases hs
    cases c with
    | retAddr t =>
      simp only [okC, decide_eq_true_eq] at hc
      exact lv_goto hx hb hd hc (k p l e R s m args below meth cd hp locs ls X hP hH hS hl hL)
    | _ => simp [okC] at hc
  | _ => cases hs
theorem sn_blk : ∀ (its : List It) {pc pc' : Nat} {L L' : LL} {st st' : List Value}, decB M.2.1 pc its = true → runB its L st = some (L', st') → endB pc its = pc' → Sn G T M pc' L' st' H → Sn G T M pc L st H
  | [], pc, pc', L, L', st, st', _, hr, he, k => by
    cases hr
    cases he
    exact k
  | it :: r, pc, pc', L, L', st, st', hd, hr, he, k => by
    simp only [decB, Bool.and_eq_true, decide_eq_true_eq] at hd
    simp only [runB] at hr
    split at hr
    · rename_i q hq
      exact sn_it hd.1 hd.2.1 (L' := q.1) (st' := q.2) hq (sn_blk r hd.2.2 hr he k)
    · cases hr
end RULES
