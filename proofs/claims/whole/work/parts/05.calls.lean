/-! Returns and calls of the light machine. -/
def QR (G : GG) (rv : Option Value) (H' : Hp) : Array Value → State → Outcome → State → Prop := fun _ s0 oc t => oc = .returned (rv.map (cv G.2.1)) ∧ va_P G.1 vwCl (cw G H') t.heap ∧ H'.length = 39 ∧ va_F (aA G) s0 t
def T0 (G : GG) (rv : Option Value) (H' : Hp) : Md := (0, 0, fun _ => aA G, fun _ _ => True, fun s args below => MQ below (QR G rv H') args s 0 0 (aA G))
def argL : List Value → LL
  | [] => []
  | .long x :: r => some (.long x) :: none :: argL r
  | .double x :: r => some (.double x) :: none :: argL r
  | .int x :: r => some (.int x) :: argL r
  | .float x :: r => some (.float x) :: argL r
  | .null :: r => some .null :: argL r
  | .ref x :: r => some (.ref x) :: argL r
  | .retAddr x :: r => some (.retAddr x) :: argL r
def eL (n : Nat) (av : List Value) : LL := argL av ++ List.replicate (n - (argL av).length) none
/-- what a method does: from these arguments and cells it comes back with this answer and these cells -/
def SM (G : GG) (M : Mt) (av : List Value) (H : Hp) (rv : Option Value) (H' : Hp) : Prop := Sn G (T0 G rv H') M 0 (eL M.2.2.1 av) [] H
theorem argL_len : ∀ (av : List Value) (ad : Nat → Nat), (argL av).length = (lg_sl (av.map (cv ad))).length
  | [], ad => rfl
  | v :: r, ad => by
    have h := argL_len r ad
    cases v <;> simp [argL, lg_sl, cv, Value.category] at h ⊢ <;> omega
theorem argL_in : ∀ (av : List Value) (ad : Nat → Nat) (k i : Nat) (q : Nat × Value), q ∈ lp ad i (argL av ++ List.replicate k none) → q ∈ lv_args i (av.map (cv ad))
  | [], ad, k, i, q, h => by
    obtain ⟨j, v, h1, -⟩ := (lp_mem _ _ _).mp h
    rw [argL, List.nil_append, List.getElem?_replicate] at h1
    split at h1 <;> cases h1
  | v :: r, ad, k, i, q, h => by
    cases v <;> simp only [argL, List.cons_append, lp, List.mem_cons] at h <;> simp only [List.map_cons, lv_args, cv, Value.category, List.mem_cons] <;> first
      | (rcases h with h | h
         · exact Or.inl h
         · exact Or.inr (argL_in r ad k _ q h))
theorem eL_len {n : Nat} {av : List Value} (h : (argL av).length ≤ n) : (eL n av).length = n := by
  rw [eL, List.length_append, List.length_replicate]
  omega
def wsM (M : Mt) : List Jvm.Cond := .code M.1 M.2.1 M.2.2.1 M.2.2.2.1 :: gW
def rmM (M : Mt) : Room := { frames := M.2.2.2.2.1, cells := 0, slots := 0, locals := M.2.2.2.2.2 }
def PcM (G : GG) (av : List Value) (H : Hp) : Array Value → State → Prop := va_Pc (av.map (cv G.2.1)) (fun U => Ev G (aA G) U ∧ va_P G.1 vwCl (cw G H) U.heap)
theorem SM.met (l : Launch) {G : GG} {M : Mt} {av : List Value} {H H' : Hp} {rv : Option Value} (hs : SM G M av H rv H') (hi : aInj G) (hH : H.length = 39) (hpl : plainName M.1.cls = true) (hal : (argL av).length ≤ M.2.2.1) : Met l M.1 (wsM M) (rmM M) (PcM G av H) (QR G rv H') 0 0 (aA G) := by
  refine Met.ofW (cc := M.2.1) (maxL := M.2.2.1) (ret := M.2.2.2.1) hpl rfl ?_
  intro p e s m args below meth c s₁ B hml hv
  obtain ⟨rfl, hE, hP⟩ := hv
  have hts := atoms_spec (ws := wsM M) B.pre
  have hlen : (lg_sl (av.map (cv G.2.1))).length ≤ M.2.2.1 := by rw [← argL_len]; exact hal
  have hl := lv_entry (av.map (cv G.2.1)) (n := M.2.2.1) hlen
  rw [lg_entry_eq]
  refine hs p l e (rmM M) s m _ below meth c s.heap [] _ ⟨B.exec, B.bytes, hml, B.returns, B.notSynchronized, findClass_of_methodNamed B.named, fun w hw => hts w (List.mem_cons_of_mem _ hw), hE, fun q h => h, Nat.le_refl _, Nat.le_refl _, Nat.le_refl _, Nat.le_refl _, hi, trivial⟩ hP hH va_S.rf ?_ (eL_len hal)
  exact lp_mono (ad := G.2.1) hl (fun q hq => argL_in av G.2.1 _ 0 q hq)
section CALLS
variable {G : GG} {T : Md} {M M2 : Mt} {pc : Nat} {L : LL} {st : List Value} {H H1 : Hp}
theorem sn_iret {v : Int32} {ty : FieldType} (hd : decode M.2.1 pc = .ok (.ireturn, 1)) (hr : M.2.2.2.1 = some ty) (hn : narrow ty (.int v) = .int v) : Sn G (T0 G (some (.int v)) H) M pc L [.int v] H := by
  intro p l e R s m args below meth cd hp locs ls X hP hH hS hl hL
  obtain ⟨hx, hb, -, hret, hlk, -⟩ := id X
  exact W.zret hx hb (hret.trans hr) hn (fun t ht hW => ⟨rfl, by rw [ht]; exact hP, hH, hS.F ht⟩) hS.2.2 hd hlk
theorem sn_lret {v : Int64} (hd : decode M.2.1 pc = .ok (.lreturn, 1)) (hr : M.2.2.2.1 = some .long) : Sn G (T0 G (some (.long v)) H) M pc L [.long v] H := by
  intro p l e R s m args below meth cd hp locs ls X hP hH hS hl hL
  obtain ⟨hx, hb, -, hret, hlk, -⟩ := id X
  exact W.lret hx hb (hret.trans hr) (fun t ht hW => ⟨rfl, by rw [ht]; exact hP, hH, hS.F ht⟩) hS.2.2 hd hlk
theorem sn_vret (hd : decode M.2.1 pc = .ok (.return_, 1)) (hr : M.2.2.2.1 = none) : Sn G (T0 G none H) M pc L [] H := by
  intro p l e R s m args below meth cd hp locs ls X hP hH hS hl hL
  obtain ⟨hx, hb, -, hret, hlk, -⟩ := id X
  exact W.vret hx hb (hret.trans hr) (fun t ht hW => ⟨rfl, by rw [ht]; exact hP, hH, hS.F ht⟩) hS.2.2 hd hlk
/-- a static method's words; an instance method's -/
def MSt (M : Mt) (n : Nat) : Prop := Cond.static M.1 ∈ gW ∧ Cond.initialized M.1.cls ∈ gW ∧ Cond.code M.1 M.2.1 M.2.2.1 M.2.2.2.1 ∈ gW ∧ plainName M.1.cls = true ∧ (M.1.cls ≠ "java/lang/invoke/MethodHandle" ∧ M.1.cls ≠ "java/lang/invoke/VarHandle" ∧ (parseMethodDescriptor M.1.desc).map (fun d => d.parameters.length) = some n)
def MVi (M : Mt) (n ci : Nat) : Prop := Cond.instanceMethod M.1 ∈ gW ∧ Cond.selects M.1.cls M.1 M.1 ∈ gW ∧ Cond.initialized M.1.cls ∈ gW ∧ Cond.code M.1 M.2.1 M.2.2.1 M.2.2.2.1 ∈ gW ∧ plainName M.1.cls = true ∧ (M.1.cls ≠ "java/lang/invoke/MethodHandle" ∧ M.1.cls ≠ "java/lang/invoke/VarHandle" ∧ (parseMethodDescriptor M.1.desc).map (fun d => d.parameters.length) = some n) ∧ (∃ q : vw_C, vwCl[ci]? = some q ∧ q.1 = M.1.cls)
theorem and2 {a b : Bool} (h : (a && b) = true) : a = true ∧ b = true := by
  cases a <;> cases b <;> first | exact ⟨rfl, rfl⟩ | cases h
def stOK (M : Mt) (n i1 i2 i3 : Nat) : Bool := (decide (lw_tbl[i1]? = some (.static M.1)) && goodWord (.static M.1)) && ((decide (lw_tbl[i2]? = some (.initialized M.1.cls)) && goodWord (.initialized M.1.cls)) && ((decide (lw_tbl[i3]? = some (.code M.1 M.2.1 M.2.2.1 M.2.2.2.1)) && goodWord (.code M.1 M.2.1 M.2.2.1 M.2.2.2.1)) && (decide (plainName M.1.cls = true) && decide (M.1.cls ≠ "java/lang/invoke/MethodHandle" ∧ M.1.cls ≠ "java/lang/invoke/VarHandle" ∧ (parseMethodDescriptor M.1.desc).map (fun d => d.parameters.length) = some n))))
theorem MSt.of {M : Mt} {n : Nat} (i1 i2 i3 : Nat) (h : stOK M n i1 i2 i3 = true) : MSt M n := by
  unfold stOK at h
  obtain ⟨h1, h⟩ := and2 h
  obtain ⟨h2, h⟩ := and2 h
  obtain ⟨h3, h⟩ := and2 h
  obtain ⟨h4, h5⟩ := and2 h
  exact ⟨gW_at i1 h1, gW_at i2 h2, gW_at i3 h3, of_decide_eq_true h4, of_decide_eq_true h5⟩
def viOK (M : Mt) (n ci i0 i1 i2 i3 : Nat) : Bool := (decide (lw_tbl[i0]? = some (.instanceMethod M.1)) && goodWord (.instanceMethod M.1)) && ((decide (lw_tbl[i1]? = some (.selects M.1.cls M.1 M.1)) && goodWord (.selects M.1.cls M.1 M.1)) && ((decide (lw_tbl[i2]? = some (.initialized M.1.cls)) && goodWord (.initialized M.1.cls)) && ((decide (lw_tbl[i3]? = some (.code M.1 M.2.1 M.2.2.1 M.2.2.2.1)) && goodWord (.code M.1 M.2.1 M.2.2.1 M.2.2.2.1)) && (decide (plainName M.1.cls = true) && (decide (M.1.cls ≠ "java/lang/invoke/MethodHandle" ∧ M.1.cls ≠ "java/lang/invoke/VarHandle" ∧ (parseMethodDescriptor M.1.desc).map (fun d => d.parameters.length) = some n) && decide ((vwCl[ci]?).map (fun q => q.1) = some M.1.cls))))))
theorem MVi.of {M : Mt} {n ci : Nat} (i0 i1 i2 i3 : Nat) (h : viOK M n ci i0 i1 i2 i3 = true) : MVi M n ci := by
  unfold viOK at h
  obtain ⟨h0, h⟩ := and2 h
  obtain ⟨h1, h⟩ := and2 h
  obtain ⟨h2, h⟩ := and2 h
  obtain ⟨h3, h⟩ := and2 h
  obtain ⟨h4, h⟩ := and2 h
  obtain ⟨h5, h6⟩ := and2 h
  refine ⟨gW_at i0 h0, gW_at i1 h1, gW_at i2 h2, gW_at i3 h3, of_decide_eq_true h4, of_decide_eq_true h5, ?_⟩
  have h7 := of_decide_eq_true h6
  cases hq : vwCl[ci]? with
  | none => rw [hq] at h7; cases h7
  | some q => rw [hq] at h7; exact ⟨q, rfl, Option.some.inj h7⟩
theorem gGood (M : Mt) (h : Cond.code M.1 M.2.1 M.2.2.1 M.2.2.2.1 ∈ gW) : GoodIn gW (wsM M) := by
  intro w hw
  rcases List.mem_cons.mp hw with rfl | hw
  · exact ⟨h, gW_good h⟩
  · exact ⟨hw, gW_good hw⟩
theorem PcM.blind (G : GG) (av : List Value) (H : Hp) : FrameBlind (PcM G av H) := by
  intro a U g mk h
  obtain ⟨h1, h2, h3⟩ := h
  exact ⟨h1, h2.calling, h3⟩
/-- behind a call -/
theorem sn_go {p : Program} {l : Launch} {e : Env} {R : Room} {s : State} {m : MethodId} {args : Array Value} {below : List Frame} {meth : Method} {c : Code} {hp : Heap} {locs : List Loc} {cells slots : Nat} {Q : State → Prop} {ls : Array Slot} {st0 rest : List Value} {rv : Option Value} {a : Array Value} {A0 : Nat → Prop}
    (hr : va_Run p l e R s m args below meth c hp locs cells slots 0 0 (F0 m pc ls st0) rest (QR G rv H1 a) (aA G)) (hS : va_S A0 s.heap hp locs) (hA : ∀ q, aA G q → A0 q)
    (kk : ∀ (hp1 : Heap) (locs1 : List Loc), va_P G.1 vwCl (cw G H1) hp1 → H1.length = 39 → va_S A0 s.heap hp1 locs1 → W p l e R s m args below meth c hp1 locs1 cells slots Q (F0 m (pc + 3) ls ((rv.map (cv G.2.1)).toList ++ rest))) : W p l e R s m args below meth c hp locs cells slots Q (F0 m pc ls st0) := by
  intro U hU X
  obtain ⟨v, st₀, t, U', L, h0, X', hL, e1, e2, ⟨hv, hP, hl, hz, hk⟩, stp⟩ := hr U hU X
  cases hv
  rw [h0] at hz hk
  obtain ⟨t2, a1, b1⟩ := kk U'.heap (locs ++ L) (by rw [e1]; exact hP) hl
    ⟨Nat.le_trans hS.1 (by rw [e1]; exact hz), fun q h1 h2 => by rw [e1, hk q (Nat.lt_of_lt_of_le h1 hS.1) (fun z => h2 (hA q z))]; exact hS.2.1 q h1 h2, fun q hq => by
      rcases List.mem_append.mp hq with h | h
      · exact hS.2.2 q h
      · exact hA _ (hL q h)⟩ U' rfl X'
  exact ⟨t2, stp t2 a1, b1⟩
theorem cv_sum (ad : Nat → Nat) (st : List Value) : ((st.map (cv ad)).map fun v => v.category) = st.map fun v => v.category := by
  rw [List.map_map]
  exact List.map_congr_left (fun v _ => cv_cat ad v)
theorem sn_calls {av : List Value} {stk : List Value} {rv : Option Value} {idx n : Nat} (hd : decode M.2.1 pc = .ok (.invokestatic idx, 3)) (hm : MSt M2 n) (hlk : Cond.methodLink M.1.cls idx M2.1 ∈ gW) (hn : av.length = n) (hal : Nat.ble (argL av).length M2.2.2.1 = true) (hrest : Nat.ble ((st.map fun v => v.category).sum) 8 = true) (hroom : (Nat.ble (M2.2.2.2.2.1 + 1) M.2.2.2.2.1 && Nat.ble (8 + (M2.2.2.1 + 11) + M2.2.2.2.2.2) M.2.2.2.2.2) = true) (hst : stk = av.reverse ++ st) (hs : SM G M2 av H rv H1) (kk : Sn G T M (pc + 3) L (rv.toList ++ st) H1) : Sn G T M pc L stk H := by
  intro p l e R s m args below meth cd hp locs ls X hP hH hS hl hL
  obtain ⟨hx, hb, hml, -, -, hown, hts, hE, hA, hfr, hlo, hce, hsl, hinj, -⟩ := id X
  obtain ⟨m1, m2, m3, m4, m5⟩ := hm
  rw [Bool.and_eq_true] at hroom
  have r1 := Nat.le_of_ble_eq_true hroom.1
  have r2 := Nat.le_of_ble_eq_true hroom.2
  subst hst
  refine sn_go (rest := st.map (cv G.2.1)) (va_runS (As := av.map (cv G.2.1)) (mc := 0) (ms := 0) (nL := M.2.2.1) (own := M.1.cls) ⟨hx, hb, hml, hown, hts⟩ (SM.met l hs hinj hH m4 (Nat.le_of_ble_eq_true hal)) ⟨callB_of n hts (gGood M2 m3) rfl rfl rfl (hts _ m2) (hts _ hlk) m5 ⟨Nat.le_trans r1 hfr, Nat.le_trans r2 hlo⟩, hts _ m1⟩ ⟨PcM.blind G av H, fun U hU hW => ⟨rfl, hE.go hS hU hW hA, by rw [hU]; exact hP⟩⟩ rfl (by rw [List.length_map]; exact hn) hl.1 ?_ ?_ hd ⟨hce, hsl⟩) hS hA (fun hp1 locs1 hP1 hH1 hS1 => ?_)
  · show List.map (cv G.2.1) (av.reverse ++ st) = _
    rw [List.map_append, List.map_reverse]
  · show 2 * 0 + _ ≤ 8
    rw [cv_sum, Nat.mul_zero, Nat.zero_add]
    exact Nat.le_of_ble_eq_true hrest
  · have h := kk p l e R s m args below meth cd hp1 locs1 ls X hP1 hH1 hS1 hl hL
    rw [List.map_append] at h
    cases rv <;> exact h
theorem sn_callv {av : List Value} {stk : List Value} {rv : Option Value} {idx n ci k : Nat} {fs : List Value} (hd : decode M.2.1 pc = .ok (.invokevirtual idx, 3)) (hm : MVi M2 n ci) (hlk : Cond.methodLink M.1.cls idx M2.1 ∈ gW) (hn : av.length = n) (hal : Nat.ble (argL (.ref k :: av)).length M2.2.2.1 = true) (hrest : Nat.ble ((st.map fun v => v.category).sum) 8 = true) (hroom : (Nat.ble (M2.2.2.2.2.1 + 1) M.2.2.2.2.1 && Nat.ble (8 + (M2.2.2.1 + 11) + M2.2.2.2.2.2) M.2.2.2.2.2) = true) (hst : stk = av.reverse ++ .ref k :: st) (hk : H[k]? = some (.inr (ci, fs))) (hs : SM G M2 (.ref k :: av) H rv H1) (kk : Sn G T M (pc + 3) L (rv.toList ++ st) H1) : Sn G T M pc L stk H := by
  intro p l e R s m args below meth cd hp locs ls X hP hH hS hl hL
  obtain ⟨hx, hb, hml, -, -, hown, hts, hE, hA, hfr, hlo, hce, hsl, hinj, -⟩ := id X
  obtain ⟨m0, m1, m2, m3, m4, m5, q, mq, mc⟩ := hm
  rw [Bool.and_eq_true] at hroom
  have r1 := Nat.le_of_ble_eq_true hroom.1
  have r2 := Nat.le_of_ble_eq_true hroom.2
  subst hst
  have he : (cw G H)[k]? = some (G.2.1 k, .inr (ci, fs.map (cv G.2.1))) := cw_get hk
  have hrc := va_recv hE.1 hP mq he
  rw [mc] at hrc
  refine sn_go (rest := st.map (cv G.2.1)) (va_runV (As := av.map (cv G.2.1)) (b := G.2.1 k) (C := M2.1.cls) (mc := 0) (ms := 0) (nL := M.2.2.1) (own := M.1.cls) ⟨hx, hb, hml, hown, hts⟩ (SM.met l hs hinj hH m4 (Nat.le_of_ble_eq_true hal)) ⟨callB_of n hts (gGood M2 m3) rfl rfl rfl (hts _ m2) (hts _ hlk) m5 ⟨Nat.le_trans r1 hfr, Nat.le_trans r2 hlo⟩, hts _ m0, hts _ m1⟩ ⟨PcM.blind G (.ref k :: av) H, hrc, fun U hU hW => ⟨rfl, hE.go hS hU hW hA, by rw [hU]; exact hP⟩⟩ rfl (by rw [List.length_map]; exact hn) hl.1 ?_ ?_ hd ⟨hce, hsl⟩) hS hA (fun hp1 locs1 hP1 hH1 hS1 => ?_)
  · show List.map (cv G.2.1) (av.reverse ++ .ref k :: st) = _
    rw [List.map_append, List.map_reverse]
    rfl
  · show 2 * 0 + _ ≤ 8
    rw [cv_sum, Nat.mul_zero, Nat.zero_add]
    exact Nat.le_of_ble_eq_true hrest
  · have h := kk p l e R s m args below meth cd hp1 locs1 ls X hP1 hH1 hS1 hl hL
    rw [List.map_append] at h
    cases rv <;> exact h
end CALLS
