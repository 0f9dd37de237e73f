/-! The constructors, by the kit's rows: what each leaves. -/
def PcC (dC : Nat → ClassId) (dI : Nat → Nat → Nat) (cI cJ cZ : ClassId) (h0 sz : Nat) (e : va_E) : Array Value → State → Prop := va_Pc [.ref h0] (fun U => U.heap.size = sz ∧ va_P (dC, dI) vwCl [(h0, e)] U.heap ∧ va_K (dC, dI) vwCl [(cI, .int), (cJ, .long), (cZ, .boolean)] U ∧ va_D (fun _ => True) [(h0, e)] ∧ ∀ w ∈ nW, va_Nw w U)
theorem pc_blind' (dC : Nat → ClassId) (dI : Nat → Nat → Nat) (cI cJ cZ : ClassId) (h0 sz : Nat) (e : va_E) : FrameBlind (PcC dC dI cI cJ cZ h0 sz e) := by
  intro a U g mk h
  obtain ⟨h1, h2, h3, h4, h5, h6⟩ := h
  exact ⟨h1, h2, h3, va_K.moved (u := U) (U := U.calling g mk a) (Vm.Alike.refl U.vm) h4, h5, fun w hw => va_Nw.same (nW_on hw) (u := U) (U := U.calling g mk a) rfl (h6 w hw)⟩
abbrev mX0_init : Mt := (yX0_init, cX0_init, 1, none, 1, 12)
theorem dX0_init_0 : decode cX0_init 0 = .ok (.aload_n 0, 1) := by decide +kernel
theorem dX0_init_1 : decode cX0_init 1 = .ok (.invokespecial 1, 3) := by decide +kernel
theorem dX0_init_4 : decode cX0_init 4 = .ok (.aload_n 0, 1) := by decide +kernel
theorem dX0_init_5 : decode cX0_init 5 = .ok (.sipush 128, 3) := by decide +kernel
theorem dX0_init_8 : decode cX0_init 8 = .ok (.newarray .long, 2) := by decide +kernel
theorem dX0_init_10 : decode cX0_init 10 = .ok (.putfield 9, 3) := by decide +kernel
theorem dX0_init_13 : decode cX0_init 13 = .ok (.aload_n 0, 1) := by decide +kernel
theorem dX0_init_14 : decode cX0_init 14 = .ok (.iconst 0, 1) := by decide +kernel
theorem dX0_init_15 : decode cX0_init 15 = .ok (.putfield 13, 3) := by decide +kernel
theorem dX0_init_18 : decode cX0_init 18 = .ok (.return_, 1) := by decide +kernel
set_option maxHeartbeats 4000000 in
set_option maxRecDepth 100000 in
theorem ctX0_init (l : Launch) (dC : Nat → ClassId) (dI : Nat → Nat → Nat) (cI cJ cZ : ClassId) (h0 sz : Nat) : Met l yX0_init (wsM mX0_init) ({ frames := 1, cells := 1, slots := 128, locals := 12 }) (PcC dC dI cI cJ cZ h0 sz (.inr (0, [.null, .int 0]))) (va_Qv (fun _ : Unit => True) (fun _ t => ∃ q1 : Nat, va_P (dC, dI) vwCl [(h0, .inr (0, [.ref q1, .int 0])), (q1, .inl (cJ, 128, .inr (.inl (fun _ => 0))))] t.heap ∧ va_K (dC, dI) vwCl [(cI, .int), (cJ, .long), (cZ, .boolean)] t ∧ va_D (va_A [(h0, .inr (0, [.null, .int 0]))] sz) [(h0, .inr (0, [.ref q1, .int 0])), (q1, .inl (cJ, 128, .inr (.inl (fun _ => 0))))]) (va_A [(h0, .inr (0, [.null, .int 0]))] sz)) 1 128 (va_A [(h0, .inr (0, [.null, .int 0]))] sz) := by
  refine Met.ofW (cc := cX0_init) (maxL := 1) (ret := none) (by decide) rfl ?_
  intro p e s m args below meth c s₁ B hml hv
  obtain ⟨rfl, hsz, hP, hK, hD0, hN⟩ := hv
  have hx := B.exec
  have hb := B.bytes
  have hr := B.returns
  have hts0 := atoms_spec (ws := wsM mX0_init) B.pre
  have hts : ∀ w ∈ gW, w.before ([Value.ref h0] : List Value).toArray s = true := fun w hw => hts0 w (List.mem_cons_of_mem _ hw)
  have hown : s.vm.findClass RX0 = some m.cls := findClass_of_methodNamed B.named
  have hlocks := B.notSynchronized
  have hin : meth.name = "<init>" := (name_of_methodNamed B.named B.method).1
  subst hsz
  have hD := hD0.self (sz := s.heap.size)
  generalize hAe : va_A [(h0, .inr (0, [.null, .int 0]))] s.heap.size = A at hD ⊢
  have hA : ∀ q : Nat, s.heap.size ≤ q → A q := fun q h => by rw [← hAe]; exact Or.inr h
  have hS : va_S A s.heap s.heap [] := va_S.rf
  have hP : va_P (dC, dI) vwCl [(h0, .inr (0, [.null, .int 0]))] s.heap := hP
  have hl := lv_entry ([.ref h0]) (n := 1) (Nat.le_of_ble_eq_true rfl)
  rw [lg_entry_eq]
  generalize (lg_sl ([.ref h0]) ++ List.replicate (1 - (lg_sl ([.ref h0])).length) Slot.unset).toArray = ls at hl ⊢
  have hl : lv_has ls 1 [(0, .ref h0)] := hl
  refine lv_aload_n hx hb dX0_init_0 rfl (lv_at hl 0 rfl) ?_
  refine W.objInit hx hb hown (hts (.methodLink RX0 1 objectInit) (gW_at 146 (by decide +kernel))) (hts (.instanceMethod objectInit) (gW_at 49 (by decide +kernel))) (hts (.code objectInit ⟨#[0xb1]⟩ 1 none) (gW_at 50 (by decide +kernel))) rfl (by rw [hml]; exact hl.1) rfl dX0_init_1 (Nat.le_of_ble_eq_true rfl) (Nat.le_of_ble_eq_true rfl) ?_
  refine W.eq (g2 := F0 m 4 ls []) rfl ?_
  refine lv_aload_n hx hb dX0_init_4 rfl (lv_at hl 0 rfl) ?_
  refine lv_sipush (v := 128) hx hb dX0_init_5 (by decide) ?_
  refine va_newa (atype := .long) (ty := .long) (N' := 128) (a0 := (128, .inr (.inl (fun _ => 0)))) hx hb (hts (.arrayClass .long) (gW_at 156 (by decide +kernel))) rfl hK hP hD hS hA (fun cA => rfl) (by decide) (by decide) (by decide) (Nat.le_of_ble_eq_true rfl) (Nat.le_of_ble_eq_true rfl) dX0_init_8 (fun q1 cA H hK hP hD hS => ?_)
  have hcA : cA = cJ := Option.some.inj ((hK.2 3 _ rfl).2.symm.trans (hK.2 1 _ rfl).2)
  rw [hcA] at hK hP hD
  have hK := hK.sub (tys' := [(cI, .int), (cJ, .long), (cZ, .boolean)]) [0, 1, 2] rfl
  have hP : va_P (dC, dI) vwCl [(h0, .inr (0, [.null, .int 0])), (q1, .inl (cJ, 128, .inr (.inl (fun _ => 0))))] H := hP
  have hD : va_D A [(h0, .inr (0, [.null, .int 0])), (q1, .inl (cJ, 128, .inr (.inl (fun _ => 0))))] := hD
  refine W.widen (k := 1) (n := 128) (Nat.le_of_ble_eq_true rfl) (Nat.le_of_ble_eq_true rfl) ?_
  refine va_putF (D := (dC, dI)) (ci := 0) (v := .ref q1) (ty := .array .long) (C := RX0) (T := TX0) (N := 2) hx hb hts uwX0 tyX0 tyX0_ok nmX0 hown hK hP hD hS 0 rfl rfl 0 (by decide) (hts (.fieldLink RX0 9 "SquareFolds$Distinct" "numbers" "[J") (gW_at 147 (by decide +kernel))) (fun _ h9 => h9) rfl hin rfl (by decide +kernel) rfl rfl (Nat.le_of_ble_eq_true rfl) dX0_init_10 (fun H locs hP hD hS => ?_)
  have hP : va_P (dC, dI) vwCl [(h0, .inr (0, [.ref q1, .int 0])), (q1, .inl (cJ, 128, .inr (.inl (fun _ => 0))))] H := hP
  have hD : va_D A [(h0, .inr (0, [.ref q1, .int 0])), (q1, .inl (cJ, 128, .inr (.inl (fun _ => 0))))] := hD
  refine lv_aload_n hx hb dX0_init_13 rfl (lv_at hl 0 rfl) ?_
  refine lv_iconst (v := 0) hx hb dX0_init_14 (by decide) ?_
  refine va_put (D := (dC, dI)) (ci := 0) (v := .int 0) (ty := .int) (C := RX0) (T := TX0) (N := 2) hx hb hts uwX0 tyX0 tyX0_ok nmX0 hown hK hP hD hS 0 rfl rfl 1 (by decide) (hts (.fieldLink RX0 13 "SquareFolds$Distinct" "count" "I") (gW_at 148 (by decide +kernel))) (fun _ h9 => h9) rfl (by decide +kernel) rfl rfl (Nat.le_of_ble_eq_true rfl) dX0_init_15 (fun H locs hP hD hS => ?_)
  have hP : va_P (dC, dI) vwCl [(h0, .inr (0, [.ref q1, .int 0])), (q1, .inl (cJ, 128, .inr (.inl (fun _ => 0))))] H := hP
  have hD : va_D A [(h0, .inr (0, [.ref q1, .int 0])), (q1, .inl (cJ, 128, .inr (.inl (fun _ => 0))))] := hD
  have hP9 := hP.sub (ws' := [(h0, .inr (0, [.ref q1, .int 0])), (q1, .inl (cJ, 128, .inr (.inl (fun _ => 0))))]) [0, 1] rfl
  have hD9 := hD.sub (ws' := [(h0, .inr (0, [.ref q1, .int 0])), (q1, .inl (cJ, 128, .inr (.inl (fun _ => 0))))]) [0, 1] (by decide) rfl
  exact W.vret hx hb hr (fun t ht hW => ⟨⟨(), rfl, trivial, q1, by rw [ht]; exact hP9, va_K.moved hW.alike hK, hD9⟩, hS.F ht⟩) hS.2.2 dX0_init_18
abbrev mX1_init : Mt := (yX1_init, cX1_init, 1, none, 1, 12)
theorem dX1_init_0 : decode cX1_init 0 = .ok (.aload_n 0, 1) := by decide +kernel
theorem dX1_init_1 : decode cX1_init 1 = .ok (.invokespecial 1, 3) := by decide +kernel
theorem dX1_init_4 : decode cX1_init 4 = .ok (.aload_n 0, 1) := by decide +kernel
theorem dX1_init_5 : decode cX1_init 5 = .ok (.iconst 0, 1) := by decide +kernel
theorem dX1_init_6 : decode cX1_init 6 = .ok (.putfield 7, 3) := by decide +kernel
theorem dX1_init_9 : decode cX1_init 9 = .ok (.aload_n 0, 1) := by decide +kernel
theorem dX1_init_10 : decode cX1_init 10 = .ok (.iconst 1, 1) := by decide +kernel
theorem dX1_init_11 : decode cX1_init 11 = .ok (.putfield 13, 3) := by decide +kernel
theorem dX1_init_14 : decode cX1_init 14 = .ok (.return_, 1) := by decide +kernel
set_option maxHeartbeats 4000000 in
set_option maxRecDepth 100000 in
theorem ctX1_init (l : Launch) (dC : Nat → ClassId) (dI : Nat → Nat → Nat) (cI cJ cZ : ClassId) (h0 sz : Nat) : Met l yX1_init (wsM mX1_init) ({ frames := 1, cells := 0, slots := 0, locals := 12 }) (PcC dC dI cI cJ cZ h0 sz (.inr (1, [.int 0, .int 0]))) (va_Qv (fun _ : Unit => True) (fun _ t => va_P (dC, dI) vwCl [(h0, .inr (1, [.int 0, .int 1]))] t.heap ∧ va_K (dC, dI) vwCl [(cI, .int), (cJ, .long), (cZ, .boolean)] t ∧ va_D (va_A [(h0, .inr (1, [.int 0, .int 0]))] sz) [(h0, .inr (1, [.int 0, .int 1]))]) (va_A [(h0, .inr (1, [.int 0, .int 0]))] sz)) 0 0 (va_A [(h0, .inr (1, [.int 0, .int 0]))] sz) := by
  refine Met.ofW (cc := cX1_init) (maxL := 1) (ret := none) (by decide) rfl ?_
  intro p e s m args below meth c s₁ B hml hv
  obtain ⟨rfl, hsz, hP, hK, hD0, hN⟩ := hv
  have hx := B.exec
  have hb := B.bytes
  have hr := B.returns
  have hts0 := atoms_spec (ws := wsM mX1_init) B.pre
  have hts : ∀ w ∈ gW, w.before ([Value.ref h0] : List Value).toArray s = true := fun w hw => hts0 w (List.mem_cons_of_mem _ hw)
  have hown : s.vm.findClass RX1 = some m.cls := findClass_of_methodNamed B.named
  have hlocks := B.notSynchronized
  have hin : meth.name = "<init>" := (name_of_methodNamed B.named B.method).1
  subst hsz
  have hD := hD0.self (sz := s.heap.size)
  generalize hAe : va_A [(h0, .inr (1, [.int 0, .int 0]))] s.heap.size = A at hD ⊢
  have hA : ∀ q : Nat, s.heap.size ≤ q → A q := fun q h => by rw [← hAe]; exact Or.inr h
  have hS : va_S A s.heap s.heap [] := va_S.rf
  have hP : va_P (dC, dI) vwCl [(h0, .inr (1, [.int 0, .int 0]))] s.heap := hP
  have hl := lv_entry ([.ref h0]) (n := 1) (Nat.le_of_ble_eq_true rfl)
  rw [lg_entry_eq]
  generalize (lg_sl ([.ref h0]) ++ List.replicate (1 - (lg_sl ([.ref h0])).length) Slot.unset).toArray = ls at hl ⊢
  have hl : lv_has ls 1 [(0, .ref h0)] := hl
  refine lv_aload_n hx hb dX1_init_0 rfl (lv_at hl 0 rfl) ?_
  refine W.objInit hx hb hown (hts (.methodLink RX1 1 objectInit) (gW_at 177 (by decide +kernel))) (hts (.instanceMethod objectInit) (gW_at 49 (by decide +kernel))) (hts (.code objectInit ⟨#[0xb1]⟩ 1 none) (gW_at 50 (by decide +kernel))) rfl (by rw [hml]; exact hl.1) rfl dX1_init_1 (Nat.le_of_ble_eq_true rfl) (Nat.le_of_ble_eq_true rfl) ?_
  refine W.eq (g2 := F0 m 4 ls []) rfl ?_
  refine lv_aload_n hx hb dX1_init_4 rfl (lv_at hl 0 rfl) ?_
  refine lv_iconst (v := 0) hx hb dX1_init_5 (by decide) ?_
  refine va_put (D := (dC, dI)) (ci := 1) (v := .int 0) (ty := .int) (C := RX1) (T := TX1) (N := 2) hx hb hts uwX1 tyX1 tyX1_ok nmX1 hown hK hP hD hS 0 rfl rfl 0 (by decide) (hts (.fieldLink RX1 7 "SquareFolds$Fraction" "above" "I") (gW_at 178 (by decide +kernel))) (fun _ h9 => h9) rfl (by decide +kernel) rfl rfl (Nat.le_of_ble_eq_true rfl) dX1_init_6 (fun H locs hP hD hS => ?_)
  have hP : va_P (dC, dI) vwCl [(h0, .inr (1, [.int 0, .int 0]))] H := hP
  have hD : va_D A [(h0, .inr (1, [.int 0, .int 0]))] := hD
  refine lv_aload_n hx hb dX1_init_9 rfl (lv_at hl 0 rfl) ?_
  refine lv_iconst (v := 1) hx hb dX1_init_10 (by decide) ?_
  refine va_put (D := (dC, dI)) (ci := 1) (v := .int 1) (ty := .int) (C := RX1) (T := TX1) (N := 2) hx hb hts uwX1 tyX1 tyX1_ok nmX1 hown hK hP hD hS 0 rfl rfl 1 (by decide) (hts (.fieldLink RX1 13 "SquareFolds$Fraction" "below" "I") (gW_at 179 (by decide +kernel))) (fun _ h9 => h9) rfl (by decide +kernel) rfl rfl (Nat.le_of_ble_eq_true rfl) dX1_init_11 (fun H locs hP hD hS => ?_)
  have hP : va_P (dC, dI) vwCl [(h0, .inr (1, [.int 0, .int 1]))] H := hP
  have hD : va_D A [(h0, .inr (1, [.int 0, .int 1]))] := hD
  have hP9 := hP.sub (ws' := [(h0, .inr (1, [.int 0, .int 1]))]) [0] rfl
  have hD9 := hD.sub (ws' := [(h0, .inr (1, [.int 0, .int 1]))]) [0] (by decide) rfl
  exact W.vret hx hb hr (fun t ht hW => ⟨⟨(), rfl, trivial, by rw [ht]; exact hP9, va_K.moved hW.alike hK, hD9⟩, hS.F ht⟩) hS.2.2 dX1_init_14
abbrev mX2_init : Mt := (yX2_init, cX2_init, 1, none, 1, 12)
theorem dX2_init_0 : decode cX2_init 0 = .ok (.aload_n 0, 1) := by decide +kernel
theorem dX2_init_1 : decode cX2_init 1 = .ok (.invokespecial 3, 3) := by decide +kernel
theorem dX2_init_4 : decode cX2_init 4 = .ok (.aload_n 0, 1) := by decide +kernel
theorem dX2_init_5 : decode cX2_init 5 = .ok (.iconst 1, 1) := by decide +kernel
theorem dX2_init_6 : decode cX2_init 6 = .ok (.putfield 9, 3) := by decide +kernel
theorem dX2_init_9 : decode cX2_init 9 = .ok (.aload_n 0, 1) := by decide +kernel
theorem dX2_init_10 : decode cX2_init 10 = .ok (.iconst 0, 1) := by decide +kernel
theorem dX2_init_11 : decode cX2_init 11 = .ok (.putfield 15, 3) := by decide +kernel
theorem dX2_init_14 : decode cX2_init 14 = .ok (.aload_n 0, 1) := by decide +kernel
theorem dX2_init_15 : decode cX2_init 15 = .ok (.iconst 0, 1) := by decide +kernel
theorem dX2_init_16 : decode cX2_init 16 = .ok (.putfield 18, 3) := by decide +kernel
theorem dX2_init_19 : decode cX2_init 19 = .ok (.return_, 1) := by decide +kernel
set_option maxHeartbeats 4000000 in
set_option maxRecDepth 100000 in
theorem ctX2_init (l : Launch) (dC : Nat → ClassId) (dI : Nat → Nat → Nat) (cI cJ cZ : ClassId) (h0 sz : Nat) : Met l yX2_init (wsM mX2_init) ({ frames := 1, cells := 0, slots := 0, locals := 12 }) (PcC dC dI cI cJ cZ h0 sz (.inr (2, [.int 0, .int 0, .int 0]))) (va_Qv (fun _ : Unit => True) (fun _ t => va_P (dC, dI) vwCl [(h0, .inr (2, [.int 1, .int 0, .int 0]))] t.heap ∧ va_K (dC, dI) vwCl [(cI, .int), (cJ, .long), (cZ, .boolean)] t ∧ va_D (va_A [(h0, .inr (2, [.int 0, .int 0, .int 0]))] sz) [(h0, .inr (2, [.int 1, .int 0, .int 0]))]) (va_A [(h0, .inr (2, [.int 0, .int 0, .int 0]))] sz)) 0 0 (va_A [(h0, .inr (2, [.int 0, .int 0, .int 0]))] sz) := by
  refine Met.ofW (cc := cX2_init) (maxL := 1) (ret := none) (by decide) rfl ?_
  intro p e s m args below meth c s₁ B hml hv
  obtain ⟨rfl, hsz, hP, hK, hD0, hN⟩ := hv
  have hx := B.exec
  have hb := B.bytes
  have hr := B.returns
  have hts0 := atoms_spec (ws := wsM mX2_init) B.pre
  have hts : ∀ w ∈ gW, w.before ([Value.ref h0] : List Value).toArray s = true := fun w hw => hts0 w (List.mem_cons_of_mem _ hw)
  have hown : s.vm.findClass RX2 = some m.cls := findClass_of_methodNamed B.named
  have hlocks := B.notSynchronized
  have hin : meth.name = "<init>" := (name_of_methodNamed B.named B.method).1
  subst hsz
  have hD := hD0.self (sz := s.heap.size)
  generalize hAe : va_A [(h0, .inr (2, [.int 0, .int 0, .int 0]))] s.heap.size = A at hD ⊢
  have hA : ∀ q : Nat, s.heap.size ≤ q → A q := fun q h => by rw [← hAe]; exact Or.inr h
  have hS : va_S A s.heap s.heap [] := va_S.rf
  have hP : va_P (dC, dI) vwCl [(h0, .inr (2, [.int 0, .int 0, .int 0]))] s.heap := hP
  have hl := lv_entry ([.ref h0]) (n := 1) (Nat.le_of_ble_eq_true rfl)
  rw [lg_entry_eq]
  generalize (lg_sl ([.ref h0]) ++ List.replicate (1 - (lg_sl ([.ref h0])).length) Slot.unset).toArray = ls at hl ⊢
  have hl : lv_has ls 1 [(0, .ref h0)] := hl
  refine lv_aload_n hx hb dX2_init_0 rfl (lv_at hl 0 rfl) ?_
  refine W.objInit hx hb hown (hts (.methodLink RX2 3 objectInit) (gW_at 71 (by decide +kernel))) (hts (.instanceMethod objectInit) (gW_at 49 (by decide +kernel))) (hts (.code objectInit ⟨#[0xb1]⟩ 1 none) (gW_at 50 (by decide +kernel))) rfl (by rw [hml]; exact hl.1) rfl dX2_init_1 (Nat.le_of_ble_eq_true rfl) (Nat.le_of_ble_eq_true rfl) ?_
  refine W.eq (g2 := F0 m 4 ls []) rfl ?_
  refine lv_aload_n hx hb dX2_init_4 rfl (lv_at hl 0 rfl) ?_
  refine lv_iconst (v := 1) hx hb dX2_init_5 (by decide) ?_
  refine va_put (D := (dC, dI)) (ci := 2) (v := .int 1) (ty := .int) (C := RX2) (T := TX2) (N := 3) hx hb hts uwX2 tyX2 tyX2_ok nmX2 hown hK hP hD hS 0 rfl rfl 0 (by decide) (hts (.fieldLink RX2 9 "SquareFolds$Gluing" "squares" "I") (gW_at 72 (by decide +kernel))) (fun _ h9 => h9) rfl (by decide +kernel) rfl rfl (Nat.le_of_ble_eq_true rfl) dX2_init_6 (fun H locs hP hD hS => ?_)
  have hP : va_P (dC, dI) vwCl [(h0, .inr (2, [.int 1, .int 0, .int 0]))] H := hP
  have hD : va_D A [(h0, .inr (2, [.int 1, .int 0, .int 0]))] := hD
  refine lv_aload_n hx hb dX2_init_9 rfl (lv_at hl 0 rfl) ?_
  refine lv_iconst (v := 0) hx hb dX2_init_10 (by decide) ?_
  refine va_put (D := (dC, dI)) (ci := 2) (v := .int 0) (ty := .int) (C := RX2) (T := TX2) (N := 3) hx hb hts uwX2 tyX2 tyX2_ok nmX2 hown hK hP hD hS 0 rfl rfl 1 (by decide) (hts (.fieldLink RX2 15 "SquareFolds$Gluing" "right" "I") (gW_at 74 (by decide +kernel))) (fun _ h9 => h9) rfl (by decide +kernel) rfl rfl (Nat.le_of_ble_eq_true rfl) dX2_init_11 (fun H locs hP hD hS => ?_)
  have hP : va_P (dC, dI) vwCl [(h0, .inr (2, [.int 1, .int 0, .int 0]))] H := hP
  have hD : va_D A [(h0, .inr (2, [.int 1, .int 0, .int 0]))] := hD
  refine lv_aload_n hx hb dX2_init_14 rfl (lv_at hl 0 rfl) ?_
  refine lv_iconst (v := 0) hx hb dX2_init_15 (by decide) ?_
  refine va_put (D := (dC, dI)) (ci := 2) (v := .int 0) (ty := .int) (C := RX2) (T := TX2) (N := 3) hx hb hts uwX2 tyX2 tyX2_ok nmX2 hown hK hP hD hS 0 rfl rfl 2 (by decide) (hts (.fieldLink RX2 18 "SquareFolds$Gluing" "up" "I") (gW_at 76 (by decide +kernel))) (fun _ h9 => h9) rfl (by decide +kernel) rfl rfl (Nat.le_of_ble_eq_true rfl) dX2_init_16 (fun H locs hP hD hS => ?_)
  have hP : va_P (dC, dI) vwCl [(h0, .inr (2, [.int 1, .int 0, .int 0]))] H := hP
  have hD : va_D A [(h0, .inr (2, [.int 1, .int 0, .int 0]))] := hD
  have hP9 := hP.sub (ws' := [(h0, .inr (2, [.int 1, .int 0, .int 0]))]) [0] rfl
  have hD9 := hD.sub (ws' := [(h0, .inr (2, [.int 1, .int 0, .int 0]))]) [0] (by decide) rfl
  exact W.vret hx hb hr (fun t ht hW => ⟨⟨(), rfl, trivial, by rw [ht]; exact hP9, va_K.moved hW.alike hK, hD9⟩, hS.F ht⟩) hS.2.2 dX2_init_19
abbrev mX3_init : Mt := (yX3_init, cX3_init, 1, none, 1, 12)
theorem dX3_init_0 : decode cX3_init 0 = .ok (.aload_n 0, 1) := by decide +kernel
theorem dX3_init_1 : decode cX3_init 1 = .ok (.invokespecial 3, 3) := by decide +kernel
theorem dX3_init_4 : decode cX3_init 4 = .ok (.aload_n 0, 1) := by decide +kernel
theorem dX3_init_5 : decode cX3_init 5 = .ok (.bipush 20, 2) := by decide +kernel
theorem dX3_init_7 : decode cX3_init 7 = .ok (.newarray .int, 2) := by decide +kernel
theorem dX3_init_9 : decode cX3_init 9 = .ok (.putfield 11, 3) := by decide +kernel
theorem dX3_init_12 : decode cX3_init 12 = .ok (.aload_n 0, 1) := by decide +kernel
theorem dX3_init_13 : decode cX3_init 13 = .ok (.iconst 0, 1) := by decide +kernel
theorem dX3_init_14 : decode cX3_init 14 = .ok (.putfield 15, 3) := by decide +kernel
theorem dX3_init_17 : decode cX3_init 17 = .ok (.return_, 1) := by decide +kernel
set_option maxHeartbeats 4000000 in
set_option maxRecDepth 100000 in
theorem ctX3_init (l : Launch) (dC : Nat → ClassId) (dI : Nat → Nat → Nat) (cI cJ cZ : ClassId) (h0 sz : Nat) : Met l yX3_init (wsM mX3_init) ({ frames := 1, cells := 1, slots := 20, locals := 12 }) (PcC dC dI cI cJ cZ h0 sz (.inr (3, [.null, .int 0]))) (va_Qv (fun _ : Unit => True) (fun _ t => ∃ q1 : Nat, va_P (dC, dI) vwCl [(h0, .inr (3, [.ref q1, .int 0])), (q1, .inl (cI, 20, .inl (fun _ => 0)))] t.heap ∧ va_K (dC, dI) vwCl [(cI, .int), (cJ, .long), (cZ, .boolean)] t ∧ va_D (va_A [(h0, .inr (3, [.null, .int 0]))] sz) [(h0, .inr (3, [.ref q1, .int 0])), (q1, .inl (cI, 20, .inl (fun _ => 0)))]) (va_A [(h0, .inr (3, [.null, .int 0]))] sz)) 1 20 (va_A [(h0, .inr (3, [.null, .int 0]))] sz) := by
  refine Met.ofW (cc := cX3_init) (maxL := 1) (ret := none) (by decide) rfl ?_
  intro p e s m args below meth c s₁ B hml hv
  obtain ⟨rfl, hsz, hP, hK, hD0, hN⟩ := hv
  have hx := B.exec
  have hb := B.bytes
  have hr := B.returns
  have hts0 := atoms_spec (ws := wsM mX3_init) B.pre
  have hts : ∀ w ∈ gW, w.before ([Value.ref h0] : List Value).toArray s = true := fun w hw => hts0 w (List.mem_cons_of_mem _ hw)
  have hown : s.vm.findClass RX3 = some m.cls := findClass_of_methodNamed B.named
  have hlocks := B.notSynchronized
  have hin : meth.name = "<init>" := (name_of_methodNamed B.named B.method).1
  subst hsz
  have hD := hD0.self (sz := s.heap.size)
  generalize hAe : va_A [(h0, .inr (3, [.null, .int 0]))] s.heap.size = A at hD ⊢
  have hA : ∀ q : Nat, s.heap.size ≤ q → A q := fun q h => by rw [← hAe]; exact Or.inr h
  have hS : va_S A s.heap s.heap [] := va_S.rf
  have hP : va_P (dC, dI) vwCl [(h0, .inr (3, [.null, .int 0]))] s.heap := hP
  have hl := lv_entry ([.ref h0]) (n := 1) (Nat.le_of_ble_eq_true rfl)
  rw [lg_entry_eq]
  generalize (lg_sl ([.ref h0]) ++ List.replicate (1 - (lg_sl ([.ref h0])).length) Slot.unset).toArray = ls at hl ⊢
  have hl : lv_has ls 1 [(0, .ref h0)] := hl
  refine lv_aload_n hx hb dX3_init_0 rfl (lv_at hl 0 rfl) ?_
  refine W.objInit hx hb hown (hts (.methodLink RX3 3 objectInit) (gW_at 56 (by decide +kernel))) (hts (.instanceMethod objectInit) (gW_at 49 (by decide +kernel))) (hts (.code objectInit ⟨#[0xb1]⟩ 1 none) (gW_at 50 (by decide +kernel))) rfl (by rw [hml]; exact hl.1) rfl dX3_init_1 (Nat.le_of_ble_eq_true rfl) (Nat.le_of_ble_eq_true rfl) ?_
  refine W.eq (g2 := F0 m 4 ls []) rfl ?_
  refine lv_aload_n hx hb dX3_init_4 rfl (lv_at hl 0 rfl) ?_
  refine lv_bipush (v := 20) hx hb dX3_init_5 (by decide) ?_
  refine va_newa (atype := .int) (ty := .int) (N' := 20) (a0 := (20, .inl (fun _ => 0))) hx hb (hts (.arrayClass .int) (gW_at 65 (by decide +kernel))) rfl hK hP hD hS hA (fun cA => rfl) (by decide) (by decide) (by decide) (Nat.le_of_ble_eq_true rfl) (Nat.le_of_ble_eq_true rfl) dX3_init_7 (fun q1 cA H hK hP hD hS => ?_)
  have hcA : cA = cI := Option.some.inj ((hK.2 3 _ rfl).2.symm.trans (hK.2 0 _ rfl).2)
  rw [hcA] at hK hP hD
  have hK := hK.sub (tys' := [(cI, .int), (cJ, .long), (cZ, .boolean)]) [0, 1, 2] rfl
  have hP : va_P (dC, dI) vwCl [(h0, .inr (3, [.null, .int 0])), (q1, .inl (cI, 20, .inl (fun _ => 0)))] H := hP
  have hD : va_D A [(h0, .inr (3, [.null, .int 0])), (q1, .inl (cI, 20, .inl (fun _ => 0)))] := hD
  refine W.widen (k := 1) (n := 20) (Nat.le_of_ble_eq_true rfl) (Nat.le_of_ble_eq_true rfl) ?_
  refine va_putF (D := (dC, dI)) (ci := 3) (v := .ref q1) (ty := .array .int) (C := RX3) (T := TX3) (N := 2) hx hb hts uwX3 tyX3 tyX3_ok nmX3 hown hK hP hD hS 0 rfl rfl 0 (by decide) (hts (.fieldLink RX3 11 "SquareFolds$Letters" "letters" "[I") (gW_at 57 (by decide +kernel))) (fun _ h9 => h9) rfl hin rfl (by decide +kernel) rfl rfl (Nat.le_of_ble_eq_true rfl) dX3_init_9 (fun H locs hP hD hS => ?_)
  have hP : va_P (dC, dI) vwCl [(h0, .inr (3, [.ref q1, .int 0])), (q1, .inl (cI, 20, .inl (fun _ => 0)))] H := hP
  have hD : va_D A [(h0, .inr (3, [.ref q1, .int 0])), (q1, .inl (cI, 20, .inl (fun _ => 0)))] := hD
  refine lv_aload_n hx hb dX3_init_12 rfl (lv_at hl 0 rfl) ?_
  refine lv_iconst (v := 0) hx hb dX3_init_13 (by decide) ?_
  refine va_put (D := (dC, dI)) (ci := 3) (v := .int 0) (ty := .int) (C := RX3) (T := TX3) (N := 2) hx hb hts uwX3 tyX3 tyX3_ok nmX3 hown hK hP hD hS 0 rfl rfl 1 (by decide) (hts (.fieldLink RX3 15 "SquareFolds$Letters" "length" "I") (gW_at 58 (by decide +kernel))) (fun _ h9 => h9) rfl (by decide +kernel) rfl rfl (Nat.le_of_ble_eq_true rfl) dX3_init_14 (fun H locs hP hD hS => ?_)
  have hP : va_P (dC, dI) vwCl [(h0, .inr (3, [.ref q1, .int 0])), (q1, .inl (cI, 20, .inl (fun _ => 0)))] H := hP
  have hD : va_D A [(h0, .inr (3, [.ref q1, .int 0])), (q1, .inl (cI, 20, .inl (fun _ => 0)))] := hD
  have hP9 := hP.sub (ws' := [(h0, .inr (3, [.ref q1, .int 0])), (q1, .inl (cI, 20, .inl (fun _ => 0)))]) [0, 1] rfl
  have hD9 := hD.sub (ws' := [(h0, .inr (3, [.ref q1, .int 0])), (q1, .inl (cI, 20, .inl (fun _ => 0)))]) [0, 1] (by decide) rfl
  exact W.vret hx hb hr (fun t ht hW => ⟨⟨(), rfl, trivial, q1, by rw [ht]; exact hP9, va_K.moved hW.alike hK, hD9⟩, hS.F ht⟩) hS.2.2 dX3_init_17
abbrev mX5_init : Mt := (yX5_init, cX5_init, 1, none, 1, 12)
theorem dX5_init_0 : decode cX5_init 0 = .ok (.aload_n 0, 1) := by decide +kernel
theorem dX5_init_1 : decode cX5_init 1 = .ok (.invokespecial 1, 3) := by decide +kernel
theorem dX5_init_4 : decode cX5_init 4 = .ok (.aload_n 0, 1) := by decide +kernel
theorem dX5_init_5 : decode cX5_init 5 = .ok (.bipush 14, 2) := by decide +kernel
theorem dX5_init_7 : decode cX5_init 7 = .ok (.newarray .int, 2) := by decide +kernel
theorem dX5_init_9 : decode cX5_init 9 = .ok (.putfield 9, 3) := by decide +kernel
theorem dX5_init_12 : decode cX5_init 12 = .ok (.aload_n 0, 1) := by decide +kernel
theorem dX5_init_13 : decode cX5_init 13 = .ok (.bipush 14, 2) := by decide +kernel
theorem dX5_init_15 : decode cX5_init 15 = .ok (.newarray .int, 2) := by decide +kernel
theorem dX5_init_17 : decode cX5_init 17 = .ok (.putfield 13, 3) := by decide +kernel
theorem dX5_init_20 : decode cX5_init 20 = .ok (.aload_n 0, 1) := by decide +kernel
theorem dX5_init_21 : decode cX5_init 21 = .ok (.iconst 0, 1) := by decide +kernel
theorem dX5_init_22 : decode cX5_init 22 = .ok (.putfield 16, 3) := by decide +kernel
theorem dX5_init_25 : decode cX5_init 25 = .ok (.return_, 1) := by decide +kernel
set_option maxHeartbeats 4000000 in
set_option maxRecDepth 100000 in
theorem ctX5_init (l : Launch) (dC : Nat → ClassId) (dI : Nat → Nat → Nat) (cI cJ cZ : ClassId) (h0 sz : Nat) : Met l yX5_init (wsM mX5_init) ({ frames := 1, cells := 2, slots := 28, locals := 12 }) (PcC dC dI cI cJ cZ h0 sz (.inr (5, [.null, .null, .int 0]))) (va_Qv (fun _ : Unit => True) (fun _ t => ∃ q1 q2 : Nat, va_P (dC, dI) vwCl [(h0, .inr (5, [.ref q1, .ref q2, .int 0])), (q1, .inl (cI, 14, .inl (fun _ => 0))), (q2, .inl (cI, 14, .inl (fun _ => 0)))] t.heap ∧ va_K (dC, dI) vwCl [(cI, .int), (cJ, .long), (cZ, .boolean)] t ∧ va_D (va_A [(h0, .inr (5, [.null, .null, .int 0]))] sz) [(h0, .inr (5, [.ref q1, .ref q2, .int 0])), (q1, .inl (cI, 14, .inl (fun _ => 0))), (q2, .inl (cI, 14, .inl (fun _ => 0)))]) (va_A [(h0, .inr (5, [.null, .null, .int 0]))] sz)) 2 28 (va_A [(h0, .inr (5, [.null, .null, .int 0]))] sz) := by
  refine Met.ofW (cc := cX5_init) (maxL := 1) (ret := none) (by decide) rfl ?_
  intro p e s m args below meth c s₁ B hml hv
  obtain ⟨rfl, hsz, hP, hK, hD0, hN⟩ := hv
  have hx := B.exec
  have hb := B.bytes
  have hr := B.returns
  have hts0 := atoms_spec (ws := wsM mX5_init) B.pre
  have hts : ∀ w ∈ gW, w.before ([Value.ref h0] : List Value).toArray s = true := fun w hw => hts0 w (List.mem_cons_of_mem _ hw)
  have hown : s.vm.findClass RX5 = some m.cls := findClass_of_methodNamed B.named
  have hlocks := B.notSynchronized
  have hin : meth.name = "<init>" := (name_of_methodNamed B.named B.method).1
  subst hsz
  have hD := hD0.self (sz := s.heap.size)
  generalize hAe : va_A [(h0, .inr (5, [.null, .null, .int 0]))] s.heap.size = A at hD ⊢
  have hA : ∀ q : Nat, s.heap.size ≤ q → A q := fun q h => by rw [← hAe]; exact Or.inr h
  have hS : va_S A s.heap s.heap [] := va_S.rf
  have hP : va_P (dC, dI) vwCl [(h0, .inr (5, [.null, .null, .int 0]))] s.heap := hP
  have hl := lv_entry ([.ref h0]) (n := 1) (Nat.le_of_ble_eq_true rfl)
  rw [lg_entry_eq]
  generalize (lg_sl ([.ref h0]) ++ List.replicate (1 - (lg_sl ([.ref h0])).length) Slot.unset).toArray = ls at hl ⊢
  have hl : lv_has ls 1 [(0, .ref h0)] := hl
  refine lv_aload_n hx hb dX5_init_0 rfl (lv_at hl 0 rfl) ?_
  refine W.objInit hx hb hown (hts (.methodLink RX5 1 objectInit) (gW_at 90 (by decide +kernel))) (hts (.instanceMethod objectInit) (gW_at 49 (by decide +kernel))) (hts (.code objectInit ⟨#[0xb1]⟩ 1 none) (gW_at 50 (by decide +kernel))) rfl (by rw [hml]; exact hl.1) rfl dX5_init_1 (Nat.le_of_ble_eq_true rfl) (Nat.le_of_ble_eq_true rfl) ?_
  refine W.eq (g2 := F0 m 4 ls []) rfl ?_
  refine lv_aload_n hx hb dX5_init_4 rfl (lv_at hl 0 rfl) ?_
  refine lv_bipush (v := 14) hx hb dX5_init_5 (by decide) ?_
  refine va_newa (atype := .int) (ty := .int) (N' := 14) (a0 := (14, .inl (fun _ => 0))) hx hb (hts (.arrayClass .int) (gW_at 65 (by decide +kernel))) rfl hK hP hD hS hA (fun cA => rfl) (by decide) (by decide) (by decide) (Nat.le_of_ble_eq_true rfl) (Nat.le_of_ble_eq_true rfl) dX5_init_7 (fun q1 cA H hK hP hD hS => ?_)
  have hcA : cA = cI := Option.some.inj ((hK.2 3 _ rfl).2.symm.trans (hK.2 0 _ rfl).2)
  rw [hcA] at hK hP hD
  have hK := hK.sub (tys' := [(cI, .int), (cJ, .long), (cZ, .boolean)]) [0, 1, 2] rfl
  have hP : va_P (dC, dI) vwCl [(h0, .inr (5, [.null, .null, .int 0])), (q1, .inl (cI, 14, .inl (fun _ => 0)))] H := hP
  have hD : va_D A [(h0, .inr (5, [.null, .null, .int 0])), (q1, .inl (cI, 14, .inl (fun _ => 0)))] := hD
  refine W.widen (k := 1) (n := 14) (Nat.le_of_ble_eq_true rfl) (Nat.le_of_ble_eq_true rfl) ?_
  refine va_putF (D := (dC, dI)) (ci := 5) (v := .ref q1) (ty := .array .int) (C := RX5) (T := TX5) (N := 3) hx hb hts uwX5 tyX5 tyX5_ok nmX5 hown hK hP hD hS 0 rfl rfl 0 (by decide) (hts (.fieldLink RX5 9 "SquareFolds$Past" "rights" "[I") (gW_at 91 (by decide +kernel))) (fun _ h9 => h9) rfl hin rfl (by decide +kernel) rfl rfl (Nat.le_of_ble_eq_true rfl) dX5_init_9 (fun H locs hP hD hS => ?_)
  have hP : va_P (dC, dI) vwCl [(h0, .inr (5, [.ref q1, .null, .int 0])), (q1, .inl (cI, 14, .inl (fun _ => 0)))] H := hP
  have hD : va_D A [(h0, .inr (5, [.ref q1, .null, .int 0])), (q1, .inl (cI, 14, .inl (fun _ => 0)))] := hD
  refine lv_aload_n hx hb dX5_init_12 rfl (lv_at hl 0 rfl) ?_
  refine lv_bipush (v := 14) hx hb dX5_init_13 (by decide) ?_
  refine va_newa (atype := .int) (ty := .int) (N' := 14) (a0 := (14, .inl (fun _ => 0))) hx hb (hts (.arrayClass .int) (gW_at 65 (by decide +kernel))) rfl hK hP hD hS hA (fun cA => rfl) (by decide) (by decide) (by decide) (Nat.le_of_ble_eq_true rfl) (Nat.le_of_ble_eq_true rfl) dX5_init_15 (fun q2 cA H hK hP hD hS => ?_)
  have hcA : cA = cI := Option.some.inj ((hK.2 3 _ rfl).2.symm.trans (hK.2 0 _ rfl).2)
  rw [hcA] at hK hP hD
  have hK := hK.sub (tys' := [(cI, .int), (cJ, .long), (cZ, .boolean)]) [0, 1, 2] rfl
  have hP : va_P (dC, dI) vwCl [(h0, .inr (5, [.ref q1, .null, .int 0])), (q1, .inl (cI, 14, .inl (fun _ => 0))), (q2, .inl (cI, 14, .inl (fun _ => 0)))] H := hP
  have hD : va_D A [(h0, .inr (5, [.ref q1, .null, .int 0])), (q1, .inl (cI, 14, .inl (fun _ => 0))), (q2, .inl (cI, 14, .inl (fun _ => 0)))] := hD
  refine W.widen (k := 2) (n := 28) (Nat.le_of_ble_eq_true rfl) (Nat.le_of_ble_eq_true rfl) ?_
  refine va_putF (D := (dC, dI)) (ci := 5) (v := .ref q2) (ty := .array .int) (C := RX5) (T := TX5) (N := 3) hx hb hts uwX5 tyX5 tyX5_ok nmX5 hown hK hP hD hS 0 rfl rfl 1 (by decide) (hts (.fieldLink RX5 13 "SquareFolds$Past" "ups" "[I") (gW_at 92 (by decide +kernel))) (fun _ h9 => h9) rfl hin rfl (by decide +kernel) rfl rfl (Nat.le_of_ble_eq_true rfl) dX5_init_17 (fun H locs hP hD hS => ?_)
  have hP : va_P (dC, dI) vwCl [(h0, .inr (5, [.ref q1, .ref q2, .int 0])), (q1, .inl (cI, 14, .inl (fun _ => 0))), (q2, .inl (cI, 14, .inl (fun _ => 0)))] H := hP
  have hD : va_D A [(h0, .inr (5, [.ref q1, .ref q2, .int 0])), (q1, .inl (cI, 14, .inl (fun _ => 0))), (q2, .inl (cI, 14, .inl (fun _ => 0)))] := hD
  refine lv_aload_n hx hb dX5_init_20 rfl (lv_at hl 0 rfl) ?_
  refine lv_iconst (v := 0) hx hb dX5_init_21 (by decide) ?_
  refine va_put (D := (dC, dI)) (ci := 5) (v := .int 0) (ty := .int) (C := RX5) (T := TX5) (N := 3) hx hb hts uwX5 tyX5 tyX5_ok nmX5 hown hK hP hD hS 0 rfl rfl 2 (by decide) (hts (.fieldLink RX5 16 "SquareFolds$Past" "count" "I") (gW_at 93 (by decide +kernel))) (fun _ h9 => h9) rfl (by decide +kernel) rfl rfl (Nat.le_of_ble_eq_true rfl) dX5_init_22 (fun H locs hP hD hS => ?_)
  have hP : va_P (dC, dI) vwCl [(h0, .inr (5, [.ref q1, .ref q2, .int 0])), (q1, .inl (cI, 14, .inl (fun _ => 0))), (q2, .inl (cI, 14, .inl (fun _ => 0)))] H := hP
  have hD : va_D A [(h0, .inr (5, [.ref q1, .ref q2, .int 0])), (q1, .inl (cI, 14, .inl (fun _ => 0))), (q2, .inl (cI, 14, .inl (fun _ => 0)))] := hD
  have hP9 := hP.sub (ws' := [(h0, .inr (5, [.ref q1, .ref q2, .int 0])), (q1, .inl (cI, 14, .inl (fun _ => 0))), (q2, .inl (cI, 14, .inl (fun _ => 0)))]) [0, 1, 2] rfl
  have hD9 := hD.sub (ws' := [(h0, .inr (5, [.ref q1, .ref q2, .int 0])), (q1, .inl (cI, 14, .inl (fun _ => 0))), (q2, .inl (cI, 14, .inl (fun _ => 0)))]) [0, 1, 2] (by decide) rfl
  exact W.vret hx hb hr (fun t ht hW => ⟨⟨(), rfl, trivial, q1, q2, by rw [ht]; exact hP9, va_K.moved hW.alike hK, hD9⟩, hS.F ht⟩) hS.2.2 dX5_init_25
abbrev mX7_init : Mt := (yX7_init, cX7_init, 1, none, 1, 12)
theorem dX7_init_0 : decode cX7_init 0 = .ok (.aload_n 0, 1) := by decide +kernel
theorem dX7_init_1 : decode cX7_init 1 = .ok (.invokespecial 1, 3) := by decide +kernel
theorem dX7_init_4 : decode cX7_init 4 = .ok (.aload_n 0, 1) := by decide +kernel
theorem dX7_init_5 : decode cX7_init 5 = .ok (.bipush 6, 2) := by decide +kernel
theorem dX7_init_7 : decode cX7_init 7 = .ok (.newarray .int, 2) := by decide +kernel
theorem dX7_init_9 : decode cX7_init 9 = .ok (.putfield 9, 3) := by decide +kernel
theorem dX7_init_12 : decode cX7_init 12 = .ok (.aload_n 0, 1) := by decide +kernel
theorem dX7_init_13 : decode cX7_init 13 = .ok (.bipush 6, 2) := by decide +kernel
theorem dX7_init_15 : decode cX7_init 15 = .ok (.newarray .int, 2) := by decide +kernel
theorem dX7_init_17 : decode cX7_init 17 = .ok (.putfield 13, 3) := by decide +kernel
theorem dX7_init_20 : decode cX7_init 20 = .ok (.aload_n 0, 1) := by decide +kernel
theorem dX7_init_21 : decode cX7_init 21 = .ok (.iconst 0, 1) := by decide +kernel
theorem dX7_init_22 : decode cX7_init 22 = .ok (.putfield 16, 3) := by decide +kernel
theorem dX7_init_25 : decode cX7_init 25 = .ok (.return_, 1) := by decide +kernel
set_option maxHeartbeats 4000000 in
set_option maxRecDepth 100000 in
theorem ctX7_init (l : Launch) (dC : Nat → ClassId) (dI : Nat → Nat → Nat) (cI cJ cZ : ClassId) (h0 sz : Nat) : Met l yX7_init (wsM mX7_init) ({ frames := 1, cells := 2, slots := 12, locals := 12 }) (PcC dC dI cI cJ cZ h0 sz (.inr (6, [.null, .null, .int 0]))) (va_Qv (fun _ : Unit => True) (fun _ t => ∃ q1 q2 : Nat, va_P (dC, dI) vwCl [(h0, .inr (6, [.ref q1, .ref q2, .int 0])), (q1, .inl (cI, 6, .inl (fun _ => 0))), (q2, .inl (cI, 6, .inl (fun _ => 0)))] t.heap ∧ va_K (dC, dI) vwCl [(cI, .int), (cJ, .long), (cZ, .boolean)] t ∧ va_D (va_A [(h0, .inr (6, [.null, .null, .int 0]))] sz) [(h0, .inr (6, [.ref q1, .ref q2, .int 0])), (q1, .inl (cI, 6, .inl (fun _ => 0))), (q2, .inl (cI, 6, .inl (fun _ => 0)))]) (va_A [(h0, .inr (6, [.null, .null, .int 0]))] sz)) 2 12 (va_A [(h0, .inr (6, [.null, .null, .int 0]))] sz) := by
  refine Met.ofW (cc := cX7_init) (maxL := 1) (ret := none) (by decide) rfl ?_
  intro p e s m args below meth c s₁ B hml hv
  obtain ⟨rfl, hsz, hP, hK, hD0, hN⟩ := hv
  have hx := B.exec
  have hb := B.bytes
  have hr := B.returns
  have hts0 := atoms_spec (ws := wsM mX7_init) B.pre
  have hts : ∀ w ∈ gW, w.before ([Value.ref h0] : List Value).toArray s = true := fun w hw => hts0 w (List.mem_cons_of_mem _ hw)
  have hown : s.vm.findClass RX7 = some m.cls := findClass_of_methodNamed B.named
  have hlocks := B.notSynchronized
  have hin : meth.name = "<init>" := (name_of_methodNamed B.named B.method).1
  subst hsz
  have hD := hD0.self (sz := s.heap.size)
  generalize hAe : va_A [(h0, .inr (6, [.null, .null, .int 0]))] s.heap.size = A at hD ⊢
  have hA : ∀ q : Nat, s.heap.size ≤ q → A q := fun q h => by rw [← hAe]; exact Or.inr h
  have hS : va_S A s.heap s.heap [] := va_S.rf
  have hP : va_P (dC, dI) vwCl [(h0, .inr (6, [.null, .null, .int 0]))] s.heap := hP
  have hl := lv_entry ([.ref h0]) (n := 1) (Nat.le_of_ble_eq_true rfl)
  rw [lg_entry_eq]
  generalize (lg_sl ([.ref h0]) ++ List.replicate (1 - (lg_sl ([.ref h0])).length) Slot.unset).toArray = ls at hl ⊢
  have hl : lv_has ls 1 [(0, .ref h0)] := hl
  refine lv_aload_n hx hb dX7_init_0 rfl (lv_at hl 0 rfl) ?_
  refine W.objInit hx hb hown (hts (.methodLink RX7 1 objectInit) (gW_at 123 (by decide +kernel))) (hts (.instanceMethod objectInit) (gW_at 49 (by decide +kernel))) (hts (.code objectInit ⟨#[0xb1]⟩ 1 none) (gW_at 50 (by decide +kernel))) rfl (by rw [hml]; exact hl.1) rfl dX7_init_1 (Nat.le_of_ble_eq_true rfl) (Nat.le_of_ble_eq_true rfl) ?_
  refine W.eq (g2 := F0 m 4 ls []) rfl ?_
  refine lv_aload_n hx hb dX7_init_4 rfl (lv_at hl 0 rfl) ?_
  refine lv_bipush (v := 6) hx hb dX7_init_5 (by decide) ?_
  refine va_newa (atype := .int) (ty := .int) (N' := 6) (a0 := (6, .inl (fun _ => 0))) hx hb (hts (.arrayClass .int) (gW_at 65 (by decide +kernel))) rfl hK hP hD hS hA (fun cA => rfl) (by decide) (by decide) (by decide) (Nat.le_of_ble_eq_true rfl) (Nat.le_of_ble_eq_true rfl) dX7_init_7 (fun q1 cA H hK hP hD hS => ?_)
  have hcA : cA = cI := Option.some.inj ((hK.2 3 _ rfl).2.symm.trans (hK.2 0 _ rfl).2)
  rw [hcA] at hK hP hD
  have hK := hK.sub (tys' := [(cI, .int), (cJ, .long), (cZ, .boolean)]) [0, 1, 2] rfl
  have hP : va_P (dC, dI) vwCl [(h0, .inr (6, [.null, .null, .int 0])), (q1, .inl (cI, 6, .inl (fun _ => 0)))] H := hP
  have hD : va_D A [(h0, .inr (6, [.null, .null, .int 0])), (q1, .inl (cI, 6, .inl (fun _ => 0)))] := hD
  refine W.widen (k := 1) (n := 6) (Nat.le_of_ble_eq_true rfl) (Nat.le_of_ble_eq_true rfl) ?_
  refine va_putF (D := (dC, dI)) (ci := 6) (v := .ref q1) (ty := .array .int) (C := RX7) (T := TX7) (N := 3) hx hb hts uwX7 tyX7 tyX7_ok nmX7 hown hK hP hD hS 0 rfl rfl 0 (by decide) (hts (.fieldLink RX7 9 "SquareFolds$Sightings" "ways" "[I") (gW_at 124 (by decide +kernel))) (fun _ h9 => h9) rfl hin rfl (by decide +kernel) rfl rfl (Nat.le_of_ble_eq_true rfl) dX7_init_9 (fun H locs hP hD hS => ?_)
  have hP : va_P (dC, dI) vwCl [(h0, .inr (6, [.ref q1, .null, .int 0])), (q1, .inl (cI, 6, .inl (fun _ => 0)))] H := hP
  have hD : va_D A [(h0, .inr (6, [.ref q1, .null, .int 0])), (q1, .inl (cI, 6, .inl (fun _ => 0)))] := hD
  refine lv_aload_n hx hb dX7_init_12 rfl (lv_at hl 0 rfl) ?_
  refine lv_bipush (v := 6) hx hb dX7_init_13 (by decide) ?_
  refine va_newa (atype := .int) (ty := .int) (N' := 6) (a0 := (6, .inl (fun _ => 0))) hx hb (hts (.arrayClass .int) (gW_at 65 (by decide +kernel))) rfl hK hP hD hS hA (fun cA => rfl) (by decide) (by decide) (by decide) (Nat.le_of_ble_eq_true rfl) (Nat.le_of_ble_eq_true rfl) dX7_init_15 (fun q2 cA H hK hP hD hS => ?_)
  have hcA : cA = cI := Option.some.inj ((hK.2 3 _ rfl).2.symm.trans (hK.2 0 _ rfl).2)
  rw [hcA] at hK hP hD
  have hK := hK.sub (tys' := [(cI, .int), (cJ, .long), (cZ, .boolean)]) [0, 1, 2] rfl
  have hP : va_P (dC, dI) vwCl [(h0, .inr (6, [.ref q1, .null, .int 0])), (q1, .inl (cI, 6, .inl (fun _ => 0))), (q2, .inl (cI, 6, .inl (fun _ => 0)))] H := hP
  have hD : va_D A [(h0, .inr (6, [.ref q1, .null, .int 0])), (q1, .inl (cI, 6, .inl (fun _ => 0))), (q2, .inl (cI, 6, .inl (fun _ => 0)))] := hD
  refine W.widen (k := 2) (n := 12) (Nat.le_of_ble_eq_true rfl) (Nat.le_of_ble_eq_true rfl) ?_
  refine va_putF (D := (dC, dI)) (ci := 6) (v := .ref q2) (ty := .array .int) (C := RX7) (T := TX7) (N := 3) hx hb hts uwX7 tyX7 tyX7_ok nmX7 hown hK hP hD hS 0 rfl rfl 1 (by decide) (hts (.fieldLink RX7 13 "SquareFolds$Sightings" "backs" "[I") (gW_at 125 (by decide +kernel))) (fun _ h9 => h9) rfl hin rfl (by decide +kernel) rfl rfl (Nat.le_of_ble_eq_true rfl) dX7_init_17 (fun H locs hP hD hS => ?_)
  have hP : va_P (dC, dI) vwCl [(h0, .inr (6, [.ref q1, .ref q2, .int 0])), (q1, .inl (cI, 6, .inl (fun _ => 0))), (q2, .inl (cI, 6, .inl (fun _ => 0)))] H := hP
  have hD : va_D A [(h0, .inr (6, [.ref q1, .ref q2, .int 0])), (q1, .inl (cI, 6, .inl (fun _ => 0))), (q2, .inl (cI, 6, .inl (fun _ => 0)))] := hD
  refine lv_aload_n hx hb dX7_init_20 rfl (lv_at hl 0 rfl) ?_
  refine lv_iconst (v := 0) hx hb dX7_init_21 (by decide) ?_
  refine va_put (D := (dC, dI)) (ci := 6) (v := .int 0) (ty := .int) (C := RX7) (T := TX7) (N := 3) hx hb hts uwX7 tyX7 tyX7_ok nmX7 hown hK hP hD hS 0 rfl rfl 2 (by decide) (hts (.fieldLink RX7 16 "SquareFolds$Sightings" "count" "I") (gW_at 126 (by decide +kernel))) (fun _ h9 => h9) rfl (by decide +kernel) rfl rfl (Nat.le_of_ble_eq_true rfl) dX7_init_22 (fun H locs hP hD hS => ?_)
  have hP : va_P (dC, dI) vwCl [(h0, .inr (6, [.ref q1, .ref q2, .int 0])), (q1, .inl (cI, 6, .inl (fun _ => 0))), (q2, .inl (cI, 6, .inl (fun _ => 0)))] H := hP
  have hD : va_D A [(h0, .inr (6, [.ref q1, .ref q2, .int 0])), (q1, .inl (cI, 6, .inl (fun _ => 0))), (q2, .inl (cI, 6, .inl (fun _ => 0)))] := hD
  have hP9 := hP.sub (ws' := [(h0, .inr (6, [.ref q1, .ref q2, .int 0])), (q1, .inl (cI, 6, .inl (fun _ => 0))), (q2, .inl (cI, 6, .inl (fun _ => 0)))]) [0, 1, 2] rfl
  have hD9 := hD.sub (ws' := [(h0, .inr (6, [.ref q1, .ref q2, .int 0])), (q1, .inl (cI, 6, .inl (fun _ => 0))), (q2, .inl (cI, 6, .inl (fun _ => 0)))]) [0, 1, 2] (by decide) rfl
  exact W.vret hx hb hr (fun t ht hW => ⟨⟨(), rfl, trivial, q1, q2, by rw [ht]; exact hP9, va_K.moved hW.alike hK, hD9⟩, hS.F ht⟩) hS.2.2 dX7_init_25
abbrev mX8_init : Mt := (yX8_init, cX8_init, 1, none, 1, 12)
theorem dX8_init_0 : decode cX8_init 0 = .ok (.aload_n 0, 1) := by decide +kernel
theorem dX8_init_1 : decode cX8_init 1 = .ok (.invokespecial 1, 3) := by decide +kernel
theorem dX8_init_4 : decode cX8_init 4 = .ok (.aload_n 0, 1) := by decide +kernel
theorem dX8_init_5 : decode cX8_init 5 = .ok (.iconst 2, 1) := by decide +kernel
theorem dX8_init_6 : decode cX8_init 6 = .ok (.newarray .int, 2) := by decide +kernel
theorem dX8_init_8 : decode cX8_init 8 = .ok (.putfield 9, 3) := by decide +kernel
theorem dX8_init_11 : decode cX8_init 11 = .ok (.aload_n 0, 1) := by decide +kernel
theorem dX8_init_12 : decode cX8_init 12 = .ok (.iconst 2, 1) := by decide +kernel
theorem dX8_init_13 : decode cX8_init 13 = .ok (.newarray .int, 2) := by decide +kernel
theorem dX8_init_15 : decode cX8_init 15 = .ok (.putfield 13, 3) := by decide +kernel
theorem dX8_init_18 : decode cX8_init 18 = .ok (.aload_n 0, 1) := by decide +kernel
theorem dX8_init_19 : decode cX8_init 19 = .ok (.iconst 0, 1) := by decide +kernel
theorem dX8_init_20 : decode cX8_init 20 = .ok (.putfield 16, 3) := by decide +kernel
theorem dX8_init_23 : decode cX8_init 23 = .ok (.return_, 1) := by decide +kernel
set_option maxHeartbeats 4000000 in
set_option maxRecDepth 100000 in
theorem ctX8_init (l : Launch) (dC : Nat → ClassId) (dI : Nat → Nat → Nat) (cI cJ cZ : ClassId) (h0 sz : Nat) : Met l yX8_init (wsM mX8_init) ({ frames := 1, cells := 2, slots := 4, locals := 12 }) (PcC dC dI cI cJ cZ h0 sz (.inr (7, [.null, .null, .int 0]))) (va_Qv (fun _ : Unit => True) (fun _ t => ∃ q1 q2 : Nat, va_P (dC, dI) vwCl [(h0, .inr (7, [.ref q1, .ref q2, .int 0])), (q1, .inl (cI, 2, .inl (fun _ => 0))), (q2, .inl (cI, 2, .inl (fun _ => 0)))] t.heap ∧ va_K (dC, dI) vwCl [(cI, .int), (cJ, .long), (cZ, .boolean)] t ∧ va_D (va_A [(h0, .inr (7, [.null, .null, .int 0]))] sz) [(h0, .inr (7, [.ref q1, .ref q2, .int 0])), (q1, .inl (cI, 2, .inl (fun _ => 0))), (q2, .inl (cI, 2, .inl (fun _ => 0)))]) (va_A [(h0, .inr (7, [.null, .null, .int 0]))] sz)) 2 4 (va_A [(h0, .inr (7, [.null, .null, .int 0]))] sz) := by
  refine Met.ofW (cc := cX8_init) (maxL := 1) (ret := none) (by decide) rfl ?_
  intro p e s m args below meth c s₁ B hml hv
  obtain ⟨rfl, hsz, hP, hK, hD0, hN⟩ := hv
  have hx := B.exec
  have hb := B.bytes
  have hr := B.returns
  have hts0 := atoms_spec (ws := wsM mX8_init) B.pre
  have hts : ∀ w ∈ gW, w.before ([Value.ref h0] : List Value).toArray s = true := fun w hw => hts0 w (List.mem_cons_of_mem _ hw)
  have hown : s.vm.findClass RX8 = some m.cls := findClass_of_methodNamed B.named
  have hlocks := B.notSynchronized
  have hin : meth.name = "<init>" := (name_of_methodNamed B.named B.method).1
  subst hsz
  have hD := hD0.self (sz := s.heap.size)
  generalize hAe : va_A [(h0, .inr (7, [.null, .null, .int 0]))] s.heap.size = A at hD ⊢
  have hA : ∀ q : Nat, s.heap.size ≤ q → A q := fun q h => by rw [← hAe]; exact Or.inr h
  have hS : va_S A s.heap s.heap [] := va_S.rf
  have hP : va_P (dC, dI) vwCl [(h0, .inr (7, [.null, .null, .int 0]))] s.heap := hP
  have hl := lv_entry ([.ref h0]) (n := 1) (Nat.le_of_ble_eq_true rfl)
  rw [lg_entry_eq]
  generalize (lg_sl ([.ref h0]) ++ List.replicate (1 - (lg_sl ([.ref h0])).length) Slot.unset).toArray = ls at hl ⊢
  have hl : lv_has ls 1 [(0, .ref h0)] := hl
  refine lv_aload_n hx hb dX8_init_0 rfl (lv_at hl 0 rfl) ?_
  refine W.objInit hx hb hown (hts (.methodLink RX8 1 objectInit) (gW_at 107 (by decide +kernel))) (hts (.instanceMethod objectInit) (gW_at 49 (by decide +kernel))) (hts (.code objectInit ⟨#[0xb1]⟩ 1 none) (gW_at 50 (by decide +kernel))) rfl (by rw [hml]; exact hl.1) rfl dX8_init_1 (Nat.le_of_ble_eq_true rfl) (Nat.le_of_ble_eq_true rfl) ?_
  refine W.eq (g2 := F0 m 4 ls []) rfl ?_
  refine lv_aload_n hx hb dX8_init_4 rfl (lv_at hl 0 rfl) ?_
  refine lv_iconst (v := 2) hx hb dX8_init_5 (by decide) ?_
  refine va_newa (atype := .int) (ty := .int) (N' := 2) (a0 := (2, .inl (fun _ => 0))) hx hb (hts (.arrayClass .int) (gW_at 65 (by decide +kernel))) rfl hK hP hD hS hA (fun cA => rfl) (by decide) (by decide) (by decide) (Nat.le_of_ble_eq_true rfl) (Nat.le_of_ble_eq_true rfl) dX8_init_6 (fun q1 cA H hK hP hD hS => ?_)
  have hcA : cA = cI := Option.some.inj ((hK.2 3 _ rfl).2.symm.trans (hK.2 0 _ rfl).2)
  rw [hcA] at hK hP hD
  have hK := hK.sub (tys' := [(cI, .int), (cJ, .long), (cZ, .boolean)]) [0, 1, 2] rfl
  have hP : va_P (dC, dI) vwCl [(h0, .inr (7, [.null, .null, .int 0])), (q1, .inl (cI, 2, .inl (fun _ => 0)))] H := hP
  have hD : va_D A [(h0, .inr (7, [.null, .null, .int 0])), (q1, .inl (cI, 2, .inl (fun _ => 0)))] := hD
  refine W.widen (k := 1) (n := 2) (Nat.le_of_ble_eq_true rfl) (Nat.le_of_ble_eq_true rfl) ?_
  refine va_putF (D := (dC, dI)) (ci := 7) (v := .ref q1) (ty := .array .int) (C := RX8) (T := TX8) (N := 3) hx hb hts uwX8 tyX8 tyX8_ok nmX8 hown hK hP hD hS 0 rfl rfl 0 (by decide) (hts (.fieldLink RX8 9 "SquareFolds$Slots" "rights" "[I") (gW_at 108 (by decide +kernel))) (fun _ h9 => h9) rfl hin rfl (by decide +kernel) rfl rfl (Nat.le_of_ble_eq_true rfl) dX8_init_8 (fun H locs hP hD hS => ?_)
  have hP : va_P (dC, dI) vwCl [(h0, .inr (7, [.ref q1, .null, .int 0])), (q1, .inl (cI, 2, .inl (fun _ => 0)))] H := hP
  have hD : va_D A [(h0, .inr (7, [.ref q1, .null, .int 0])), (q1, .inl (cI, 2, .inl (fun _ => 0)))] := hD
  refine lv_aload_n hx hb dX8_init_11 rfl (lv_at hl 0 rfl) ?_
  refine lv_iconst (v := 2) hx hb dX8_init_12 (by decide) ?_
  refine va_newa (atype := .int) (ty := .int) (N' := 2) (a0 := (2, .inl (fun _ => 0))) hx hb (hts (.arrayClass .int) (gW_at 65 (by decide +kernel))) rfl hK hP hD hS hA (fun cA => rfl) (by decide) (by decide) (by decide) (Nat.le_of_ble_eq_true rfl) (Nat.le_of_ble_eq_true rfl) dX8_init_13 (fun q2 cA H hK hP hD hS => ?_)
  have hcA : cA = cI := Option.some.inj ((hK.2 3 _ rfl).2.symm.trans (hK.2 0 _ rfl).2)
  rw [hcA] at hK hP hD
  have hK := hK.sub (tys' := [(cI, .int), (cJ, .long), (cZ, .boolean)]) [0, 1, 2] rfl
  have hP : va_P (dC, dI) vwCl [(h0, .inr (7, [.ref q1, .null, .int 0])), (q1, .inl (cI, 2, .inl (fun _ => 0))), (q2, .inl (cI, 2, .inl (fun _ => 0)))] H := hP
  have hD : va_D A [(h0, .inr (7, [.ref q1, .null, .int 0])), (q1, .inl (cI, 2, .inl (fun _ => 0))), (q2, .inl (cI, 2, .inl (fun _ => 0)))] := hD
  refine W.widen (k := 2) (n := 4) (Nat.le_of_ble_eq_true rfl) (Nat.le_of_ble_eq_true rfl) ?_
  refine va_putF (D := (dC, dI)) (ci := 7) (v := .ref q2) (ty := .array .int) (C := RX8) (T := TX8) (N := 3) hx hb hts uwX8 tyX8 tyX8_ok nmX8 hown hK hP hD hS 0 rfl rfl 1 (by decide) (hts (.fieldLink RX8 13 "SquareFolds$Slots" "ups" "[I") (gW_at 109 (by decide +kernel))) (fun _ h9 => h9) rfl hin rfl (by decide +kernel) rfl rfl (Nat.le_of_ble_eq_true rfl) dX8_init_15 (fun H locs hP hD hS => ?_)
  have hP : va_P (dC, dI) vwCl [(h0, .inr (7, [.ref q1, .ref q2, .int 0])), (q1, .inl (cI, 2, .inl (fun _ => 0))), (q2, .inl (cI, 2, .inl (fun _ => 0)))] H := hP
  have hD : va_D A [(h0, .inr (7, [.ref q1, .ref q2, .int 0])), (q1, .inl (cI, 2, .inl (fun _ => 0))), (q2, .inl (cI, 2, .inl (fun _ => 0)))] := hD
  refine lv_aload_n hx hb dX8_init_18 rfl (lv_at hl 0 rfl) ?_
  refine lv_iconst (v := 0) hx hb dX8_init_19 (by decide) ?_
  refine va_put (D := (dC, dI)) (ci := 7) (v := .int 0) (ty := .int) (C := RX8) (T := TX8) (N := 3) hx hb hts uwX8 tyX8 tyX8_ok nmX8 hown hK hP hD hS 0 rfl rfl 2 (by decide) (hts (.fieldLink RX8 16 "SquareFolds$Slots" "keptBits" "I") (gW_at 110 (by decide +kernel))) (fun _ h9 => h9) rfl (by decide +kernel) rfl rfl (Nat.le_of_ble_eq_true rfl) dX8_init_20 (fun H locs hP hD hS => ?_)
  have hP : va_P (dC, dI) vwCl [(h0, .inr (7, [.ref q1, .ref q2, .int 0])), (q1, .inl (cI, 2, .inl (fun _ => 0))), (q2, .inl (cI, 2, .inl (fun _ => 0)))] H := hP
  have hD : va_D A [(h0, .inr (7, [.ref q1, .ref q2, .int 0])), (q1, .inl (cI, 2, .inl (fun _ => 0))), (q2, .inl (cI, 2, .inl (fun _ => 0)))] := hD
  have hP9 := hP.sub (ws' := [(h0, .inr (7, [.ref q1, .ref q2, .int 0])), (q1, .inl (cI, 2, .inl (fun _ => 0))), (q2, .inl (cI, 2, .inl (fun _ => 0)))]) [0, 1, 2] rfl
  have hD9 := hD.sub (ws' := [(h0, .inr (7, [.ref q1, .ref q2, .int 0])), (q1, .inl (cI, 2, .inl (fun _ => 0))), (q2, .inl (cI, 2, .inl (fun _ => 0)))]) [0, 1, 2] (by decide) rfl
  exact W.vret hx hb hr (fun t ht hW => ⟨⟨(), rfl, trivial, q1, q2, by rw [ht]; exact hP9, va_K.moved hW.alike hK, hD9⟩, hS.F ht⟩) hS.2.2 dX8_init_23
abbrev mX4_init : Mt := (yX4_init, cX4_init, 1, none, 2, 32)
theorem dX4_init_0 : decode cX4_init 0 = .ok (.aload_n 0, 1) := by decide +kernel
theorem dX4_init_1 : decode cX4_init 1 = .ok (.invokespecial 3, 3) := by decide +kernel
theorem dX4_init_4 : decode cX4_init 4 = .ok (.aload_n 0, 1) := by decide +kernel
theorem dX4_init_5 : decode cX4_init 5 = .ok (.new 9, 3) := by decide +kernel
theorem dX4_init_8 : decode cX4_init 8 = .ok (.dup, 1) := by decide +kernel
theorem dX4_init_9 : decode cX4_init 9 = .ok (.invokespecial 11, 3) := by decide +kernel
theorem dX4_init_12 : decode cX4_init 12 = .ok (.putfield 12, 3) := by decide +kernel
theorem dX4_init_15 : decode cX4_init 15 = .ok (.aload_n 0, 1) := by decide +kernel
theorem dX4_init_16 : decode cX4_init 16 = .ok (.sipush 128, 3) := by decide +kernel
theorem dX4_init_19 : decode cX4_init 19 = .ok (.newarray .int, 2) := by decide +kernel
theorem dX4_init_21 : decode cX4_init 21 = .ok (.putfield 18, 3) := by decide +kernel
theorem dX4_init_24 : decode cX4_init 24 = .ok (.aload_n 0, 1) := by decide +kernel
theorem dX4_init_25 : decode cX4_init 25 = .ok (.new 22, 3) := by decide +kernel
theorem dX4_init_28 : decode cX4_init 28 = .ok (.dup, 1) := by decide +kernel
theorem dX4_init_29 : decode cX4_init 29 = .ok (.invokespecial 24, 3) := by decide +kernel
theorem dX4_init_32 : decode cX4_init 32 = .ok (.putfield 25, 3) := by decide +kernel
theorem dX4_init_35 : decode cX4_init 35 = .ok (.return_, 1) := by decide +kernel
set_option maxHeartbeats 4000000 in
set_option maxRecDepth 100000 in
theorem ctX4_init (l : Launch) (dC : Nat → ClassId) (dI : Nat → Nat → Nat) (cI cJ cZ : ClassId) (h0 sz : Nat) : Met l yX4_init (wsM mX4_init) ({ frames := 2, cells := 4, slots := 261, locals := 32 }) (PcC dC dI cI cJ cZ h0 sz (.inr (4, [.null, .null, .null]))) (va_Qv (fun _ : Unit => True) (fun _ t => ∃ q1 q2 q3 q4 : Nat, va_P (dC, dI) vwCl [(h0, .inr (4, [.ref q1, .ref q3, .ref q4])), (q1, .inr (0, [.ref q2, .int 0])), (q2, .inl (cJ, 128, .inr (.inl (fun _ => 0)))), (q3, .inl (cI, 128, .inl (fun _ => 0))), (q4, .inr (2, [.int 1, .int 0, .int 0]))] t.heap ∧ va_K (dC, dI) vwCl [(cI, .int), (cJ, .long), (cZ, .boolean)] t ∧ va_D (va_A [(h0, .inr (4, [.null, .null, .null]))] sz) [(h0, .inr (4, [.ref q1, .ref q3, .ref q4])), (q1, .inr (0, [.ref q2, .int 0])), (q2, .inl (cJ, 128, .inr (.inl (fun _ => 0)))), (q3, .inl (cI, 128, .inl (fun _ => 0))), (q4, .inr (2, [.int 1, .int 0, .int 0]))]) (va_A [(h0, .inr (4, [.null, .null, .null]))] sz)) 4 261 (va_A [(h0, .inr (4, [.null, .null, .null]))] sz) := by
  refine Met.ofW (cc := cX4_init) (maxL := 1) (ret := none) (by decide) rfl ?_
  intro p e s m args below meth c s₁ B hml hv
  obtain ⟨rfl, hsz, hP, hK, hD0, hN⟩ := hv
  have hx := B.exec
  have hb := B.bytes
  have hr := B.returns
  have hts0 := atoms_spec (ws := wsM mX4_init) B.pre
  have hts : ∀ w ∈ gW, w.before ([Value.ref h0] : List Value).toArray s = true := fun w hw => hts0 w (List.mem_cons_of_mem _ hw)
  have hown : s.vm.findClass RX4 = some m.cls := findClass_of_methodNamed B.named
  have hlocks := B.notSynchronized
  have hin : meth.name = "<init>" := (name_of_methodNamed B.named B.method).1
  subst hsz
  have hD := hD0.self (sz := s.heap.size)
  generalize hAe : va_A [(h0, .inr (4, [.null, .null, .null]))] s.heap.size = A at hD ⊢
  have hA : ∀ q : Nat, s.heap.size ≤ q → A q := fun q h => by rw [← hAe]; exact Or.inr h
  have hS : va_S A s.heap s.heap [] := va_S.rf
  have hP : va_P (dC, dI) vwCl [(h0, .inr (4, [.null, .null, .null]))] s.heap := hP
  have hl := lv_entry ([.ref h0]) (n := 1) (Nat.le_of_ble_eq_true rfl)
  rw [lg_entry_eq]
  generalize (lg_sl ([.ref h0]) ++ List.replicate (1 - (lg_sl ([.ref h0])).length) Slot.unset).toArray = ls at hl ⊢
  have hl : lv_has ls 1 [(0, .ref h0)] := hl
  refine lv_aload_n hx hb dX4_init_0 rfl (lv_at hl 0 rfl) ?_
  refine W.objInit hx hb hown (hts (.methodLink RX4 3 objectInit) (gW_at 140 (by decide +kernel))) (hts (.instanceMethod objectInit) (gW_at 49 (by decide +kernel))) (hts (.code objectInit ⟨#[0xb1]⟩ 1 none) (gW_at 50 (by decide +kernel))) rfl (by rw [hml]; exact hl.1) rfl dX4_init_1 (Nat.le_of_ble_eq_true rfl) (Nat.le_of_ble_eq_true rfl) ?_
  refine W.eq (g2 := F0 m 4 ls []) rfl ?_
  refine lv_aload_n hx hb dX4_init_4 rfl (lv_at hl 0 rfl) ?_
  refine va_new (ci := 0) (fs := [.null, .int 0]) (C := RX0) (T := TX0) (N := 2) hx hb hts uwX0 tyX0 tyX0_ok hown (hts (.classLink RX4 9 RX0) (gW_at 141 (by decide +kernel))) (hts (.instantiable RX0 2) (gW_at 142 (by decide +kernel))) (hts (.initialized RX0) (gW_at 36 (by decide +kernel))) hK hP hD hS hA rfl (fun j hj => by rcases (show j = 0 ∨ j = 1 by omega) with rfl | rfl <;> rfl) (Nat.le_of_ble_eq_true rfl) (Nat.le_of_ble_eq_true rfl) dX4_init_5 (fun q1 H hP hD hS => ?_)
  have hP : va_P (dC, dI) vwCl [(h0, .inr (4, [.null, .null, .null])), (q1, .inr (0, [.null, .int 0]))] H := hP
  have hD : va_D A [(h0, .inr (4, [.null, .null, .null])), (q1, .inr (0, [.null, .int 0]))] := hD
  refine W.widen (k := 1) (n := 2) (Nat.le_of_ble_eq_true rfl) (Nat.le_of_ble_eq_true rfl) ?_
  refine lv_dup hx hb dX4_init_8 rfl ?_
  have hPc := hP.sub (ws' := [(q1, .inr (0, [.null, .int 0]))]) [1] rfl
  have hDc := hD.sub (ws' := [(q1, .inr (0, [.null, .int 0]))]) [1] (by decide) rfl
  have hFc := va_free (wc := [(q1, .inr (0, [.null, .int 0]))]) hD hS hA [1] rfl
  refine va_callv (va_runIN (As := []) (rest := [.ref q1, .ref h0]) ⟨hx, hb, hml, hown, hts⟩ (ctX0_init l dC dI cI cJ cZ q1 H.size) ⟨va_cnB 0 hts (gGood mX0_init (gW_at 145 (by decide +kernel))) rfl rfl rfl (hN (.methodLinkNest RX4 11 yX0_init "SquareFolds") (nW_at 143 (by decide +kernel))) (hts (.initialized RX0) (gW_at 36 (by decide +kernel))) (by decide +kernel) ⟨Nat.le_of_ble_eq_true rfl, Nat.le_of_ble_eq_true rfl⟩, rfl, hts (.instanceMethod yX0_init) (gW_at 144 (by decide +kernel))⟩ ⟨pc_blind' dC dI cI cJ cZ _ _ _, fun U hU hW => ⟨rfl, by rw [hU], by rw [hU]; exact hPc, va_K.moved hW.alike hK, hDc.weaken (fun _ _ _ _ => trivial), nW_warm hW hN⟩⟩ rfl rfl hl.1 rfl (lv_room (Nat.le_of_ble_eq_true rfl)) dX4_init_9 ⟨Nat.le_of_ble_eq_true rfl, Nat.le_of_ble_eq_true rfl⟩) hS (fun q _ h => hFc q h) hFc (fun u t H1 locs ht hvm hw hB hz1 hk1 hS => ?_)
  obtain ⟨q2, hP1, hK1, hD1⟩ := hB
  rw [ht] at hP1
  obtain ⟨hP, hD⟩ := va_join (wr := [(h0, .inr (4, [.null, .null, .null]))]) (w1 := [(q1, .inr (0, [.ref q2, .int 0])), (q2, .inl (cJ, 128, .inr (.inl (fun _ => 0))))]) hP hD [1] [0] rfl rfl (by decide) (by decide) hk1 hFc hP1 hD1
  generalize H1 = H at hP hS ⊢
  have hP : va_P (dC, dI) vwCl [(h0, .inr (4, [.null, .null, .null])), (q1, .inr (0, [.ref q2, .int 0])), (q2, .inl (cJ, 128, .inr (.inl (fun _ => 0))))] H := hP
  have hD : va_D A [(h0, .inr (4, [.null, .null, .null])), (q1, .inr (0, [.ref q2, .int 0])), (q2, .inl (cJ, 128, .inr (.inl (fun _ => 0))))] := hD
  refine W.widen (k := 2) (n := 130) (Nat.le_of_ble_eq_true rfl) (Nat.le_of_ble_eq_true rfl) ?_
  refine va_putF (D := (dC, dI)) (ci := 4) (v := .ref q1) (ty := .object "SquareFolds$Distinct") (C := RX4) (T := TX4) (N := 3) hx hb hts uwX4 tyX4 tyX4_ok nmX4 hown hK hP hD hS 0 rfl rfl 0 (by decide) (hts (.fieldLink RX4 12 "SquareFolds$NameOrbit" "names" "LSquareFolds$Distinct;") (gW_at 159 (by decide +kernel))) (fun _ h9 => h9) rfl hin rfl (by decide +kernel) rfl rfl (Nat.le_of_ble_eq_true rfl) dX4_init_12 (fun H locs hP hD hS => ?_)
  have hP : va_P (dC, dI) vwCl [(h0, .inr (4, [.ref q1, .null, .null])), (q1, .inr (0, [.ref q2, .int 0])), (q2, .inl (cJ, 128, .inr (.inl (fun _ => 0))))] H := hP
  have hD : va_D A [(h0, .inr (4, [.ref q1, .null, .null])), (q1, .inr (0, [.ref q2, .int 0])), (q2, .inl (cJ, 128, .inr (.inl (fun _ => 0))))] := hD
  refine lv_aload_n hx hb dX4_init_15 rfl (lv_at hl 0 rfl) ?_
  refine lv_sipush (v := 128) hx hb dX4_init_16 (by decide) ?_
  refine va_newa (atype := .int) (ty := .int) (N' := 128) (a0 := (128, .inl (fun _ => 0))) hx hb (hts (.arrayClass .int) (gW_at 65 (by decide +kernel))) rfl hK hP hD hS hA (fun cA => rfl) (by decide) (by decide) (by decide) (Nat.le_of_ble_eq_true rfl) (Nat.le_of_ble_eq_true rfl) dX4_init_19 (fun q3 cA H hK hP hD hS => ?_)
  have hcA : cA = cI := Option.some.inj ((hK.2 3 _ rfl).2.symm.trans (hK.2 0 _ rfl).2)
  rw [hcA] at hK hP hD
  have hK := hK.sub (tys' := [(cI, .int), (cJ, .long), (cZ, .boolean)]) [0, 1, 2] rfl
  have hP : va_P (dC, dI) vwCl [(h0, .inr (4, [.ref q1, .null, .null])), (q1, .inr (0, [.ref q2, .int 0])), (q2, .inl (cJ, 128, .inr (.inl (fun _ => 0)))), (q3, .inl (cI, 128, .inl (fun _ => 0)))] H := hP
  have hD : va_D A [(h0, .inr (4, [.ref q1, .null, .null])), (q1, .inr (0, [.ref q2, .int 0])), (q2, .inl (cJ, 128, .inr (.inl (fun _ => 0)))), (q3, .inl (cI, 128, .inl (fun _ => 0)))] := hD
  refine W.widen (k := 3) (n := 258) (Nat.le_of_ble_eq_true rfl) (Nat.le_of_ble_eq_true rfl) ?_
  refine va_putF (D := (dC, dI)) (ci := 4) (v := .ref q3) (ty := .array .int) (C := RX4) (T := TX4) (N := 3) hx hb hts uwX4 tyX4 tyX4_ok nmX4 hown hK hP hD hS 0 rfl rfl 1 (by decide) (hts (.fieldLink RX4 18 "SquareFolds$NameOrbit" "sheared" "[I") (gW_at 161 (by decide +kernel))) (fun _ h9 => h9) rfl hin rfl (by decide +kernel) rfl rfl (Nat.le_of_ble_eq_true rfl) dX4_init_21 (fun H locs hP hD hS => ?_)
  have hP : va_P (dC, dI) vwCl [(h0, .inr (4, [.ref q1, .ref q3, .null])), (q1, .inr (0, [.ref q2, .int 0])), (q2, .inl (cJ, 128, .inr (.inl (fun _ => 0)))), (q3, .inl (cI, 128, .inl (fun _ => 0)))] H := hP
  have hD : va_D A [(h0, .inr (4, [.ref q1, .ref q3, .null])), (q1, .inr (0, [.ref q2, .int 0])), (q2, .inl (cJ, 128, .inr (.inl (fun _ => 0)))), (q3, .inl (cI, 128, .inl (fun _ => 0)))] := hD
  refine lv_aload_n hx hb dX4_init_24 rfl (lv_at hl 0 rfl) ?_
  refine va_new (ci := 2) (fs := [.int 0, .int 0, .int 0]) (C := RX2) (T := TX2) (N := 3) hx hb hts uwX2 tyX2 tyX2_ok hown (hts (.classLink RX4 22 RX2) (gW_at 157 (by decide +kernel))) (hts (.instantiable RX2 3) (gW_at 67 (by decide +kernel))) (hts (.initialized RX2) (gW_at 31 (by decide +kernel))) hK hP hD hS hA rfl (fun j hj => by rcases (show j = 0 ∨ j = 1 ∨ j = 2 by omega) with rfl | rfl | rfl <;> rfl) (Nat.le_of_ble_eq_true rfl) (Nat.le_of_ble_eq_true rfl) dX4_init_25 (fun q4 H hP hD hS => ?_)
  have hP : va_P (dC, dI) vwCl [(h0, .inr (4, [.ref q1, .ref q3, .null])), (q1, .inr (0, [.ref q2, .int 0])), (q2, .inl (cJ, 128, .inr (.inl (fun _ => 0)))), (q3, .inl (cI, 128, .inl (fun _ => 0))), (q4, .inr (2, [.int 0, .int 0, .int 0]))] H := hP
  have hD : va_D A [(h0, .inr (4, [.ref q1, .ref q3, .null])), (q1, .inr (0, [.ref q2, .int 0])), (q2, .inl (cJ, 128, .inr (.inl (fun _ => 0)))), (q3, .inl (cI, 128, .inl (fun _ => 0))), (q4, .inr (2, [.int 0, .int 0, .int 0]))] := hD
  refine W.widen (k := 4) (n := 261) (Nat.le_of_ble_eq_true rfl) (Nat.le_of_ble_eq_true rfl) ?_
  refine lv_dup hx hb dX4_init_28 rfl ?_
  have hPc := hP.sub (ws' := [(q4, .inr (2, [.int 0, .int 0, .int 0]))]) [4] rfl
  have hDc := hD.sub (ws' := [(q4, .inr (2, [.int 0, .int 0, .int 0]))]) [4] (by decide) rfl
  have hFc := va_free (wc := [(q4, .inr (2, [.int 0, .int 0, .int 0]))]) hD hS hA [4] rfl
  refine va_callv (va_runIN (As := []) (rest := [.ref q4, .ref h0]) ⟨hx, hb, hml, hown, hts⟩ (ctX2_init l dC dI cI cJ cZ q4 H.size) ⟨va_cnB 0 hts (gGood mX2_init (gW_at 70 (by decide +kernel))) rfl rfl rfl (hN (.methodLinkNest RX4 24 yX2_init "SquareFolds") (nW_at 158 (by decide +kernel))) (hts (.initialized RX2) (gW_at 31 (by decide +kernel))) (by decide +kernel) ⟨Nat.le_of_ble_eq_true rfl, Nat.le_of_ble_eq_true rfl⟩, rfl, hts (.instanceMethod yX2_init) (gW_at 69 (by decide +kernel))⟩ ⟨pc_blind' dC dI cI cJ cZ _ _ _, fun U hU hW => ⟨rfl, by rw [hU], by rw [hU]; exact hPc, va_K.moved hW.alike hK, hDc.weaken (fun _ _ _ _ => trivial), nW_warm hW hN⟩⟩ rfl rfl hl.1 rfl (lv_room (Nat.le_of_ble_eq_true rfl)) dX4_init_29 ⟨Nat.le_of_ble_eq_true rfl, Nat.le_of_ble_eq_true rfl⟩) hS (fun q _ h => hFc q h) hFc (fun u t H1 locs ht hvm hw hB hz1 hk1 hS => ?_)
  obtain ⟨hP1, hK1, hD1⟩ := hB
  rw [ht] at hP1
  obtain ⟨hP, hD⟩ := va_join (wr := [(h0, .inr (4, [.ref q1, .ref q3, .null])), (q1, .inr (0, [.ref q2, .int 0])), (q2, .inl (cJ, 128, .inr (.inl (fun _ => 0)))), (q3, .inl (cI, 128, .inl (fun _ => 0)))]) (w1 := [(q4, .inr (2, [.int 1, .int 0, .int 0]))]) hP hD [4] [0, 1, 2, 3] rfl rfl (by decide) (by decide) hk1 hFc hP1 hD1
  generalize H1 = H at hP hS ⊢
  have hP : va_P (dC, dI) vwCl [(h0, .inr (4, [.ref q1, .ref q3, .null])), (q1, .inr (0, [.ref q2, .int 0])), (q2, .inl (cJ, 128, .inr (.inl (fun _ => 0)))), (q3, .inl (cI, 128, .inl (fun _ => 0))), (q4, .inr (2, [.int 1, .int 0, .int 0]))] H := hP
  have hD : va_D A [(h0, .inr (4, [.ref q1, .ref q3, .null])), (q1, .inr (0, [.ref q2, .int 0])), (q2, .inl (cJ, 128, .inr (.inl (fun _ => 0)))), (q3, .inl (cI, 128, .inl (fun _ => 0))), (q4, .inr (2, [.int 1, .int 0, .int 0]))] := hD
  refine W.widen (k := 4) (n := 261) (Nat.le_of_ble_eq_true rfl) (Nat.le_of_ble_eq_true rfl) ?_
  refine va_putF (D := (dC, dI)) (ci := 4) (v := .ref q4) (ty := .object "SquareFolds$Gluing") (C := RX4) (T := TX4) (N := 3) hx hb hts uwX4 tyX4 tyX4_ok nmX4 hown hK hP hD hS 0 rfl rfl 2 (by decide) (hts (.fieldLink RX4 25 "SquareFolds$NameOrbit" "shape" "LSquareFolds$Gluing;") (gW_at 162 (by decide +kernel))) (fun _ h9 => h9) rfl hin rfl (by decide +kernel) rfl rfl (Nat.le_of_ble_eq_true rfl) dX4_init_32 (fun H locs hP hD hS => ?_)
  have hP : va_P (dC, dI) vwCl [(h0, .inr (4, [.ref q1, .ref q3, .ref q4])), (q1, .inr (0, [.ref q2, .int 0])), (q2, .inl (cJ, 128, .inr (.inl (fun _ => 0)))), (q3, .inl (cI, 128, .inl (fun _ => 0))), (q4, .inr (2, [.int 1, .int 0, .int 0]))] H := hP
  have hD : va_D A [(h0, .inr (4, [.ref q1, .ref q3, .ref q4])), (q1, .inr (0, [.ref q2, .int 0])), (q2, .inl (cJ, 128, .inr (.inl (fun _ => 0)))), (q3, .inl (cI, 128, .inl (fun _ => 0))), (q4, .inr (2, [.int 1, .int 0, .int 0]))] := hD
  have hP9 := hP.sub (ws' := [(h0, .inr (4, [.ref q1, .ref q3, .ref q4])), (q1, .inr (0, [.ref q2, .int 0])), (q2, .inl (cJ, 128, .inr (.inl (fun _ => 0)))), (q3, .inl (cI, 128, .inl (fun _ => 0))), (q4, .inr (2, [.int 1, .int 0, .int 0]))]) [0, 1, 2, 3, 4] rfl
  have hD9 := hD.sub (ws' := [(h0, .inr (4, [.ref q1, .ref q3, .ref q4])), (q1, .inr (0, [.ref q2, .int 0])), (q2, .inl (cJ, 128, .inr (.inl (fun _ => 0)))), (q3, .inl (cI, 128, .inl (fun _ => 0))), (q4, .inr (2, [.int 1, .int 0, .int 0]))]) [0, 1, 2, 3, 4] (by decide) rfl
  exact W.vret hx hb hr (fun t ht hW => ⟨⟨(), rfl, trivial, q1, q2, q3, q4, by rw [ht]; exact hP9, va_K.moved hW.alike hK, hD9⟩, hS.F ht⟩) hS.2.2 dX4_init_35
abbrev mX9_init : Mt := (yX9_init, cX9_init, 1, none, 3, 52)
theorem dX9_init_0 : decode cX9_init 0 = .ok (.aload_n 0, 1) := by decide +kernel
theorem dX9_init_1 : decode cX9_init 1 = .ok (.invokespecial 1, 3) := by decide +kernel
theorem dX9_init_4 : decode cX9_init 4 = .ok (.aload_n 0, 1) := by decide +kernel
theorem dX9_init_5 : decode cX9_init 5 = .ok (.new 7, 3) := by decide +kernel
theorem dX9_init_8 : decode cX9_init 8 = .ok (.dup, 1) := by decide +kernel
theorem dX9_init_9 : decode cX9_init 9 = .ok (.invokespecial 9, 3) := by decide +kernel
theorem dX9_init_12 : decode cX9_init 12 = .ok (.putfield 10, 3) := by decide +kernel
theorem dX9_init_15 : decode cX9_init 15 = .ok (.aload_n 0, 1) := by decide +kernel
theorem dX9_init_16 : decode cX9_init 16 = .ok (.new 16, 3) := by decide +kernel
theorem dX9_init_19 : decode cX9_init 19 = .ok (.dup, 1) := by decide +kernel
theorem dX9_init_20 : decode cX9_init 20 = .ok (.invokespecial 18, 3) := by decide +kernel
theorem dX9_init_23 : decode cX9_init 23 = .ok (.putfield 19, 3) := by decide +kernel
theorem dX9_init_26 : decode cX9_init 26 = .ok (.aload_n 0, 1) := by decide +kernel
theorem dX9_init_27 : decode cX9_init 27 = .ok (.new 16, 3) := by decide +kernel
theorem dX9_init_30 : decode cX9_init 30 = .ok (.dup, 1) := by decide +kernel
theorem dX9_init_31 : decode cX9_init 31 = .ok (.invokespecial 18, 3) := by decide +kernel
theorem dX9_init_34 : decode cX9_init 34 = .ok (.putfield 23, 3) := by decide +kernel
theorem dX9_init_37 : decode cX9_init 37 = .ok (.aload_n 0, 1) := by decide +kernel
theorem dX9_init_38 : decode cX9_init 38 = .ok (.new 26, 3) := by decide +kernel
theorem dX9_init_41 : decode cX9_init 41 = .ok (.dup, 1) := by decide +kernel
theorem dX9_init_42 : decode cX9_init 42 = .ok (.invokespecial 28, 3) := by decide +kernel
theorem dX9_init_45 : decode cX9_init 45 = .ok (.putfield 29, 3) := by decide +kernel
theorem dX9_init_48 : decode cX9_init 48 = .ok (.aload_n 0, 1) := by decide +kernel
theorem dX9_init_49 : decode cX9_init 49 = .ok (.new 33, 3) := by decide +kernel
theorem dX9_init_52 : decode cX9_init 52 = .ok (.dup, 1) := by decide +kernel
theorem dX9_init_53 : decode cX9_init 53 = .ok (.invokespecial 35, 3) := by decide +kernel
theorem dX9_init_56 : decode cX9_init 56 = .ok (.putfield 36, 3) := by decide +kernel
theorem dX9_init_59 : decode cX9_init 59 = .ok (.aload_n 0, 1) := by decide +kernel
theorem dX9_init_60 : decode cX9_init 60 = .ok (.new 40, 3) := by decide +kernel
theorem dX9_init_63 : decode cX9_init 63 = .ok (.dup, 1) := by decide +kernel
theorem dX9_init_64 : decode cX9_init 64 = .ok (.invokespecial 42, 3) := by decide +kernel
theorem dX9_init_67 : decode cX9_init 67 = .ok (.putfield 43, 3) := by decide +kernel
theorem dX9_init_70 : decode cX9_init 70 = .ok (.aload_n 0, 1) := by decide +kernel
theorem dX9_init_71 : decode cX9_init 71 = .ok (.new 47, 3) := by decide +kernel
theorem dX9_init_74 : decode cX9_init 74 = .ok (.dup, 1) := by decide +kernel
theorem dX9_init_75 : decode cX9_init 75 = .ok (.invokespecial 49, 3) := by decide +kernel
theorem dX9_init_78 : decode cX9_init 78 = .ok (.putfield 50, 3) := by decide +kernel
theorem dX9_init_81 : decode cX9_init 81 = .ok (.aload_n 0, 1) := by decide +kernel
theorem dX9_init_82 : decode cX9_init 82 = .ok (.new 54, 3) := by decide +kernel
theorem dX9_init_85 : decode cX9_init 85 = .ok (.dup, 1) := by decide +kernel
theorem dX9_init_86 : decode cX9_init 86 = .ok (.invokespecial 56, 3) := by decide +kernel
theorem dX9_init_89 : decode cX9_init 89 = .ok (.putfield 57, 3) := by decide +kernel
theorem dX9_init_92 : decode cX9_init 92 = .ok (.aload_n 0, 1) := by decide +kernel
theorem dX9_init_93 : decode cX9_init 93 = .ok (.new 61, 3) := by decide +kernel
theorem dX9_init_96 : decode cX9_init 96 = .ok (.dup, 1) := by decide +kernel
theorem dX9_init_97 : decode cX9_init 97 = .ok (.invokespecial 63, 3) := by decide +kernel
theorem dX9_init_100 : decode cX9_init 100 = .ok (.putfield 64, 3) := by decide +kernel
theorem dX9_init_103 : decode cX9_init 103 = .ok (.aload_n 0, 1) := by decide +kernel
theorem dX9_init_104 : decode cX9_init 104 = .ok (.lconst 0, 1) := by decide +kernel
theorem dX9_init_105 : decode cX9_init 105 = .ok (.putfield 68, 3) := by decide +kernel
theorem dX9_init_108 : decode cX9_init 108 = .ok (.return_, 1) := by decide +kernel
set_option maxHeartbeats 4000000 in
set_option maxRecDepth 100000 in
theorem ctX9_init (l : Launch) (dC : Nat → ClassId) (dI : Nat → Nat → Nat) (cI cJ cZ : ClassId) (h0 sz : Nat) : Met l yX9_init (wsM mX9_init) ({ frames := 3, cells := 21, slots := 477, locals := 52 }) (PcC dC dI cI cJ cZ h0 sz (.inr (8, [.null, .null, .null, .null, .null, .null, .null, .null, .null, .long 0]))) (va_Qv (fun _ : Unit => True) (fun _ t => ∃ q1 q2 q3 q4 q5 q6 q7 q8 q9 q10 q11 q12 q13 q14 q15 q16 q17 q18 q19 q20 q21 : Nat, va_P (dC, dI) vwCl [(h0, .inr (8, [.ref q1, .ref q3, .ref q4, .ref q5, .ref q8, .ref q11, .ref q14, .ref q19, .ref q21, .long 0])), (q1, .inr (3, [.ref q2, .int 0])), (q2, .inl (cI, 20, .inl (fun _ => 0))), (q3, .inr (2, [.int 1, .int 0, .int 0])), (q4, .inr (2, [.int 1, .int 0, .int 0])), (q5, .inr (5, [.ref q6, .ref q7, .int 0])), (q6, .inl (cI, 14, .inl (fun _ => 0))), (q7, .inl (cI, 14, .inl (fun _ => 0))), (q8, .inr (7, [.ref q9, .ref q10, .int 0])), (q9, .inl (cI, 2, .inl (fun _ => 0))), (q10, .inl (cI, 2, .inl (fun _ => 0))), (q11, .inr (6, [.ref q12, .ref q13, .int 0])), (q12, .inl (cI, 6, .inl (fun _ => 0))), (q13, .inl (cI, 6, .inl (fun _ => 0))), (q14, .inr (4, [.ref q15, .ref q17, .ref q18])), (q15, .inr (0, [.ref q16, .int 0])), (q16, .inl (cJ, 128, .inr (.inl (fun _ => 0)))), (q17, .inl (cI, 128, .inl (fun _ => 0))), (q18, .inr (2, [.int 1, .int 0, .int 0])), (q19, .inr (0, [.ref q20, .int 0])), (q20, .inl (cJ, 128, .inr (.inl (fun _ => 0)))), (q21, .inr (1, [.int 0, .int 1]))] t.heap ∧ va_K (dC, dI) vwCl [(cI, .int), (cJ, .long), (cZ, .boolean)] t ∧ va_D (va_A [(h0, .inr (8, [.null, .null, .null, .null, .null, .null, .null, .null, .null, .long 0]))] sz) [(h0, .inr (8, [.ref q1, .ref q3, .ref q4, .ref q5, .ref q8, .ref q11, .ref q14, .ref q19, .ref q21, .long 0])), (q1, .inr (3, [.ref q2, .int 0])), (q2, .inl (cI, 20, .inl (fun _ => 0))), (q3, .inr (2, [.int 1, .int 0, .int 0])), (q4, .inr (2, [.int 1, .int 0, .int 0])), (q5, .inr (5, [.ref q6, .ref q7, .int 0])), (q6, .inl (cI, 14, .inl (fun _ => 0))), (q7, .inl (cI, 14, .inl (fun _ => 0))), (q8, .inr (7, [.ref q9, .ref q10, .int 0])), (q9, .inl (cI, 2, .inl (fun _ => 0))), (q10, .inl (cI, 2, .inl (fun _ => 0))), (q11, .inr (6, [.ref q12, .ref q13, .int 0])), (q12, .inl (cI, 6, .inl (fun _ => 0))), (q13, .inl (cI, 6, .inl (fun _ => 0))), (q14, .inr (4, [.ref q15, .ref q17, .ref q18])), (q15, .inr (0, [.ref q16, .int 0])), (q16, .inl (cJ, 128, .inr (.inl (fun _ => 0)))), (q17, .inl (cI, 128, .inl (fun _ => 0))), (q18, .inr (2, [.int 1, .int 0, .int 0])), (q19, .inr (0, [.ref q20, .int 0])), (q20, .inl (cJ, 128, .inr (.inl (fun _ => 0)))), (q21, .inr (1, [.int 0, .int 1]))]) (va_A [(h0, .inr (8, [.null, .null, .null, .null, .null, .null, .null, .null, .null, .long 0]))] sz)) 21 477 (va_A [(h0, .inr (8, [.null, .null, .null, .null, .null, .null, .null, .null, .null, .long 0]))] sz) := by
  refine Met.ofW (cc := cX9_init) (maxL := 1) (ret := none) (by decide) rfl ?_
  intro p e s m args below meth c s₁ B hml hv
  obtain ⟨rfl, hsz, hP, hK, hD0, hN⟩ := hv
  have hx := B.exec
  have hb := B.bytes
  have hr := B.returns
  have hts0 := atoms_spec (ws := wsM mX9_init) B.pre
  have hts : ∀ w ∈ gW, w.before ([Value.ref h0] : List Value).toArray s = true := fun w hw => hts0 w (List.mem_cons_of_mem _ hw)
  have hown : s.vm.findClass RX9 = some m.cls := findClass_of_methodNamed B.named
  have hlocks := B.notSynchronized
  have hin : meth.name = "<init>" := (name_of_methodNamed B.named B.method).1
  subst hsz
  have hD := hD0.self (sz := s.heap.size)
  generalize hAe : va_A [(h0, .inr (8, [.null, .null, .null, .null, .null, .null, .null, .null, .null, .long 0]))] s.heap.size = A at hD ⊢
  have hA : ∀ q : Nat, s.heap.size ≤ q → A q := fun q h => by rw [← hAe]; exact Or.inr h
  have hS : va_S A s.heap s.heap [] := va_S.rf
  have hP : va_P (dC, dI) vwCl [(h0, .inr (8, [.null, .null, .null, .null, .null, .null, .null, .null, .null, .long 0]))] s.heap := hP
  have hl := lv_entry ([.ref h0]) (n := 1) (Nat.le_of_ble_eq_true rfl)
  rw [lg_entry_eq]
  generalize (lg_sl ([.ref h0]) ++ List.replicate (1 - (lg_sl ([.ref h0])).length) Slot.unset).toArray = ls at hl ⊢
  have hl : lv_has ls 1 [(0, .ref h0)] := hl
  refine lv_aload_n hx hb dX9_init_0 rfl (lv_at hl 0 rfl) ?_
  refine W.objInit hx hb hown (hts (.methodLink RX9 1 objectInit) (gW_at 48 (by decide +kernel))) (hts (.instanceMethod objectInit) (gW_at 49 (by decide +kernel))) (hts (.code objectInit ⟨#[0xb1]⟩ 1 none) (gW_at 50 (by decide +kernel))) rfl (by rw [hml]; exact hl.1) rfl dX9_init_1 (Nat.le_of_ble_eq_true rfl) (Nat.le_of_ble_eq_true rfl) ?_
  refine W.eq (g2 := F0 m 4 ls []) rfl ?_
  refine lv_aload_n hx hb dX9_init_4 rfl (lv_at hl 0 rfl) ?_
  refine va_new (ci := 3) (fs := [.null, .int 0]) (C := RX3) (T := TX3) (N := 2) hx hb hts uwX3 tyX3 tyX3_ok hown (hts (.classLink RX9 7 RX3) (gW_at 51 (by decide +kernel))) (hts (.instantiable RX3 2) (gW_at 52 (by decide +kernel))) (hts (.initialized RX3) (gW_at 30 (by decide +kernel))) hK hP hD hS hA rfl (fun j hj => by rcases (show j = 0 ∨ j = 1 by omega) with rfl | rfl <;> rfl) (Nat.le_of_ble_eq_true rfl) (Nat.le_of_ble_eq_true rfl) dX9_init_5 (fun q1 H hP hD hS => ?_)
  have hP : va_P (dC, dI) vwCl [(h0, .inr (8, [.null, .null, .null, .null, .null, .null, .null, .null, .null, .long 0])), (q1, .inr (3, [.null, .int 0]))] H := hP
  have hD : va_D A [(h0, .inr (8, [.null, .null, .null, .null, .null, .null, .null, .null, .null, .long 0])), (q1, .inr (3, [.null, .int 0]))] := hD
  refine W.widen (k := 1) (n := 2) (Nat.le_of_ble_eq_true rfl) (Nat.le_of_ble_eq_true rfl) ?_
  refine lv_dup hx hb dX9_init_8 rfl ?_
  have hPc := hP.sub (ws' := [(q1, .inr (3, [.null, .int 0]))]) [1] rfl
  have hDc := hD.sub (ws' := [(q1, .inr (3, [.null, .int 0]))]) [1] (by decide) rfl
  have hFc := va_free (wc := [(q1, .inr (3, [.null, .int 0]))]) hD hS hA [1] rfl
  refine va_callv (va_runIN (As := []) (rest := [.ref q1, .ref h0]) ⟨hx, hb, hml, hown, hts⟩ (ctX3_init l dC dI cI cJ cZ q1 H.size) ⟨va_cnB 0 hts (gGood mX3_init (gW_at 55 (by decide +kernel))) rfl rfl rfl (hN (.methodLinkNest RX9 9 yX3_init "SquareFolds") (nW_at 53 (by decide +kernel))) (hts (.initialized RX3) (gW_at 30 (by decide +kernel))) (by decide +kernel) ⟨Nat.le_of_ble_eq_true rfl, Nat.le_of_ble_eq_true rfl⟩, rfl, hts (.instanceMethod yX3_init) (gW_at 54 (by decide +kernel))⟩ ⟨pc_blind' dC dI cI cJ cZ _ _ _, fun U hU hW => ⟨rfl, by rw [hU], by rw [hU]; exact hPc, va_K.moved hW.alike hK, hDc.weaken (fun _ _ _ _ => trivial), nW_warm hW hN⟩⟩ rfl rfl hl.1 rfl (lv_room (Nat.le_of_ble_eq_true rfl)) dX9_init_9 ⟨Nat.le_of_ble_eq_true rfl, Nat.le_of_ble_eq_true rfl⟩) hS (fun q _ h => hFc q h) hFc (fun u t H1 locs ht hvm hw hB hz1 hk1 hS => ?_)
  obtain ⟨q2, hP1, hK1, hD1⟩ := hB
  rw [ht] at hP1
  obtain ⟨hP, hD⟩ := va_join (wr := [(h0, .inr (8, [.null, .null, .null, .null, .null, .null, .null, .null, .null, .long 0]))]) (w1 := [(q1, .inr (3, [.ref q2, .int 0])), (q2, .inl (cI, 20, .inl (fun _ => 0)))]) hP hD [1] [0] rfl rfl (by decide) (by decide) hk1 hFc hP1 hD1
  generalize H1 = H at hP hS ⊢
  have hP : va_P (dC, dI) vwCl [(h0, .inr (8, [.null, .null, .null, .null, .null, .null, .null, .null, .null, .long 0])), (q1, .inr (3, [.ref q2, .int 0])), (q2, .inl (cI, 20, .inl (fun _ => 0)))] H := hP
  have hD : va_D A [(h0, .inr (8, [.null, .null, .null, .null, .null, .null, .null, .null, .null, .long 0])), (q1, .inr (3, [.ref q2, .int 0])), (q2, .inl (cI, 20, .inl (fun _ => 0)))] := hD
  refine W.widen (k := 2) (n := 22) (Nat.le_of_ble_eq_true rfl) (Nat.le_of_ble_eq_true rfl) ?_
  refine va_putF (D := (dC, dI)) (ci := 8) (v := .ref q1) (ty := .object "SquareFolds$Letters") (C := RX9) (T := TX9) (N := 10) hx hb hts uwX9 tyX9 tyX9_ok nmX9 hown hK hP hD hS 0 rfl rfl 0 (by decide) (hts (.fieldLink RX9 10 "SquareFolds" "text" "LSquareFolds$Letters;") (gW_at 185 (by decide +kernel))) (fun _ h9 => h9) rfl hin rfl (by decide +kernel) rfl rfl (Nat.le_of_ble_eq_true rfl) dX9_init_12 (fun H locs hP hD hS => ?_)
  have hP : va_P (dC, dI) vwCl [(h0, .inr (8, [.ref q1, .null, .null, .null, .null, .null, .null, .null, .null, .long 0])), (q1, .inr (3, [.ref q2, .int 0])), (q2, .inl (cI, 20, .inl (fun _ => 0)))] H := hP
  have hD : va_D A [(h0, .inr (8, [.ref q1, .null, .null, .null, .null, .null, .null, .null, .null, .long 0])), (q1, .inr (3, [.ref q2, .int 0])), (q2, .inl (cI, 20, .inl (fun _ => 0)))] := hD
  refine lv_aload_n hx hb dX9_init_15 rfl (lv_at hl 0 rfl) ?_
  refine va_new (ci := 2) (fs := [.int 0, .int 0, .int 0]) (C := RX2) (T := TX2) (N := 3) hx hb hts uwX2 tyX2 tyX2_ok hown (hts (.classLink RX9 16 RX2) (gW_at 66 (by decide +kernel))) (hts (.instantiable RX2 3) (gW_at 67 (by decide +kernel))) (hts (.initialized RX2) (gW_at 31 (by decide +kernel))) hK hP hD hS hA rfl (fun j hj => by rcases (show j = 0 ∨ j = 1 ∨ j = 2 by omega) with rfl | rfl | rfl <;> rfl) (Nat.le_of_ble_eq_true rfl) (Nat.le_of_ble_eq_true rfl) dX9_init_16 (fun q3 H hP hD hS => ?_)
  have hP : va_P (dC, dI) vwCl [(h0, .inr (8, [.ref q1, .null, .null, .null, .null, .null, .null, .null, .null, .long 0])), (q1, .inr (3, [.ref q2, .int 0])), (q2, .inl (cI, 20, .inl (fun _ => 0))), (q3, .inr (2, [.int 0, .int 0, .int 0]))] H := hP
  have hD : va_D A [(h0, .inr (8, [.ref q1, .null, .null, .null, .null, .null, .null, .null, .null, .long 0])), (q1, .inr (3, [.ref q2, .int 0])), (q2, .inl (cI, 20, .inl (fun _ => 0))), (q3, .inr (2, [.int 0, .int 0, .int 0]))] := hD
  refine W.widen (k := 3) (n := 25) (Nat.le_of_ble_eq_true rfl) (Nat.le_of_ble_eq_true rfl) ?_
  refine lv_dup hx hb dX9_init_19 rfl ?_
  have hPc := hP.sub (ws' := [(q3, .inr (2, [.int 0, .int 0, .int 0]))]) [3] rfl
  have hDc := hD.sub (ws' := [(q3, .inr (2, [.int 0, .int 0, .int 0]))]) [3] (by decide) rfl
  have hFc := va_free (wc := [(q3, .inr (2, [.int 0, .int 0, .int 0]))]) hD hS hA [3] rfl
  refine va_callv (va_runIN (As := []) (rest := [.ref q3, .ref h0]) ⟨hx, hb, hml, hown, hts⟩ (ctX2_init l dC dI cI cJ cZ q3 H.size) ⟨va_cnB 0 hts (gGood mX2_init (gW_at 70 (by decide +kernel))) rfl rfl rfl (hN (.methodLinkNest RX9 18 yX2_init "SquareFolds") (nW_at 68 (by decide +kernel))) (hts (.initialized RX2) (gW_at 31 (by decide +kernel))) (by decide +kernel) ⟨Nat.le_of_ble_eq_true rfl, Nat.le_of_ble_eq_true rfl⟩, rfl, hts (.instanceMethod yX2_init) (gW_at 69 (by decide +kernel))⟩ ⟨pc_blind' dC dI cI cJ cZ _ _ _, fun U hU hW => ⟨rfl, by rw [hU], by rw [hU]; exact hPc, va_K.moved hW.alike hK, hDc.weaken (fun _ _ _ _ => trivial), nW_warm hW hN⟩⟩ rfl rfl hl.1 rfl (lv_room (Nat.le_of_ble_eq_true rfl)) dX9_init_20 ⟨Nat.le_of_ble_eq_true rfl, Nat.le_of_ble_eq_true rfl⟩) hS (fun q _ h => hFc q h) hFc (fun u t H1 locs ht hvm hw hB hz1 hk1 hS => ?_)
  obtain ⟨hP1, hK1, hD1⟩ := hB
  rw [ht] at hP1
  obtain ⟨hP, hD⟩ := va_join (wr := [(h0, .inr (8, [.ref q1, .null, .null, .null, .null, .null, .null, .null, .null, .long 0])), (q1, .inr (3, [.ref q2, .int 0])), (q2, .inl (cI, 20, .inl (fun _ => 0)))]) (w1 := [(q3, .inr (2, [.int 1, .int 0, .int 0]))]) hP hD [3] [0, 1, 2] rfl rfl (by decide) (by decide) hk1 hFc hP1 hD1
  generalize H1 = H at hP hS ⊢
  have hP : va_P (dC, dI) vwCl [(h0, .inr (8, [.ref q1, .null, .null, .null, .null, .null, .null, .null, .null, .long 0])), (q1, .inr (3, [.ref q2, .int 0])), (q2, .inl (cI, 20, .inl (fun _ => 0))), (q3, .inr (2, [.int 1, .int 0, .int 0]))] H := hP
  have hD : va_D A [(h0, .inr (8, [.ref q1, .null, .null, .null, .null, .null, .null, .null, .null, .long 0])), (q1, .inr (3, [.ref q2, .int 0])), (q2, .inl (cI, 20, .inl (fun _ => 0))), (q3, .inr (2, [.int 1, .int 0, .int 0]))] := hD
  refine W.widen (k := 3) (n := 25) (Nat.le_of_ble_eq_true rfl) (Nat.le_of_ble_eq_true rfl) ?_
  refine va_putF (D := (dC, dI)) (ci := 8) (v := .ref q3) (ty := .object "SquareFolds$Gluing") (C := RX9) (T := TX9) (N := 10) hx hb hts uwX9 tyX9 tyX9_ok nmX9 hown hK hP hD hS 0 rfl rfl 1 (by decide) (hts (.fieldLink RX9 19 "SquareFolds" "now" "LSquareFolds$Gluing;") (gW_at 186 (by decide +kernel))) (fun _ h9 => h9) rfl hin rfl (by decide +kernel) rfl rfl (Nat.le_of_ble_eq_true rfl) dX9_init_23 (fun H locs hP hD hS => ?_)
  have hP : va_P (dC, dI) vwCl [(h0, .inr (8, [.ref q1, .ref q3, .null, .null, .null, .null, .null, .null, .null, .long 0])), (q1, .inr (3, [.ref q2, .int 0])), (q2, .inl (cI, 20, .inl (fun _ => 0))), (q3, .inr (2, [.int 1, .int 0, .int 0]))] H := hP
  have hD : va_D A [(h0, .inr (8, [.ref q1, .ref q3, .null, .null, .null, .null, .null, .null, .null, .long 0])), (q1, .inr (3, [.ref q2, .int 0])), (q2, .inl (cI, 20, .inl (fun _ => 0))), (q3, .inr (2, [.int 1, .int 0, .int 0]))] := hD
  refine lv_aload_n hx hb dX9_init_26 rfl (lv_at hl 0 rfl) ?_
  refine va_new (ci := 2) (fs := [.int 0, .int 0, .int 0]) (C := RX2) (T := TX2) (N := 3) hx hb hts uwX2 tyX2 tyX2_ok hown (hts (.classLink RX9 16 RX2) (gW_at 66 (by decide +kernel))) (hts (.instantiable RX2 3) (gW_at 67 (by decide +kernel))) (hts (.initialized RX2) (gW_at 31 (by decide +kernel))) hK hP hD hS hA rfl (fun j hj => by rcases (show j = 0 ∨ j = 1 ∨ j = 2 by omega) with rfl | rfl | rfl <;> rfl) (Nat.le_of_ble_eq_true rfl) (Nat.le_of_ble_eq_true rfl) dX9_init_27 (fun q4 H hP hD hS => ?_)
  have hP : va_P (dC, dI) vwCl [(h0, .inr (8, [.ref q1, .ref q3, .null, .null, .null, .null, .null, .null, .null, .long 0])), (q1, .inr (3, [.ref q2, .int 0])), (q2, .inl (cI, 20, .inl (fun _ => 0))), (q3, .inr (2, [.int 1, .int 0, .int 0])), (q4, .inr (2, [.int 0, .int 0, .int 0]))] H := hP
  have hD : va_D A [(h0, .inr (8, [.ref q1, .ref q3, .null, .null, .null, .null, .null, .null, .null, .long 0])), (q1, .inr (3, [.ref q2, .int 0])), (q2, .inl (cI, 20, .inl (fun _ => 0))), (q3, .inr (2, [.int 1, .int 0, .int 0])), (q4, .inr (2, [.int 0, .int 0, .int 0]))] := hD
  refine W.widen (k := 4) (n := 28) (Nat.le_of_ble_eq_true rfl) (Nat.le_of_ble_eq_true rfl) ?_
  refine lv_dup hx hb dX9_init_30 rfl ?_
  have hPc := hP.sub (ws' := [(q4, .inr (2, [.int 0, .int 0, .int 0]))]) [4] rfl
  have hDc := hD.sub (ws' := [(q4, .inr (2, [.int 0, .int 0, .int 0]))]) [4] (by decide) rfl
  have hFc := va_free (wc := [(q4, .inr (2, [.int 0, .int 0, .int 0]))]) hD hS hA [4] rfl
  refine va_callv (va_runIN (As := []) (rest := [.ref q4, .ref h0]) ⟨hx, hb, hml, hown, hts⟩ (ctX2_init l dC dI cI cJ cZ q4 H.size) ⟨va_cnB 0 hts (gGood mX2_init (gW_at 70 (by decide +kernel))) rfl rfl rfl (hN (.methodLinkNest RX9 18 yX2_init "SquareFolds") (nW_at 68 (by decide +kernel))) (hts (.initialized RX2) (gW_at 31 (by decide +kernel))) (by decide +kernel) ⟨Nat.le_of_ble_eq_true rfl, Nat.le_of_ble_eq_true rfl⟩, rfl, hts (.instanceMethod yX2_init) (gW_at 69 (by decide +kernel))⟩ ⟨pc_blind' dC dI cI cJ cZ _ _ _, fun U hU hW => ⟨rfl, by rw [hU], by rw [hU]; exact hPc, va_K.moved hW.alike hK, hDc.weaken (fun _ _ _ _ => trivial), nW_warm hW hN⟩⟩ rfl rfl hl.1 rfl (lv_room (Nat.le_of_ble_eq_true rfl)) dX9_init_31 ⟨Nat.le_of_ble_eq_true rfl, Nat.le_of_ble_eq_true rfl⟩) hS (fun q _ h => hFc q h) hFc (fun u t H1 locs ht hvm hw hB hz1 hk1 hS => ?_)
  obtain ⟨hP1, hK1, hD1⟩ := hB
  rw [ht] at hP1
  obtain ⟨hP, hD⟩ := va_join (wr := [(h0, .inr (8, [.ref q1, .ref q3, .null, .null, .null, .null, .null, .null, .null, .long 0])), (q1, .inr (3, [.ref q2, .int 0])), (q2, .inl (cI, 20, .inl (fun _ => 0))), (q3, .inr (2, [.int 1, .int 0, .int 0]))]) (w1 := [(q4, .inr (2, [.int 1, .int 0, .int 0]))]) hP hD [4] [0, 1, 2, 3] rfl rfl (by decide) (by decide) hk1 hFc hP1 hD1
  generalize H1 = H at hP hS ⊢
  have hP : va_P (dC, dI) vwCl [(h0, .inr (8, [.ref q1, .ref q3, .null, .null, .null, .null, .null, .null, .null, .long 0])), (q1, .inr (3, [.ref q2, .int 0])), (q2, .inl (cI, 20, .inl (fun _ => 0))), (q3, .inr (2, [.int 1, .int 0, .int 0])), (q4, .inr (2, [.int 1, .int 0, .int 0]))] H := hP
  have hD : va_D A [(h0, .inr (8, [.ref q1, .ref q3, .null, .null, .null, .null, .null, .null, .null, .long 0])), (q1, .inr (3, [.ref q2, .int 0])), (q2, .inl (cI, 20, .inl (fun _ => 0))), (q3, .inr (2, [.int 1, .int 0, .int 0])), (q4, .inr (2, [.int 1, .int 0, .int 0]))] := hD
  refine W.widen (k := 4) (n := 28) (Nat.le_of_ble_eq_true rfl) (Nat.le_of_ble_eq_true rfl) ?_
  refine va_putF (D := (dC, dI)) (ci := 8) (v := .ref q4) (ty := .object "SquareFolds$Gluing") (C := RX9) (T := TX9) (N := 10) hx hb hts uwX9 tyX9 tyX9_ok nmX9 hown hK hP hD hS 0 rfl rfl 2 (by decide) (hts (.fieldLink RX9 23 "SquareFolds" "trial" "LSquareFolds$Gluing;") (gW_at 187 (by decide +kernel))) (fun _ h9 => h9) rfl hin rfl (by decide +kernel) rfl rfl (Nat.le_of_ble_eq_true rfl) dX9_init_34 (fun H locs hP hD hS => ?_)
  have hP : va_P (dC, dI) vwCl [(h0, .inr (8, [.ref q1, .ref q3, .ref q4, .null, .null, .null, .null, .null, .null, .long 0])), (q1, .inr (3, [.ref q2, .int 0])), (q2, .inl (cI, 20, .inl (fun _ => 0))), (q3, .inr (2, [.int 1, .int 0, .int 0])), (q4, .inr (2, [.int 1, .int 0, .int 0]))] H := hP
  have hD : va_D A [(h0, .inr (8, [.ref q1, .ref q3, .ref q4, .null, .null, .null, .null, .null, .null, .long 0])), (q1, .inr (3, [.ref q2, .int 0])), (q2, .inl (cI, 20, .inl (fun _ => 0))), (q3, .inr (2, [.int 1, .int 0, .int 0])), (q4, .inr (2, [.int 1, .int 0, .int 0]))] := hD
  refine lv_aload_n hx hb dX9_init_37 rfl (lv_at hl 0 rfl) ?_
  refine va_new (ci := 5) (fs := [.null, .null, .int 0]) (C := RX5) (T := TX5) (N := 3) hx hb hts uwX5 tyX5 tyX5_ok hown (hts (.classLink RX9 26 RX5) (gW_at 85 (by decide +kernel))) (hts (.instantiable RX5 3) (gW_at 86 (by decide +kernel))) (hts (.initialized RX5) (gW_at 32 (by decide +kernel))) hK hP hD hS hA rfl (fun j hj => by rcases (show j = 0 ∨ j = 1 ∨ j = 2 by omega) with rfl | rfl | rfl <;> rfl) (Nat.le_of_ble_eq_true rfl) (Nat.le_of_ble_eq_true rfl) dX9_init_38 (fun q5 H hP hD hS => ?_)
  have hP : va_P (dC, dI) vwCl [(h0, .inr (8, [.ref q1, .ref q3, .ref q4, .null, .null, .null, .null, .null, .null, .long 0])), (q1, .inr (3, [.ref q2, .int 0])), (q2, .inl (cI, 20, .inl (fun _ => 0))), (q3, .inr (2, [.int 1, .int 0, .int 0])), (q4, .inr (2, [.int 1, .int 0, .int 0])), (q5, .inr (5, [.null, .null, .int 0]))] H := hP
  have hD : va_D A [(h0, .inr (8, [.ref q1, .ref q3, .ref q4, .null, .null, .null, .null, .null, .null, .long 0])), (q1, .inr (3, [.ref q2, .int 0])), (q2, .inl (cI, 20, .inl (fun _ => 0))), (q3, .inr (2, [.int 1, .int 0, .int 0])), (q4, .inr (2, [.int 1, .int 0, .int 0])), (q5, .inr (5, [.null, .null, .int 0]))] := hD
  refine W.widen (k := 5) (n := 31) (Nat.le_of_ble_eq_true rfl) (Nat.le_of_ble_eq_true rfl) ?_
  refine lv_dup hx hb dX9_init_41 rfl ?_
  have hPc := hP.sub (ws' := [(q5, .inr (5, [.null, .null, .int 0]))]) [5] rfl
  have hDc := hD.sub (ws' := [(q5, .inr (5, [.null, .null, .int 0]))]) [5] (by decide) rfl
  have hFc := va_free (wc := [(q5, .inr (5, [.null, .null, .int 0]))]) hD hS hA [5] rfl
  refine va_callv (va_runIN (As := []) (rest := [.ref q5, .ref h0]) ⟨hx, hb, hml, hown, hts⟩ (ctX5_init l dC dI cI cJ cZ q5 H.size) ⟨va_cnB 0 hts (gGood mX5_init (gW_at 89 (by decide +kernel))) rfl rfl rfl (hN (.methodLinkNest RX9 28 yX5_init "SquareFolds") (nW_at 87 (by decide +kernel))) (hts (.initialized RX5) (gW_at 32 (by decide +kernel))) (by decide +kernel) ⟨Nat.le_of_ble_eq_true rfl, Nat.le_of_ble_eq_true rfl⟩, rfl, hts (.instanceMethod yX5_init) (gW_at 88 (by decide +kernel))⟩ ⟨pc_blind' dC dI cI cJ cZ _ _ _, fun U hU hW => ⟨rfl, by rw [hU], by rw [hU]; exact hPc, va_K.moved hW.alike hK, hDc.weaken (fun _ _ _ _ => trivial), nW_warm hW hN⟩⟩ rfl rfl hl.1 rfl (lv_room (Nat.le_of_ble_eq_true rfl)) dX9_init_42 ⟨Nat.le_of_ble_eq_true rfl, Nat.le_of_ble_eq_true rfl⟩) hS (fun q _ h => hFc q h) hFc (fun u t H1 locs ht hvm hw hB hz1 hk1 hS => ?_)
  obtain ⟨q6, q7, hP1, hK1, hD1⟩ := hB
  rw [ht] at hP1
  obtain ⟨hP, hD⟩ := va_join (wr := [(h0, .inr (8, [.ref q1, .ref q3, .ref q4, .null, .null, .null, .null, .null, .null, .long 0])), (q1, .inr (3, [.ref q2, .int 0])), (q2, .inl (cI, 20, .inl (fun _ => 0))), (q3, .inr (2, [.int 1, .int 0, .int 0])), (q4, .inr (2, [.int 1, .int 0, .int 0]))]) (w1 := [(q5, .inr (5, [.ref q6, .ref q7, .int 0])), (q6, .inl (cI, 14, .inl (fun _ => 0))), (q7, .inl (cI, 14, .inl (fun _ => 0)))]) hP hD [5] [0, 1, 2, 3, 4] rfl rfl (by decide) (by decide) hk1 hFc hP1 hD1
  generalize H1 = H at hP hS ⊢
  have hP : va_P (dC, dI) vwCl [(h0, .inr (8, [.ref q1, .ref q3, .ref q4, .null, .null, .null, .null, .null, .null, .long 0])), (q1, .inr (3, [.ref q2, .int 0])), (q2, .inl (cI, 20, .inl (fun _ => 0))), (q3, .inr (2, [.int 1, .int 0, .int 0])), (q4, .inr (2, [.int 1, .int 0, .int 0])), (q5, .inr (5, [.ref q6, .ref q7, .int 0])), (q6, .inl (cI, 14, .inl (fun _ => 0))), (q7, .inl (cI, 14, .inl (fun _ => 0)))] H := hP
  have hD : va_D A [(h0, .inr (8, [.ref q1, .ref q3, .ref q4, .null, .null, .null, .null, .null, .null, .long 0])), (q1, .inr (3, [.ref q2, .int 0])), (q2, .inl (cI, 20, .inl (fun _ => 0))), (q3, .inr (2, [.int 1, .int 0, .int 0])), (q4, .inr (2, [.int 1, .int 0, .int 0])), (q5, .inr (5, [.ref q6, .ref q7, .int 0])), (q6, .inl (cI, 14, .inl (fun _ => 0))), (q7, .inl (cI, 14, .inl (fun _ => 0)))] := hD
  refine W.widen (k := 7) (n := 59) (Nat.le_of_ble_eq_true rfl) (Nat.le_of_ble_eq_true rfl) ?_
  refine va_putF (D := (dC, dI)) (ci := 8) (v := .ref q5) (ty := .object "SquareFolds$Past") (C := RX9) (T := TX9) (N := 10) hx hb hts uwX9 tyX9 tyX9_ok nmX9 hown hK hP hD hS 0 rfl rfl 3 (by decide) (hts (.fieldLink RX9 29 "SquareFolds" "past" "LSquareFolds$Past;") (gW_at 188 (by decide +kernel))) (fun _ h9 => h9) rfl hin rfl (by decide +kernel) rfl rfl (Nat.le_of_ble_eq_true rfl) dX9_init_45 (fun H locs hP hD hS => ?_)
  have hP : va_P (dC, dI) vwCl [(h0, .inr (8, [.ref q1, .ref q3, .ref q4, .ref q5, .null, .null, .null, .null, .null, .long 0])), (q1, .inr (3, [.ref q2, .int 0])), (q2, .inl (cI, 20, .inl (fun _ => 0))), (q3, .inr (2, [.int 1, .int 0, .int 0])), (q4, .inr (2, [.int 1, .int 0, .int 0])), (q5, .inr (5, [.ref q6, .ref q7, .int 0])), (q6, .inl (cI, 14, .inl (fun _ => 0))), (q7, .inl (cI, 14, .inl (fun _ => 0)))] H := hP
  have hD : va_D A [(h0, .inr (8, [.ref q1, .ref q3, .ref q4, .ref q5, .null, .null, .null, .null, .null, .long 0])), (q1, .inr (3, [.ref q2, .int 0])), (q2, .inl (cI, 20, .inl (fun _ => 0))), (q3, .inr (2, [.int 1, .int 0, .int 0])), (q4, .inr (2, [.int 1, .int 0, .int 0])), (q5, .inr (5, [.ref q6, .ref q7, .int 0])), (q6, .inl (cI, 14, .inl (fun _ => 0))), (q7, .inl (cI, 14, .inl (fun _ => 0)))] := hD
  refine lv_aload_n hx hb dX9_init_48 rfl (lv_at hl 0 rfl) ?_
  refine va_new (ci := 7) (fs := [.null, .null, .int 0]) (C := RX8) (T := TX8) (N := 3) hx hb hts uwX8 tyX8 tyX8_ok hown (hts (.classLink RX9 33 RX8) (gW_at 102 (by decide +kernel))) (hts (.instantiable RX8 3) (gW_at 103 (by decide +kernel))) (hts (.initialized RX8) (gW_at 33 (by decide +kernel))) hK hP hD hS hA rfl (fun j hj => by rcases (show j = 0 ∨ j = 1 ∨ j = 2 by omega) with rfl | rfl | rfl <;> rfl) (Nat.le_of_ble_eq_true rfl) (Nat.le_of_ble_eq_true rfl) dX9_init_49 (fun q8 H hP hD hS => ?_)
  have hP : va_P (dC, dI) vwCl [(h0, .inr (8, [.ref q1, .ref q3, .ref q4, .ref q5, .null, .null, .null, .null, .null, .long 0])), (q1, .inr (3, [.ref q2, .int 0])), (q2, .inl (cI, 20, .inl (fun _ => 0))), (q3, .inr (2, [.int 1, .int 0, .int 0])), (q4, .inr (2, [.int 1, .int 0, .int 0])), (q5, .inr (5, [.ref q6, .ref q7, .int 0])), (q6, .inl (cI, 14, .inl (fun _ => 0))), (q7, .inl (cI, 14, .inl (fun _ => 0))), (q8, .inr (7, [.null, .null, .int 0]))] H := hP
  have hD : va_D A [(h0, .inr (8, [.ref q1, .ref q3, .ref q4, .ref q5, .null, .null, .null, .null, .null, .long 0])), (q1, .inr (3, [.ref q2, .int 0])), (q2, .inl (cI, 20, .inl (fun _ => 0))), (q3, .inr (2, [.int 1, .int 0, .int 0])), (q4, .inr (2, [.int 1, .int 0, .int 0])), (q5, .inr (5, [.ref q6, .ref q7, .int 0])), (q6, .inl (cI, 14, .inl (fun _ => 0))), (q7, .inl (cI, 14, .inl (fun _ => 0))), (q8, .inr (7, [.null, .null, .int 0]))] := hD
  refine W.widen (k := 8) (n := 62) (Nat.le_of_ble_eq_true rfl) (Nat.le_of_ble_eq_true rfl) ?_
  refine lv_dup hx hb dX9_init_52 rfl ?_
  have hPc := hP.sub (ws' := [(q8, .inr (7, [.null, .null, .int 0]))]) [8] rfl
  have hDc := hD.sub (ws' := [(q8, .inr (7, [.null, .null, .int 0]))]) [8] (by decide) rfl
  have hFc := va_free (wc := [(q8, .inr (7, [.null, .null, .int 0]))]) hD hS hA [8] rfl
  refine va_callv (va_runIN (As := []) (rest := [.ref q8, .ref h0]) ⟨hx, hb, hml, hown, hts⟩ (ctX8_init l dC dI cI cJ cZ q8 H.size) ⟨va_cnB 0 hts (gGood mX8_init (gW_at 106 (by decide +kernel))) rfl rfl rfl (hN (.methodLinkNest RX9 35 yX8_init "SquareFolds") (nW_at 104 (by decide +kernel))) (hts (.initialized RX8) (gW_at 33 (by decide +kernel))) (by decide +kernel) ⟨Nat.le_of_ble_eq_true rfl, Nat.le_of_ble_eq_true rfl⟩, rfl, hts (.instanceMethod yX8_init) (gW_at 105 (by decide +kernel))⟩ ⟨pc_blind' dC dI cI cJ cZ _ _ _, fun U hU hW => ⟨rfl, by rw [hU], by rw [hU]; exact hPc, va_K.moved hW.alike hK, hDc.weaken (fun _ _ _ _ => trivial), nW_warm hW hN⟩⟩ rfl rfl hl.1 rfl (lv_room (Nat.le_of_ble_eq_true rfl)) dX9_init_53 ⟨Nat.le_of_ble_eq_true rfl, Nat.le_of_ble_eq_true rfl⟩) hS (fun q _ h => hFc q h) hFc (fun u t H1 locs ht hvm hw hB hz1 hk1 hS => ?_)
  obtain ⟨q9, q10, hP1, hK1, hD1⟩ := hB
  rw [ht] at hP1
  obtain ⟨hP, hD⟩ := va_join (wr := [(h0, .inr (8, [.ref q1, .ref q3, .ref q4, .ref q5, .null, .null, .null, .null, .null, .long 0])), (q1, .inr (3, [.ref q2, .int 0])), (q2, .inl (cI, 20, .inl (fun _ => 0))), (q3, .inr (2, [.int 1, .int 0, .int 0])), (q4, .inr (2, [.int 1, .int 0, .int 0])), (q5, .inr (5, [.ref q6, .ref q7, .int 0])), (q6, .inl (cI, 14, .inl (fun _ => 0))), (q7, .inl (cI, 14, .inl (fun _ => 0)))]) (w1 := [(q8, .inr (7, [.ref q9, .ref q10, .int 0])), (q9, .inl (cI, 2, .inl (fun _ => 0))), (q10, .inl (cI, 2, .inl (fun _ => 0)))]) hP hD [8] [0, 1, 2, 3, 4, 5, 6, 7] rfl rfl (by decide) (by decide) hk1 hFc hP1 hD1
  generalize H1 = H at hP hS ⊢
  have hP : va_P (dC, dI) vwCl [(h0, .inr (8, [.ref q1, .ref q3, .ref q4, .ref q5, .null, .null, .null, .null, .null, .long 0])), (q1, .inr (3, [.ref q2, .int 0])), (q2, .inl (cI, 20, .inl (fun _ => 0))), (q3, .inr (2, [.int 1, .int 0, .int 0])), (q4, .inr (2, [.int 1, .int 0, .int 0])), (q5, .inr (5, [.ref q6, .ref q7, .int 0])), (q6, .inl (cI, 14, .inl (fun _ => 0))), (q7, .inl (cI, 14, .inl (fun _ => 0))), (q8, .inr (7, [.ref q9, .ref q10, .int 0])), (q9, .inl (cI, 2, .inl (fun _ => 0))), (q10, .inl (cI, 2, .inl (fun _ => 0)))] H := hP
  have hD : va_D A [(h0, .inr (8, [.ref q1, .ref q3, .ref q4, .ref q5, .null, .null, .null, .null, .null, .long 0])), (q1, .inr (3, [.ref q2, .int 0])), (q2, .inl (cI, 20, .inl (fun _ => 0))), (q3, .inr (2, [.int 1, .int 0, .int 0])), (q4, .inr (2, [.int 1, .int 0, .int 0])), (q5, .inr (5, [.ref q6, .ref q7, .int 0])), (q6, .inl (cI, 14, .inl (fun _ => 0))), (q7, .inl (cI, 14, .inl (fun _ => 0))), (q8, .inr (7, [.ref q9, .ref q10, .int 0])), (q9, .inl (cI, 2, .inl (fun _ => 0))), (q10, .inl (cI, 2, .inl (fun _ => 0)))] := hD
  refine W.widen (k := 10) (n := 66) (Nat.le_of_ble_eq_true rfl) (Nat.le_of_ble_eq_true rfl) ?_
  refine va_putF (D := (dC, dI)) (ci := 8) (v := .ref q8) (ty := .object "SquareFolds$Slots") (C := RX9) (T := TX9) (N := 10) hx hb hts uwX9 tyX9 tyX9_ok nmX9 hown hK hP hD hS 0 rfl rfl 4 (by decide) (hts (.fieldLink RX9 36 "SquareFolds" "slots" "LSquareFolds$Slots;") (gW_at 189 (by decide +kernel))) (fun _ h9 => h9) rfl hin rfl (by decide +kernel) rfl rfl (Nat.le_of_ble_eq_true rfl) dX9_init_56 (fun H locs hP hD hS => ?_)
  have hP : va_P (dC, dI) vwCl [(h0, .inr (8, [.ref q1, .ref q3, .ref q4, .ref q5, .ref q8, .null, .null, .null, .null, .long 0])), (q1, .inr (3, [.ref q2, .int 0])), (q2, .inl (cI, 20, .inl (fun _ => 0))), (q3, .inr (2, [.int 1, .int 0, .int 0])), (q4, .inr (2, [.int 1, .int 0, .int 0])), (q5, .inr (5, [.ref q6, .ref q7, .int 0])), (q6, .inl (cI, 14, .inl (fun _ => 0))), (q7, .inl (cI, 14, .inl (fun _ => 0))), (q8, .inr (7, [.ref q9, .ref q10, .int 0])), (q9, .inl (cI, 2, .inl (fun _ => 0))), (q10, .inl (cI, 2, .inl (fun _ => 0)))] H := hP
  have hD : va_D A [(h0, .inr (8, [.ref q1, .ref q3, .ref q4, .ref q5, .ref q8, .null, .null, .null, .null, .long 0])), (q1, .inr (3, [.ref q2, .int 0])), (q2, .inl (cI, 20, .inl (fun _ => 0))), (q3, .inr (2, [.int 1, .int 0, .int 0])), (q4, .inr (2, [.int 1, .int 0, .int 0])), (q5, .inr (5, [.ref q6, .ref q7, .int 0])), (q6, .inl (cI, 14, .inl (fun _ => 0))), (q7, .inl (cI, 14, .inl (fun _ => 0))), (q8, .inr (7, [.ref q9, .ref q10, .int 0])), (q9, .inl (cI, 2, .inl (fun _ => 0))), (q10, .inl (cI, 2, .inl (fun _ => 0)))] := hD
  refine lv_aload_n hx hb dX9_init_59 rfl (lv_at hl 0 rfl) ?_
  refine va_new (ci := 6) (fs := [.null, .null, .int 0]) (C := RX7) (T := TX7) (N := 3) hx hb hts uwX7 tyX7 tyX7_ok hown (hts (.classLink RX9 40 RX7) (gW_at 118 (by decide +kernel))) (hts (.instantiable RX7 3) (gW_at 119 (by decide +kernel))) (hts (.initialized RX7) (gW_at 34 (by decide +kernel))) hK hP hD hS hA rfl (fun j hj => by rcases (show j = 0 ∨ j = 1 ∨ j = 2 by omega) with rfl | rfl | rfl <;> rfl) (Nat.le_of_ble_eq_true rfl) (Nat.le_of_ble_eq_true rfl) dX9_init_60 (fun q11 H hP hD hS => ?_)
  have hP : va_P (dC, dI) vwCl [(h0, .inr (8, [.ref q1, .ref q3, .ref q4, .ref q5, .ref q8, .null, .null, .null, .null, .long 0])), (q1, .inr (3, [.ref q2, .int 0])), (q2, .inl (cI, 20, .inl (fun _ => 0))), (q3, .inr (2, [.int 1, .int 0, .int 0])), (q4, .inr (2, [.int 1, .int 0, .int 0])), (q5, .inr (5, [.ref q6, .ref q7, .int 0])), (q6, .inl (cI, 14, .inl (fun _ => 0))), (q7, .inl (cI, 14, .inl (fun _ => 0))), (q8, .inr (7, [.ref q9, .ref q10, .int 0])), (q9, .inl (cI, 2, .inl (fun _ => 0))), (q10, .inl (cI, 2, .inl (fun _ => 0))), (q11, .inr (6, [.null, .null, .int 0]))] H := hP
  have hD : va_D A [(h0, .inr (8, [.ref q1, .ref q3, .ref q4, .ref q5, .ref q8, .null, .null, .null, .null, .long 0])), (q1, .inr (3, [.ref q2, .int 0])), (q2, .inl (cI, 20, .inl (fun _ => 0))), (q3, .inr (2, [.int 1, .int 0, .int 0])), (q4, .inr (2, [.int 1, .int 0, .int 0])), (q5, .inr (5, [.ref q6, .ref q7, .int 0])), (q6, .inl (cI, 14, .inl (fun _ => 0))), (q7, .inl (cI, 14, .inl (fun _ => 0))), (q8, .inr (7, [.ref q9, .ref q10, .int 0])), (q9, .inl (cI, 2, .inl (fun _ => 0))), (q10, .inl (cI, 2, .inl (fun _ => 0))), (q11, .inr (6, [.null, .null, .int 0]))] := hD
  refine W.widen (k := 11) (n := 69) (Nat.le_of_ble_eq_true rfl) (Nat.le_of_ble_eq_true rfl) ?_
  refine lv_dup hx hb dX9_init_63 rfl ?_
  have hPc := hP.sub (ws' := [(q11, .inr (6, [.null, .null, .int 0]))]) [11] rfl
  have hDc := hD.sub (ws' := [(q11, .inr (6, [.null, .null, .int 0]))]) [11] (by decide) rfl
  have hFc := va_free (wc := [(q11, .inr (6, [.null, .null, .int 0]))]) hD hS hA [11] rfl
  refine va_callv (va_runIN (As := []) (rest := [.ref q11, .ref h0]) ⟨hx, hb, hml, hown, hts⟩ (ctX7_init l dC dI cI cJ cZ q11 H.size) ⟨va_cnB 0 hts (gGood mX7_init (gW_at 122 (by decide +kernel))) rfl rfl rfl (hN (.methodLinkNest RX9 42 yX7_init "SquareFolds") (nW_at 120 (by decide +kernel))) (hts (.initialized RX7) (gW_at 34 (by decide +kernel))) (by decide +kernel) ⟨Nat.le_of_ble_eq_true rfl, Nat.le_of_ble_eq_true rfl⟩, rfl, hts (.instanceMethod yX7_init) (gW_at 121 (by decide +kernel))⟩ ⟨pc_blind' dC dI cI cJ cZ _ _ _, fun U hU hW => ⟨rfl, by rw [hU], by rw [hU]; exact hPc, va_K.moved hW.alike hK, hDc.weaken (fun _ _ _ _ => trivial), nW_warm hW hN⟩⟩ rfl rfl hl.1 rfl (lv_room (Nat.le_of_ble_eq_true rfl)) dX9_init_64 ⟨Nat.le_of_ble_eq_true rfl, Nat.le_of_ble_eq_true rfl⟩) hS (fun q _ h => hFc q h) hFc (fun u t H1 locs ht hvm hw hB hz1 hk1 hS => ?_)
  obtain ⟨q12, q13, hP1, hK1, hD1⟩ := hB
  rw [ht] at hP1
  obtain ⟨hP, hD⟩ := va_join (wr := [(h0, .inr (8, [.ref q1, .ref q3, .ref q4, .ref q5, .ref q8, .null, .null, .null, .null, .long 0])), (q1, .inr (3, [.ref q2, .int 0])), (q2, .inl (cI, 20, .inl (fun _ => 0))), (q3, .inr (2, [.int 1, .int 0, .int 0])), (q4, .inr (2, [.int 1, .int 0, .int 0])), (q5, .inr (5, [.ref q6, .ref q7, .int 0])), (q6, .inl (cI, 14, .inl (fun _ => 0))), (q7, .inl (cI, 14, .inl (fun _ => 0))), (q8, .inr (7, [.ref q9, .ref q10, .int 0])), (q9, .inl (cI, 2, .inl (fun _ => 0))), (q10, .inl (cI, 2, .inl (fun _ => 0)))]) (w1 := [(q11, .inr (6, [.ref q12, .ref q13, .int 0])), (q12, .inl (cI, 6, .inl (fun _ => 0))), (q13, .inl (cI, 6, .inl (fun _ => 0)))]) hP hD [11] [0, 1, 2, 3, 4, 5, 6, 7, 8, 9, 10] rfl rfl (by decide) (by decide) hk1 hFc hP1 hD1
  generalize H1 = H at hP hS ⊢
  have hP : va_P (dC, dI) vwCl [(h0, .inr (8, [.ref q1, .ref q3, .ref q4, .ref q5, .ref q8, .null, .null, .null, .null, .long 0])), (q1, .inr (3, [.ref q2, .int 0])), (q2, .inl (cI, 20, .inl (fun _ => 0))), (q3, .inr (2, [.int 1, .int 0, .int 0])), (q4, .inr (2, [.int 1, .int 0, .int 0])), (q5, .inr (5, [.ref q6, .ref q7, .int 0])), (q6, .inl (cI, 14, .inl (fun _ => 0))), (q7, .inl (cI, 14, .inl (fun _ => 0))), (q8, .inr (7, [.ref q9, .ref q10, .int 0])), (q9, .inl (cI, 2, .inl (fun _ => 0))), (q10, .inl (cI, 2, .inl (fun _ => 0))), (q11, .inr (6, [.ref q12, .ref q13, .int 0])), (q12, .inl (cI, 6, .inl (fun _ => 0))), (q13, .inl (cI, 6, .inl (fun _ => 0)))] H := hP
  have hD : va_D A [(h0, .inr (8, [.ref q1, .ref q3, .ref q4, .ref q5, .ref q8, .null, .null, .null, .null, .long 0])), (q1, .inr (3, [.ref q2, .int 0])), (q2, .inl (cI, 20, .inl (fun _ => 0))), (q3, .inr (2, [.int 1, .int 0, .int 0])), (q4, .inr (2, [.int 1, .int 0, .int 0])), (q5, .inr (5, [.ref q6, .ref q7, .int 0])), (q6, .inl (cI, 14, .inl (fun _ => 0))), (q7, .inl (cI, 14, .inl (fun _ => 0))), (q8, .inr (7, [.ref q9, .ref q10, .int 0])), (q9, .inl (cI, 2, .inl (fun _ => 0))), (q10, .inl (cI, 2, .inl (fun _ => 0))), (q11, .inr (6, [.ref q12, .ref q13, .int 0])), (q12, .inl (cI, 6, .inl (fun _ => 0))), (q13, .inl (cI, 6, .inl (fun _ => 0)))] := hD
  refine W.widen (k := 13) (n := 81) (Nat.le_of_ble_eq_true rfl) (Nat.le_of_ble_eq_true rfl) ?_
  refine va_putF (D := (dC, dI)) (ci := 8) (v := .ref q11) (ty := .object "SquareFolds$Sightings") (C := RX9) (T := TX9) (N := 10) hx hb hts uwX9 tyX9 tyX9_ok nmX9 hown hK hP hD hS 0 rfl rfl 5 (by decide) (hts (.fieldLink RX9 43 "SquareFolds" "sightings" "LSquareFolds$Sightings;") (gW_at 190 (by decide +kernel))) (fun _ h9 => h9) rfl hin rfl (by decide +kernel) rfl rfl (Nat.le_of_ble_eq_true rfl) dX9_init_67 (fun H locs hP hD hS => ?_)
  have hP : va_P (dC, dI) vwCl [(h0, .inr (8, [.ref q1, .ref q3, .ref q4, .ref q5, .ref q8, .ref q11, .null, .null, .null, .long 0])), (q1, .inr (3, [.ref q2, .int 0])), (q2, .inl (cI, 20, .inl (fun _ => 0))), (q3, .inr (2, [.int 1, .int 0, .int 0])), (q4, .inr (2, [.int 1, .int 0, .int 0])), (q5, .inr (5, [.ref q6, .ref q7, .int 0])), (q6, .inl (cI, 14, .inl (fun _ => 0))), (q7, .inl (cI, 14, .inl (fun _ => 0))), (q8, .inr (7, [.ref q9, .ref q10, .int 0])), (q9, .inl (cI, 2, .inl (fun _ => 0))), (q10, .inl (cI, 2, .inl (fun _ => 0))), (q11, .inr (6, [.ref q12, .ref q13, .int 0])), (q12, .inl (cI, 6, .inl (fun _ => 0))), (q13, .inl (cI, 6, .inl (fun _ => 0)))] H := hP
  have hD : va_D A [(h0, .inr (8, [.ref q1, .ref q3, .ref q4, .ref q5, .ref q8, .ref q11, .null, .null, .null, .long 0])), (q1, .inr (3, [.ref q2, .int 0])), (q2, .inl (cI, 20, .inl (fun _ => 0))), (q3, .inr (2, [.int 1, .int 0, .int 0])), (q4, .inr (2, [.int 1, .int 0, .int 0])), (q5, .inr (5, [.ref q6, .ref q7, .int 0])), (q6, .inl (cI, 14, .inl (fun _ => 0))), (q7, .inl (cI, 14, .inl (fun _ => 0))), (q8, .inr (7, [.ref q9, .ref q10, .int 0])), (q9, .inl (cI, 2, .inl (fun _ => 0))), (q10, .inl (cI, 2, .inl (fun _ => 0))), (q11, .inr (6, [.ref q12, .ref q13, .int 0])), (q12, .inl (cI, 6, .inl (fun _ => 0))), (q13, .inl (cI, 6, .inl (fun _ => 0)))] := hD
  refine lv_aload_n hx hb dX9_init_70 rfl (lv_at hl 0 rfl) ?_
  refine va_new (ci := 4) (fs := [.null, .null, .null]) (C := RX4) (T := TX4) (N := 3) hx hb hts uwX4 tyX4 tyX4_ok hown (hts (.classLink RX9 47 RX4) (gW_at 135 (by decide +kernel))) (hts (.instantiable RX4 3) (gW_at 136 (by decide +kernel))) (hts (.initialized RX4) (gW_at 35 (by decide +kernel))) hK hP hD hS hA rfl (fun j hj => by rcases (show j = 0 ∨ j = 1 ∨ j = 2 by omega) with rfl | rfl | rfl <;> rfl) (Nat.le_of_ble_eq_true rfl) (Nat.le_of_ble_eq_true rfl) dX9_init_71 (fun q14 H hP hD hS => ?_)
  have hP : va_P (dC, dI) vwCl [(h0, .inr (8, [.ref q1, .ref q3, .ref q4, .ref q5, .ref q8, .ref q11, .null, .null, .null, .long 0])), (q1, .inr (3, [.ref q2, .int 0])), (q2, .inl (cI, 20, .inl (fun _ => 0))), (q3, .inr (2, [.int 1, .int 0, .int 0])), (q4, .inr (2, [.int 1, .int 0, .int 0])), (q5, .inr (5, [.ref q6, .ref q7, .int 0])), (q6, .inl (cI, 14, .inl (fun _ => 0))), (q7, .inl (cI, 14, .inl (fun _ => 0))), (q8, .inr (7, [.ref q9, .ref q10, .int 0])), (q9, .inl (cI, 2, .inl (fun _ => 0))), (q10, .inl (cI, 2, .inl (fun _ => 0))), (q11, .inr (6, [.ref q12, .ref q13, .int 0])), (q12, .inl (cI, 6, .inl (fun _ => 0))), (q13, .inl (cI, 6, .inl (fun _ => 0))), (q14, .inr (4, [.null, .null, .null]))] H := hP
  have hD : va_D A [(h0, .inr (8, [.ref q1, .ref q3, .ref q4, .ref q5, .ref q8, .ref q11, .null, .null, .null, .long 0])), (q1, .inr (3, [.ref q2, .int 0])), (q2, .inl (cI, 20, .inl (fun _ => 0))), (q3, .inr (2, [.int 1, .int 0, .int 0])), (q4, .inr (2, [.int 1, .int 0, .int 0])), (q5, .inr (5, [.ref q6, .ref q7, .int 0])), (q6, .inl (cI, 14, .inl (fun _ => 0))), (q7, .inl (cI, 14, .inl (fun _ => 0))), (q8, .inr (7, [.ref q9, .ref q10, .int 0])), (q9, .inl (cI, 2, .inl (fun _ => 0))), (q10, .inl (cI, 2, .inl (fun _ => 0))), (q11, .inr (6, [.ref q12, .ref q13, .int 0])), (q12, .inl (cI, 6, .inl (fun _ => 0))), (q13, .inl (cI, 6, .inl (fun _ => 0))), (q14, .inr (4, [.null, .null, .null]))] := hD
  refine W.widen (k := 14) (n := 84) (Nat.le_of_ble_eq_true rfl) (Nat.le_of_ble_eq_true rfl) ?_
  refine lv_dup hx hb dX9_init_74 rfl ?_
  have hPc := hP.sub (ws' := [(q14, .inr (4, [.null, .null, .null]))]) [14] rfl
  have hDc := hD.sub (ws' := [(q14, .inr (4, [.null, .null, .null]))]) [14] (by decide) rfl
  have hFc := va_free (wc := [(q14, .inr (4, [.null, .null, .null]))]) hD hS hA [14] rfl
  refine va_callv (va_runIN (As := []) (rest := [.ref q14, .ref h0]) ⟨hx, hb, hml, hown, hts⟩ (ctX4_init l dC dI cI cJ cZ q14 H.size) ⟨va_cnB 0 hts (gGood mX4_init (gW_at 139 (by decide +kernel))) rfl rfl rfl (hN (.methodLinkNest RX9 49 yX4_init "SquareFolds") (nW_at 137 (by decide +kernel))) (hts (.initialized RX4) (gW_at 35 (by decide +kernel))) (by decide +kernel) ⟨Nat.le_of_ble_eq_true rfl, Nat.le_of_ble_eq_true rfl⟩, rfl, hts (.instanceMethod yX4_init) (gW_at 138 (by decide +kernel))⟩ ⟨pc_blind' dC dI cI cJ cZ _ _ _, fun U hU hW => ⟨rfl, by rw [hU], by rw [hU]; exact hPc, va_K.moved hW.alike hK, hDc.weaken (fun _ _ _ _ => trivial), nW_warm hW hN⟩⟩ rfl rfl hl.1 rfl (lv_room (Nat.le_of_ble_eq_true rfl)) dX9_init_75 ⟨Nat.le_of_ble_eq_true rfl, Nat.le_of_ble_eq_true rfl⟩) hS (fun q _ h => hFc q h) hFc (fun u t H1 locs ht hvm hw hB hz1 hk1 hS => ?_)
  obtain ⟨q15, q16, q17, q18, hP1, hK1, hD1⟩ := hB
  rw [ht] at hP1
  obtain ⟨hP, hD⟩ := va_join (wr := [(h0, .inr (8, [.ref q1, .ref q3, .ref q4, .ref q5, .ref q8, .ref q11, .null, .null, .null, .long 0])), (q1, .inr (3, [.ref q2, .int 0])), (q2, .inl (cI, 20, .inl (fun _ => 0))), (q3, .inr (2, [.int 1, .int 0, .int 0])), (q4, .inr (2, [.int 1, .int 0, .int 0])), (q5, .inr (5, [.ref q6, .ref q7, .int 0])), (q6, .inl (cI, 14, .inl (fun _ => 0))), (q7, .inl (cI, 14, .inl (fun _ => 0))), (q8, .inr (7, [.ref q9, .ref q10, .int 0])), (q9, .inl (cI, 2, .inl (fun _ => 0))), (q10, .inl (cI, 2, .inl (fun _ => 0))), (q11, .inr (6, [.ref q12, .ref q13, .int 0])), (q12, .inl (cI, 6, .inl (fun _ => 0))), (q13, .inl (cI, 6, .inl (fun _ => 0)))]) (w1 := [(q14, .inr (4, [.ref q15, .ref q17, .ref q18])), (q15, .inr (0, [.ref q16, .int 0])), (q16, .inl (cJ, 128, .inr (.inl (fun _ => 0)))), (q17, .inl (cI, 128, .inl (fun _ => 0))), (q18, .inr (2, [.int 1, .int 0, .int 0]))]) hP hD [14] [0, 1, 2, 3, 4, 5, 6, 7, 8, 9, 10, 11, 12, 13] rfl rfl (by decide) (by decide) hk1 hFc hP1 hD1
  generalize H1 = H at hP hS ⊢
  have hP : va_P (dC, dI) vwCl [(h0, .inr (8, [.ref q1, .ref q3, .ref q4, .ref q5, .ref q8, .ref q11, .null, .null, .null, .long 0])), (q1, .inr (3, [.ref q2, .int 0])), (q2, .inl (cI, 20, .inl (fun _ => 0))), (q3, .inr (2, [.int 1, .int 0, .int 0])), (q4, .inr (2, [.int 1, .int 0, .int 0])), (q5, .inr (5, [.ref q6, .ref q7, .int 0])), (q6, .inl (cI, 14, .inl (fun _ => 0))), (q7, .inl (cI, 14, .inl (fun _ => 0))), (q8, .inr (7, [.ref q9, .ref q10, .int 0])), (q9, .inl (cI, 2, .inl (fun _ => 0))), (q10, .inl (cI, 2, .inl (fun _ => 0))), (q11, .inr (6, [.ref q12, .ref q13, .int 0])), (q12, .inl (cI, 6, .inl (fun _ => 0))), (q13, .inl (cI, 6, .inl (fun _ => 0))), (q14, .inr (4, [.ref q15, .ref q17, .ref q18])), (q15, .inr (0, [.ref q16, .int 0])), (q16, .inl (cJ, 128, .inr (.inl (fun _ => 0)))), (q17, .inl (cI, 128, .inl (fun _ => 0))), (q18, .inr (2, [.int 1, .int 0, .int 0]))] H := hP
  have hD : va_D A [(h0, .inr (8, [.ref q1, .ref q3, .ref q4, .ref q5, .ref q8, .ref q11, .null, .null, .null, .long 0])), (q1, .inr (3, [.ref q2, .int 0])), (q2, .inl (cI, 20, .inl (fun _ => 0))), (q3, .inr (2, [.int 1, .int 0, .int 0])), (q4, .inr (2, [.int 1, .int 0, .int 0])), (q5, .inr (5, [.ref q6, .ref q7, .int 0])), (q6, .inl (cI, 14, .inl (fun _ => 0))), (q7, .inl (cI, 14, .inl (fun _ => 0))), (q8, .inr (7, [.ref q9, .ref q10, .int 0])), (q9, .inl (cI, 2, .inl (fun _ => 0))), (q10, .inl (cI, 2, .inl (fun _ => 0))), (q11, .inr (6, [.ref q12, .ref q13, .int 0])), (q12, .inl (cI, 6, .inl (fun _ => 0))), (q13, .inl (cI, 6, .inl (fun _ => 0))), (q14, .inr (4, [.ref q15, .ref q17, .ref q18])), (q15, .inr (0, [.ref q16, .int 0])), (q16, .inl (cJ, 128, .inr (.inl (fun _ => 0)))), (q17, .inl (cI, 128, .inl (fun _ => 0))), (q18, .inr (2, [.int 1, .int 0, .int 0]))] := hD
  refine W.widen (k := 18) (n := 345) (Nat.le_of_ble_eq_true rfl) (Nat.le_of_ble_eq_true rfl) ?_
  refine va_putF (D := (dC, dI)) (ci := 8) (v := .ref q14) (ty := .object "SquareFolds$NameOrbit") (C := RX9) (T := TX9) (N := 10) hx hb hts uwX9 tyX9 tyX9_ok nmX9 hown hK hP hD hS 0 rfl rfl 6 (by decide) (hts (.fieldLink RX9 50 "SquareFolds" "nameOrbit" "LSquareFolds$NameOrbit;") (gW_at 191 (by decide +kernel))) (fun _ h9 => h9) rfl hin rfl (by decide +kernel) rfl rfl (Nat.le_of_ble_eq_true rfl) dX9_init_78 (fun H locs hP hD hS => ?_)
  have hP : va_P (dC, dI) vwCl [(h0, .inr (8, [.ref q1, .ref q3, .ref q4, .ref q5, .ref q8, .ref q11, .ref q14, .null, .null, .long 0])), (q1, .inr (3, [.ref q2, .int 0])), (q2, .inl (cI, 20, .inl (fun _ => 0))), (q3, .inr (2, [.int 1, .int 0, .int 0])), (q4, .inr (2, [.int 1, .int 0, .int 0])), (q5, .inr (5, [.ref q6, .ref q7, .int 0])), (q6, .inl (cI, 14, .inl (fun _ => 0))), (q7, .inl (cI, 14, .inl (fun _ => 0))), (q8, .inr (7, [.ref q9, .ref q10, .int 0])), (q9, .inl (cI, 2, .inl (fun _ => 0))), (q10, .inl (cI, 2, .inl (fun _ => 0))), (q11, .inr (6, [.ref q12, .ref q13, .int 0])), (q12, .inl (cI, 6, .inl (fun _ => 0))), (q13, .inl (cI, 6, .inl (fun _ => 0))), (q14, .inr (4, [.ref q15, .ref q17, .ref q18])), (q15, .inr (0, [.ref q16, .int 0])), (q16, .inl (cJ, 128, .inr (.inl (fun _ => 0)))), (q17, .inl (cI, 128, .inl (fun _ => 0))), (q18, .inr (2, [.int 1, .int 0, .int 0]))] H := hP
  have hD : va_D A [(h0, .inr (8, [.ref q1, .ref q3, .ref q4, .ref q5, .ref q8, .ref q11, .ref q14, .null, .null, .long 0])), (q1, .inr (3, [.ref q2, .int 0])), (q2, .inl (cI, 20, .inl (fun _ => 0))), (q3, .inr (2, [.int 1, .int 0, .int 0])), (q4, .inr (2, [.int 1, .int 0, .int 0])), (q5, .inr (5, [.ref q6, .ref q7, .int 0])), (q6, .inl (cI, 14, .inl (fun _ => 0))), (q7, .inl (cI, 14, .inl (fun _ => 0))), (q8, .inr (7, [.ref q9, .ref q10, .int 0])), (q9, .inl (cI, 2, .inl (fun _ => 0))), (q10, .inl (cI, 2, .inl (fun _ => 0))), (q11, .inr (6, [.ref q12, .ref q13, .int 0])), (q12, .inl (cI, 6, .inl (fun _ => 0))), (q13, .inl (cI, 6, .inl (fun _ => 0))), (q14, .inr (4, [.ref q15, .ref q17, .ref q18])), (q15, .inr (0, [.ref q16, .int 0])), (q16, .inl (cJ, 128, .inr (.inl (fun _ => 0)))), (q17, .inl (cI, 128, .inl (fun _ => 0))), (q18, .inr (2, [.int 1, .int 0, .int 0]))] := hD
  refine lv_aload_n hx hb dX9_init_81 rfl (lv_at hl 0 rfl) ?_
  refine va_new (ci := 0) (fs := [.null, .int 0]) (C := RX0) (T := TX0) (N := 2) hx hb hts uwX0 tyX0 tyX0_ok hown (hts (.classLink RX9 54 RX0) (gW_at 170 (by decide +kernel))) (hts (.instantiable RX0 2) (gW_at 142 (by decide +kernel))) (hts (.initialized RX0) (gW_at 36 (by decide +kernel))) hK hP hD hS hA rfl (fun j hj => by rcases (show j = 0 ∨ j = 1 by omega) with rfl | rfl <;> rfl) (Nat.le_of_ble_eq_true rfl) (Nat.le_of_ble_eq_true rfl) dX9_init_82 (fun q19 H hP hD hS => ?_)
  have hP : va_P (dC, dI) vwCl [(h0, .inr (8, [.ref q1, .ref q3, .ref q4, .ref q5, .ref q8, .ref q11, .ref q14, .null, .null, .long 0])), (q1, .inr (3, [.ref q2, .int 0])), (q2, .inl (cI, 20, .inl (fun _ => 0))), (q3, .inr (2, [.int 1, .int 0, .int 0])), (q4, .inr (2, [.int 1, .int 0, .int 0])), (q5, .inr (5, [.ref q6, .ref q7, .int 0])), (q6, .inl (cI, 14, .inl (fun _ => 0))), (q7, .inl (cI, 14, .inl (fun _ => 0))), (q8, .inr (7, [.ref q9, .ref q10, .int 0])), (q9, .inl (cI, 2, .inl (fun _ => 0))), (q10, .inl (cI, 2, .inl (fun _ => 0))), (q11, .inr (6, [.ref q12, .ref q13, .int 0])), (q12, .inl (cI, 6, .inl (fun _ => 0))), (q13, .inl (cI, 6, .inl (fun _ => 0))), (q14, .inr (4, [.ref q15, .ref q17, .ref q18])), (q15, .inr (0, [.ref q16, .int 0])), (q16, .inl (cJ, 128, .inr (.inl (fun _ => 0)))), (q17, .inl (cI, 128, .inl (fun _ => 0))), (q18, .inr (2, [.int 1, .int 0, .int 0])), (q19, .inr (0, [.null, .int 0]))] H := hP
  have hD : va_D A [(h0, .inr (8, [.ref q1, .ref q3, .ref q4, .ref q5, .ref q8, .ref q11, .ref q14, .null, .null, .long 0])), (q1, .inr (3, [.ref q2, .int 0])), (q2, .inl (cI, 20, .inl (fun _ => 0))), (q3, .inr (2, [.int 1, .int 0, .int 0])), (q4, .inr (2, [.int 1, .int 0, .int 0])), (q5, .inr (5, [.ref q6, .ref q7, .int 0])), (q6, .inl (cI, 14, .inl (fun _ => 0))), (q7, .inl (cI, 14, .inl (fun _ => 0))), (q8, .inr (7, [.ref q9, .ref q10, .int 0])), (q9, .inl (cI, 2, .inl (fun _ => 0))), (q10, .inl (cI, 2, .inl (fun _ => 0))), (q11, .inr (6, [.ref q12, .ref q13, .int 0])), (q12, .inl (cI, 6, .inl (fun _ => 0))), (q13, .inl (cI, 6, .inl (fun _ => 0))), (q14, .inr (4, [.ref q15, .ref q17, .ref q18])), (q15, .inr (0, [.ref q16, .int 0])), (q16, .inl (cJ, 128, .inr (.inl (fun _ => 0)))), (q17, .inl (cI, 128, .inl (fun _ => 0))), (q18, .inr (2, [.int 1, .int 0, .int 0])), (q19, .inr (0, [.null, .int 0]))] := hD
  refine W.widen (k := 19) (n := 347) (Nat.le_of_ble_eq_true rfl) (Nat.le_of_ble_eq_true rfl) ?_
  refine lv_dup hx hb dX9_init_85 rfl ?_
  have hPc := hP.sub (ws' := [(q19, .inr (0, [.null, .int 0]))]) [19] rfl
  have hDc := hD.sub (ws' := [(q19, .inr (0, [.null, .int 0]))]) [19] (by decide) rfl
  have hFc := va_free (wc := [(q19, .inr (0, [.null, .int 0]))]) hD hS hA [19] rfl
  refine va_callv (va_runIN (As := []) (rest := [.ref q19, .ref h0]) ⟨hx, hb, hml, hown, hts⟩ (ctX0_init l dC dI cI cJ cZ q19 H.size) ⟨va_cnB 0 hts (gGood mX0_init (gW_at 145 (by decide +kernel))) rfl rfl rfl (hN (.methodLinkNest RX9 56 yX0_init "SquareFolds") (nW_at 171 (by decide +kernel))) (hts (.initialized RX0) (gW_at 36 (by decide +kernel))) (by decide +kernel) ⟨Nat.le_of_ble_eq_true rfl, Nat.le_of_ble_eq_true rfl⟩, rfl, hts (.instanceMethod yX0_init) (gW_at 144 (by decide +kernel))⟩ ⟨pc_blind' dC dI cI cJ cZ _ _ _, fun U hU hW => ⟨rfl, by rw [hU], by rw [hU]; exact hPc, va_K.moved hW.alike hK, hDc.weaken (fun _ _ _ _ => trivial), nW_warm hW hN⟩⟩ rfl rfl hl.1 rfl (lv_room (Nat.le_of_ble_eq_true rfl)) dX9_init_86 ⟨Nat.le_of_ble_eq_true rfl, Nat.le_of_ble_eq_true rfl⟩) hS (fun q _ h => hFc q h) hFc (fun u t H1 locs ht hvm hw hB hz1 hk1 hS => ?_)
  obtain ⟨q20, hP1, hK1, hD1⟩ := hB
  rw [ht] at hP1
  obtain ⟨hP, hD⟩ := va_join (wr := [(h0, .inr (8, [.ref q1, .ref q3, .ref q4, .ref q5, .ref q8, .ref q11, .ref q14, .null, .null, .long 0])), (q1, .inr (3, [.ref q2, .int 0])), (q2, .inl (cI, 20, .inl (fun _ => 0))), (q3, .inr (2, [.int 1, .int 0, .int 0])), (q4, .inr (2, [.int 1, .int 0, .int 0])), (q5, .inr (5, [.ref q6, .ref q7, .int 0])), (q6, .inl (cI, 14, .inl (fun _ => 0))), (q7, .inl (cI, 14, .inl (fun _ => 0))), (q8, .inr (7, [.ref q9, .ref q10, .int 0])), (q9, .inl (cI, 2, .inl (fun _ => 0))), (q10, .inl (cI, 2, .inl (fun _ => 0))), (q11, .inr (6, [.ref q12, .ref q13, .int 0])), (q12, .inl (cI, 6, .inl (fun _ => 0))), (q13, .inl (cI, 6, .inl (fun _ => 0))), (q14, .inr (4, [.ref q15, .ref q17, .ref q18])), (q15, .inr (0, [.ref q16, .int 0])), (q16, .inl (cJ, 128, .inr (.inl (fun _ => 0)))), (q17, .inl (cI, 128, .inl (fun _ => 0))), (q18, .inr (2, [.int 1, .int 0, .int 0]))]) (w1 := [(q19, .inr (0, [.ref q20, .int 0])), (q20, .inl (cJ, 128, .inr (.inl (fun _ => 0))))]) hP hD [19] [0, 1, 2, 3, 4, 5, 6, 7, 8, 9, 10, 11, 12, 13, 14, 15, 16, 17, 18] rfl rfl (by decide) (by decide) hk1 hFc hP1 hD1
  generalize H1 = H at hP hS ⊢
  have hP : va_P (dC, dI) vwCl [(h0, .inr (8, [.ref q1, .ref q3, .ref q4, .ref q5, .ref q8, .ref q11, .ref q14, .null, .null, .long 0])), (q1, .inr (3, [.ref q2, .int 0])), (q2, .inl (cI, 20, .inl (fun _ => 0))), (q3, .inr (2, [.int 1, .int 0, .int 0])), (q4, .inr (2, [.int 1, .int 0, .int 0])), (q5, .inr (5, [.ref q6, .ref q7, .int 0])), (q6, .inl (cI, 14, .inl (fun _ => 0))), (q7, .inl (cI, 14, .inl (fun _ => 0))), (q8, .inr (7, [.ref q9, .ref q10, .int 0])), (q9, .inl (cI, 2, .inl (fun _ => 0))), (q10, .inl (cI, 2, .inl (fun _ => 0))), (q11, .inr (6, [.ref q12, .ref q13, .int 0])), (q12, .inl (cI, 6, .inl (fun _ => 0))), (q13, .inl (cI, 6, .inl (fun _ => 0))), (q14, .inr (4, [.ref q15, .ref q17, .ref q18])), (q15, .inr (0, [.ref q16, .int 0])), (q16, .inl (cJ, 128, .inr (.inl (fun _ => 0)))), (q17, .inl (cI, 128, .inl (fun _ => 0))), (q18, .inr (2, [.int 1, .int 0, .int 0])), (q19, .inr (0, [.ref q20, .int 0])), (q20, .inl (cJ, 128, .inr (.inl (fun _ => 0))))] H := hP
  have hD : va_D A [(h0, .inr (8, [.ref q1, .ref q3, .ref q4, .ref q5, .ref q8, .ref q11, .ref q14, .null, .null, .long 0])), (q1, .inr (3, [.ref q2, .int 0])), (q2, .inl (cI, 20, .inl (fun _ => 0))), (q3, .inr (2, [.int 1, .int 0, .int 0])), (q4, .inr (2, [.int 1, .int 0, .int 0])), (q5, .inr (5, [.ref q6, .ref q7, .int 0])), (q6, .inl (cI, 14, .inl (fun _ => 0))), (q7, .inl (cI, 14, .inl (fun _ => 0))), (q8, .inr (7, [.ref q9, .ref q10, .int 0])), (q9, .inl (cI, 2, .inl (fun _ => 0))), (q10, .inl (cI, 2, .inl (fun _ => 0))), (q11, .inr (6, [.ref q12, .ref q13, .int 0])), (q12, .inl (cI, 6, .inl (fun _ => 0))), (q13, .inl (cI, 6, .inl (fun _ => 0))), (q14, .inr (4, [.ref q15, .ref q17, .ref q18])), (q15, .inr (0, [.ref q16, .int 0])), (q16, .inl (cJ, 128, .inr (.inl (fun _ => 0)))), (q17, .inl (cI, 128, .inl (fun _ => 0))), (q18, .inr (2, [.int 1, .int 0, .int 0])), (q19, .inr (0, [.ref q20, .int 0])), (q20, .inl (cJ, 128, .inr (.inl (fun _ => 0))))] := hD
  refine W.widen (k := 20) (n := 475) (Nat.le_of_ble_eq_true rfl) (Nat.le_of_ble_eq_true rfl) ?_
  refine va_putF (D := (dC, dI)) (ci := 8) (v := .ref q19) (ty := .object "SquareFolds$Distinct") (C := RX9) (T := TX9) (N := 10) hx hb hts uwX9 tyX9 tyX9_ok nmX9 hown hK hP hD hS 0 rfl rfl 7 (by decide) (hts (.fieldLink RX9 57 "SquareFolds" "turns" "LSquareFolds$Distinct;") (gW_at 192 (by decide +kernel))) (fun _ h9 => h9) rfl hin rfl (by decide +kernel) rfl rfl (Nat.le_of_ble_eq_true rfl) dX9_init_89 (fun H locs hP hD hS => ?_)
  have hP : va_P (dC, dI) vwCl [(h0, .inr (8, [.ref q1, .ref q3, .ref q4, .ref q5, .ref q8, .ref q11, .ref q14, .ref q19, .null, .long 0])), (q1, .inr (3, [.ref q2, .int 0])), (q2, .inl (cI, 20, .inl (fun _ => 0))), (q3, .inr (2, [.int 1, .int 0, .int 0])), (q4, .inr (2, [.int 1, .int 0, .int 0])), (q5, .inr (5, [.ref q6, .ref q7, .int 0])), (q6, .inl (cI, 14, .inl (fun _ => 0))), (q7, .inl (cI, 14, .inl (fun _ => 0))), (q8, .inr (7, [.ref q9, .ref q10, .int 0])), (q9, .inl (cI, 2, .inl (fun _ => 0))), (q10, .inl (cI, 2, .inl (fun _ => 0))), (q11, .inr (6, [.ref q12, .ref q13, .int 0])), (q12, .inl (cI, 6, .inl (fun _ => 0))), (q13, .inl (cI, 6, .inl (fun _ => 0))), (q14, .inr (4, [.ref q15, .ref q17, .ref q18])), (q15, .inr (0, [.ref q16, .int 0])), (q16, .inl (cJ, 128, .inr (.inl (fun _ => 0)))), (q17, .inl (cI, 128, .inl (fun _ => 0))), (q18, .inr (2, [.int 1, .int 0, .int 0])), (q19, .inr (0, [.ref q20, .int 0])), (q20, .inl (cJ, 128, .inr (.inl (fun _ => 0))))] H := hP
  have hD : va_D A [(h0, .inr (8, [.ref q1, .ref q3, .ref q4, .ref q5, .ref q8, .ref q11, .ref q14, .ref q19, .null, .long 0])), (q1, .inr (3, [.ref q2, .int 0])), (q2, .inl (cI, 20, .inl (fun _ => 0))), (q3, .inr (2, [.int 1, .int 0, .int 0])), (q4, .inr (2, [.int 1, .int 0, .int 0])), (q5, .inr (5, [.ref q6, .ref q7, .int 0])), (q6, .inl (cI, 14, .inl (fun _ => 0))), (q7, .inl (cI, 14, .inl (fun _ => 0))), (q8, .inr (7, [.ref q9, .ref q10, .int 0])), (q9, .inl (cI, 2, .inl (fun _ => 0))), (q10, .inl (cI, 2, .inl (fun _ => 0))), (q11, .inr (6, [.ref q12, .ref q13, .int 0])), (q12, .inl (cI, 6, .inl (fun _ => 0))), (q13, .inl (cI, 6, .inl (fun _ => 0))), (q14, .inr (4, [.ref q15, .ref q17, .ref q18])), (q15, .inr (0, [.ref q16, .int 0])), (q16, .inl (cJ, 128, .inr (.inl (fun _ => 0)))), (q17, .inl (cI, 128, .inl (fun _ => 0))), (q18, .inr (2, [.int 1, .int 0, .int 0])), (q19, .inr (0, [.ref q20, .int 0])), (q20, .inl (cJ, 128, .inr (.inl (fun _ => 0))))] := hD
  refine lv_aload_n hx hb dX9_init_92 rfl (lv_at hl 0 rfl) ?_
  refine va_new (ci := 1) (fs := [.int 0, .int 0]) (C := RX1) (T := TX1) (N := 2) hx hb hts uwX1 tyX1 tyX1_ok hown (hts (.classLink RX9 61 RX1) (gW_at 172 (by decide +kernel))) (hts (.instantiable RX1 2) (gW_at 173 (by decide +kernel))) (hts (.initialized RX1) (gW_at 37 (by decide +kernel))) hK hP hD hS hA rfl (fun j hj => by rcases (show j = 0 ∨ j = 1 by omega) with rfl | rfl <;> rfl) (Nat.le_of_ble_eq_true rfl) (Nat.le_of_ble_eq_true rfl) dX9_init_93 (fun q21 H hP hD hS => ?_)
  have hP : va_P (dC, dI) vwCl [(h0, .inr (8, [.ref q1, .ref q3, .ref q4, .ref q5, .ref q8, .ref q11, .ref q14, .ref q19, .null, .long 0])), (q1, .inr (3, [.ref q2, .int 0])), (q2, .inl (cI, 20, .inl (fun _ => 0))), (q3, .inr (2, [.int 1, .int 0, .int 0])), (q4, .inr (2, [.int 1, .int 0, .int 0])), (q5, .inr (5, [.ref q6, .ref q7, .int 0])), (q6, .inl (cI, 14, .inl (fun _ => 0))), (q7, .inl (cI, 14, .inl (fun _ => 0))), (q8, .inr (7, [.ref q9, .ref q10, .int 0])), (q9, .inl (cI, 2, .inl (fun _ => 0))), (q10, .inl (cI, 2, .inl (fun _ => 0))), (q11, .inr (6, [.ref q12, .ref q13, .int 0])), (q12, .inl (cI, 6, .inl (fun _ => 0))), (q13, .inl (cI, 6, .inl (fun _ => 0))), (q14, .inr (4, [.ref q15, .ref q17, .ref q18])), (q15, .inr (0, [.ref q16, .int 0])), (q16, .inl (cJ, 128, .inr (.inl (fun _ => 0)))), (q17, .inl (cI, 128, .inl (fun _ => 0))), (q18, .inr (2, [.int 1, .int 0, .int 0])), (q19, .inr (0, [.ref q20, .int 0])), (q20, .inl (cJ, 128, .inr (.inl (fun _ => 0)))), (q21, .inr (1, [.int 0, .int 0]))] H := hP
  have hD : va_D A [(h0, .inr (8, [.ref q1, .ref q3, .ref q4, .ref q5, .ref q8, .ref q11, .ref q14, .ref q19, .null, .long 0])), (q1, .inr (3, [.ref q2, .int 0])), (q2, .inl (cI, 20, .inl (fun _ => 0))), (q3, .inr (2, [.int 1, .int 0, .int 0])), (q4, .inr (2, [.int 1, .int 0, .int 0])), (q5, .inr (5, [.ref q6, .ref q7, .int 0])), (q6, .inl (cI, 14, .inl (fun _ => 0))), (q7, .inl (cI, 14, .inl (fun _ => 0))), (q8, .inr (7, [.ref q9, .ref q10, .int 0])), (q9, .inl (cI, 2, .inl (fun _ => 0))), (q10, .inl (cI, 2, .inl (fun _ => 0))), (q11, .inr (6, [.ref q12, .ref q13, .int 0])), (q12, .inl (cI, 6, .inl (fun _ => 0))), (q13, .inl (cI, 6, .inl (fun _ => 0))), (q14, .inr (4, [.ref q15, .ref q17, .ref q18])), (q15, .inr (0, [.ref q16, .int 0])), (q16, .inl (cJ, 128, .inr (.inl (fun _ => 0)))), (q17, .inl (cI, 128, .inl (fun _ => 0))), (q18, .inr (2, [.int 1, .int 0, .int 0])), (q19, .inr (0, [.ref q20, .int 0])), (q20, .inl (cJ, 128, .inr (.inl (fun _ => 0)))), (q21, .inr (1, [.int 0, .int 0]))] := hD
  refine W.widen (k := 21) (n := 477) (Nat.le_of_ble_eq_true rfl) (Nat.le_of_ble_eq_true rfl) ?_
  refine lv_dup hx hb dX9_init_96 rfl ?_
  have hPc := hP.sub (ws' := [(q21, .inr (1, [.int 0, .int 0]))]) [21] rfl
  have hDc := hD.sub (ws' := [(q21, .inr (1, [.int 0, .int 0]))]) [21] (by decide) rfl
  have hFc := va_free (wc := [(q21, .inr (1, [.int 0, .int 0]))]) hD hS hA [21] rfl
  refine va_callv (va_runIN (As := []) (rest := [.ref q21, .ref h0]) ⟨hx, hb, hml, hown, hts⟩ (ctX1_init l dC dI cI cJ cZ q21 H.size) ⟨va_cnB 0 hts (gGood mX1_init (gW_at 176 (by decide +kernel))) rfl rfl rfl (hN (.methodLinkNest RX9 63 yX1_init "SquareFolds") (nW_at 174 (by decide +kernel))) (hts (.initialized RX1) (gW_at 37 (by decide +kernel))) (by decide +kernel) ⟨Nat.le_of_ble_eq_true rfl, Nat.le_of_ble_eq_true rfl⟩, rfl, hts (.instanceMethod yX1_init) (gW_at 175 (by decide +kernel))⟩ ⟨pc_blind' dC dI cI cJ cZ _ _ _, fun U hU hW => ⟨rfl, by rw [hU], by rw [hU]; exact hPc, va_K.moved hW.alike hK, hDc.weaken (fun _ _ _ _ => trivial), nW_warm hW hN⟩⟩ rfl rfl hl.1 rfl (lv_room (Nat.le_of_ble_eq_true rfl)) dX9_init_97 ⟨Nat.le_of_ble_eq_true rfl, Nat.le_of_ble_eq_true rfl⟩) hS (fun q _ h => hFc q h) hFc (fun u t H1 locs ht hvm hw hB hz1 hk1 hS => ?_)
  obtain ⟨hP1, hK1, hD1⟩ := hB
  rw [ht] at hP1
  obtain ⟨hP, hD⟩ := va_join (wr := [(h0, .inr (8, [.ref q1, .ref q3, .ref q4, .ref q5, .ref q8, .ref q11, .ref q14, .ref q19, .null, .long 0])), (q1, .inr (3, [.ref q2, .int 0])), (q2, .inl (cI, 20, .inl (fun _ => 0))), (q3, .inr (2, [.int 1, .int 0, .int 0])), (q4, .inr (2, [.int 1, .int 0, .int 0])), (q5, .inr (5, [.ref q6, .ref q7, .int 0])), (q6, .inl (cI, 14, .inl (fun _ => 0))), (q7, .inl (cI, 14, .inl (fun _ => 0))), (q8, .inr (7, [.ref q9, .ref q10, .int 0])), (q9, .inl (cI, 2, .inl (fun _ => 0))), (q10, .inl (cI, 2, .inl (fun _ => 0))), (q11, .inr (6, [.ref q12, .ref q13, .int 0])), (q12, .inl (cI, 6, .inl (fun _ => 0))), (q13, .inl (cI, 6, .inl (fun _ => 0))), (q14, .inr (4, [.ref q15, .ref q17, .ref q18])), (q15, .inr (0, [.ref q16, .int 0])), (q16, .inl (cJ, 128, .inr (.inl (fun _ => 0)))), (q17, .inl (cI, 128, .inl (fun _ => 0))), (q18, .inr (2, [.int 1, .int 0, .int 0])), (q19, .inr (0, [.ref q20, .int 0])), (q20, .inl (cJ, 128, .inr (.inl (fun _ => 0))))]) (w1 := [(q21, .inr (1, [.int 0, .int 1]))]) hP hD [21] [0, 1, 2, 3, 4, 5, 6, 7, 8, 9, 10, 11, 12, 13, 14, 15, 16, 17, 18, 19, 20] rfl rfl (by decide) (by decide) hk1 hFc hP1 hD1
  generalize H1 = H at hP hS ⊢
  have hP : va_P (dC, dI) vwCl [(h0, .inr (8, [.ref q1, .ref q3, .ref q4, .ref q5, .ref q8, .ref q11, .ref q14, .ref q19, .null, .long 0])), (q1, .inr (3, [.ref q2, .int 0])), (q2, .inl (cI, 20, .inl (fun _ => 0))), (q3, .inr (2, [.int 1, .int 0, .int 0])), (q4, .inr (2, [.int 1, .int 0, .int 0])), (q5, .inr (5, [.ref q6, .ref q7, .int 0])), (q6, .inl (cI, 14, .inl (fun _ => 0))), (q7, .inl (cI, 14, .inl (fun _ => 0))), (q8, .inr (7, [.ref q9, .ref q10, .int 0])), (q9, .inl (cI, 2, .inl (fun _ => 0))), (q10, .inl (cI, 2, .inl (fun _ => 0))), (q11, .inr (6, [.ref q12, .ref q13, .int 0])), (q12, .inl (cI, 6, .inl (fun _ => 0))), (q13, .inl (cI, 6, .inl (fun _ => 0))), (q14, .inr (4, [.ref q15, .ref q17, .ref q18])), (q15, .inr (0, [.ref q16, .int 0])), (q16, .inl (cJ, 128, .inr (.inl (fun _ => 0)))), (q17, .inl (cI, 128, .inl (fun _ => 0))), (q18, .inr (2, [.int 1, .int 0, .int 0])), (q19, .inr (0, [.ref q20, .int 0])), (q20, .inl (cJ, 128, .inr (.inl (fun _ => 0)))), (q21, .inr (1, [.int 0, .int 1]))] H := hP
  have hD : va_D A [(h0, .inr (8, [.ref q1, .ref q3, .ref q4, .ref q5, .ref q8, .ref q11, .ref q14, .ref q19, .null, .long 0])), (q1, .inr (3, [.ref q2, .int 0])), (q2, .inl (cI, 20, .inl (fun _ => 0))), (q3, .inr (2, [.int 1, .int 0, .int 0])), (q4, .inr (2, [.int 1, .int 0, .int 0])), (q5, .inr (5, [.ref q6, .ref q7, .int 0])), (q6, .inl (cI, 14, .inl (fun _ => 0))), (q7, .inl (cI, 14, .inl (fun _ => 0))), (q8, .inr (7, [.ref q9, .ref q10, .int 0])), (q9, .inl (cI, 2, .inl (fun _ => 0))), (q10, .inl (cI, 2, .inl (fun _ => 0))), (q11, .inr (6, [.ref q12, .ref q13, .int 0])), (q12, .inl (cI, 6, .inl (fun _ => 0))), (q13, .inl (cI, 6, .inl (fun _ => 0))), (q14, .inr (4, [.ref q15, .ref q17, .ref q18])), (q15, .inr (0, [.ref q16, .int 0])), (q16, .inl (cJ, 128, .inr (.inl (fun _ => 0)))), (q17, .inl (cI, 128, .inl (fun _ => 0))), (q18, .inr (2, [.int 1, .int 0, .int 0])), (q19, .inr (0, [.ref q20, .int 0])), (q20, .inl (cJ, 128, .inr (.inl (fun _ => 0)))), (q21, .inr (1, [.int 0, .int 1]))] := hD
  refine W.widen (k := 21) (n := 477) (Nat.le_of_ble_eq_true rfl) (Nat.le_of_ble_eq_true rfl) ?_
  refine va_putF (D := (dC, dI)) (ci := 8) (v := .ref q21) (ty := .object "SquareFolds$Fraction") (C := RX9) (T := TX9) (N := 10) hx hb hts uwX9 tyX9 tyX9_ok nmX9 hown hK hP hD hS 0 rfl rfl 8 (by decide) (hts (.fieldLink RX9 64 "SquareFolds" "fraction" "LSquareFolds$Fraction;") (gW_at 193 (by decide +kernel))) (fun _ h9 => h9) rfl hin rfl (by decide +kernel) rfl rfl (Nat.le_of_ble_eq_true rfl) dX9_init_100 (fun H locs hP hD hS => ?_)
  have hP : va_P (dC, dI) vwCl [(h0, .inr (8, [.ref q1, .ref q3, .ref q4, .ref q5, .ref q8, .ref q11, .ref q14, .ref q19, .ref q21, .long 0])), (q1, .inr (3, [.ref q2, .int 0])), (q2, .inl (cI, 20, .inl (fun _ => 0))), (q3, .inr (2, [.int 1, .int 0, .int 0])), (q4, .inr (2, [.int 1, .int 0, .int 0])), (q5, .inr (5, [.ref q6, .ref q7, .int 0])), (q6, .inl (cI, 14, .inl (fun _ => 0))), (q7, .inl (cI, 14, .inl (fun _ => 0))), (q8, .inr (7, [.ref q9, .ref q10, .int 0])), (q9, .inl (cI, 2, .inl (fun _ => 0))), (q10, .inl (cI, 2, .inl (fun _ => 0))), (q11, .inr (6, [.ref q12, .ref q13, .int 0])), (q12, .inl (cI, 6, .inl (fun _ => 0))), (q13, .inl (cI, 6, .inl (fun _ => 0))), (q14, .inr (4, [.ref q15, .ref q17, .ref q18])), (q15, .inr (0, [.ref q16, .int 0])), (q16, .inl (cJ, 128, .inr (.inl (fun _ => 0)))), (q17, .inl (cI, 128, .inl (fun _ => 0))), (q18, .inr (2, [.int 1, .int 0, .int 0])), (q19, .inr (0, [.ref q20, .int 0])), (q20, .inl (cJ, 128, .inr (.inl (fun _ => 0)))), (q21, .inr (1, [.int 0, .int 1]))] H := hP
  have hD : va_D A [(h0, .inr (8, [.ref q1, .ref q3, .ref q4, .ref q5, .ref q8, .ref q11, .ref q14, .ref q19, .ref q21, .long 0])), (q1, .inr (3, [.ref q2, .int 0])), (q2, .inl (cI, 20, .inl (fun _ => 0))), (q3, .inr (2, [.int 1, .int 0, .int 0])), (q4, .inr (2, [.int 1, .int 0, .int 0])), (q5, .inr (5, [.ref q6, .ref q7, .int 0])), (q6, .inl (cI, 14, .inl (fun _ => 0))), (q7, .inl (cI, 14, .inl (fun _ => 0))), (q8, .inr (7, [.ref q9, .ref q10, .int 0])), (q9, .inl (cI, 2, .inl (fun _ => 0))), (q10, .inl (cI, 2, .inl (fun _ => 0))), (q11, .inr (6, [.ref q12, .ref q13, .int 0])), (q12, .inl (cI, 6, .inl (fun _ => 0))), (q13, .inl (cI, 6, .inl (fun _ => 0))), (q14, .inr (4, [.ref q15, .ref q17, .ref q18])), (q15, .inr (0, [.ref q16, .int 0])), (q16, .inl (cJ, 128, .inr (.inl (fun _ => 0)))), (q17, .inl (cI, 128, .inl (fun _ => 0))), (q18, .inr (2, [.int 1, .int 0, .int 0])), (q19, .inr (0, [.ref q20, .int 0])), (q20, .inl (cJ, 128, .inr (.inl (fun _ => 0)))), (q21, .inr (1, [.int 0, .int 1]))] := hD
  refine lv_aload_n hx hb dX9_init_103 rfl (lv_at hl 0 rfl) ?_
  refine lv_lconst (v := 0) hx hb dX9_init_104 (by decide) ?_
  refine va_put (D := (dC, dI)) (ci := 8) (v := .long 0) (ty := .long) (C := RX9) (T := TX9) (N := 10) hx hb hts uwX9 tyX9 tyX9_ok nmX9 hown hK hP hD hS 0 rfl rfl 9 (by decide) (hts (.fieldLink RX9 68 "SquareFolds" "seedNow" "J") (gW_at 194 (by decide +kernel))) (fun _ h9 => h9) rfl (by decide +kernel) rfl rfl (Nat.le_of_ble_eq_true rfl) dX9_init_105 (fun H locs hP hD hS => ?_)
  have hP : va_P (dC, dI) vwCl [(h0, .inr (8, [.ref q1, .ref q3, .ref q4, .ref q5, .ref q8, .ref q11, .ref q14, .ref q19, .ref q21, .long 0])), (q1, .inr (3, [.ref q2, .int 0])), (q2, .inl (cI, 20, .inl (fun _ => 0))), (q3, .inr (2, [.int 1, .int 0, .int 0])), (q4, .inr (2, [.int 1, .int 0, .int 0])), (q5, .inr (5, [.ref q6, .ref q7, .int 0])), (q6, .inl (cI, 14, .inl (fun _ => 0))), (q7, .inl (cI, 14, .inl (fun _ => 0))), (q8, .inr (7, [.ref q9, .ref q10, .int 0])), (q9, .inl (cI, 2, .inl (fun _ => 0))), (q10, .inl (cI, 2, .inl (fun _ => 0))), (q11, .inr (6, [.ref q12, .ref q13, .int 0])), (q12, .inl (cI, 6, .inl (fun _ => 0))), (q13, .inl (cI, 6, .inl (fun _ => 0))), (q14, .inr (4, [.ref q15, .ref q17, .ref q18])), (q15, .inr (0, [.ref q16, .int 0])), (q16, .inl (cJ, 128, .inr (.inl (fun _ => 0)))), (q17, .inl (cI, 128, .inl (fun _ => 0))), (q18, .inr (2, [.int 1, .int 0, .int 0])), (q19, .inr (0, [.ref q20, .int 0])), (q20, .inl (cJ, 128, .inr (.inl (fun _ => 0)))), (q21, .inr (1, [.int 0, .int 1]))] H := hP
  have hD : va_D A [(h0, .inr (8, [.ref q1, .ref q3, .ref q4, .ref q5, .ref q8, .ref q11, .ref q14, .ref q19, .ref q21, .long 0])), (q1, .inr (3, [.ref q2, .int 0])), (q2, .inl (cI, 20, .inl (fun _ => 0))), (q3, .inr (2, [.int 1, .int 0, .int 0])), (q4, .inr (2, [.int 1, .int 0, .int 0])), (q5, .inr (5, [.ref q6, .ref q7, .int 0])), (q6, .inl (cI, 14, .inl (fun _ => 0))), (q7, .inl (cI, 14, .inl (fun _ => 0))), (q8, .inr (7, [.ref q9, .ref q10, .int 0])), (q9, .inl (cI, 2, .inl (fun _ => 0))), (q10, .inl (cI, 2, .inl (fun _ => 0))), (q11, .inr (6, [.ref q12, .ref q13, .int 0])), (q12, .inl (cI, 6, .inl (fun _ => 0))), (q13, .inl (cI, 6, .inl (fun _ => 0))), (q14, .inr (4, [.ref q15, .ref q17, .ref q18])), (q15, .inr (0, [.ref q16, .int 0])), (q16, .inl (cJ, 128, .inr (.inl (fun _ => 0)))), (q17, .inl (cI, 128, .inl (fun _ => 0))), (q18, .inr (2, [.int 1, .int 0, .int 0])), (q19, .inr (0, [.ref q20, .int 0])), (q20, .inl (cJ, 128, .inr (.inl (fun _ => 0)))), (q21, .inr (1, [.int 0, .int 1]))] := hD
  have hP9 := hP.sub (ws' := [(h0, .inr (8, [.ref q1, .ref q3, .ref q4, .ref q5, .ref q8, .ref q11, .ref q14, .ref q19, .ref q21, .long 0])), (q1, .inr (3, [.ref q2, .int 0])), (q2, .inl (cI, 20, .inl (fun _ => 0))), (q3, .inr (2, [.int 1, .int 0, .int 0])), (q4, .inr (2, [.int 1, .int 0, .int 0])), (q5, .inr (5, [.ref q6, .ref q7, .int 0])), (q6, .inl (cI, 14, .inl (fun _ => 0))), (q7, .inl (cI, 14, .inl (fun _ => 0))), (q8, .inr (7, [.ref q9, .ref q10, .int 0])), (q9, .inl (cI, 2, .inl (fun _ => 0))), (q10, .inl (cI, 2, .inl (fun _ => 0))), (q11, .inr (6, [.ref q12, .ref q13, .int 0])), (q12, .inl (cI, 6, .inl (fun _ => 0))), (q13, .inl (cI, 6, .inl (fun _ => 0))), (q14, .inr (4, [.ref q15, .ref q17, .ref q18])), (q15, .inr (0, [.ref q16, .int 0])), (q16, .inl (cJ, 128, .inr (.inl (fun _ => 0)))), (q17, .inl (cI, 128, .inl (fun _ => 0))), (q18, .inr (2, [.int 1, .int 0, .int 0])), (q19, .inr (0, [.ref q20, .int 0])), (q20, .inl (cJ, 128, .inr (.inl (fun _ => 0)))), (q21, .inr (1, [.int 0, .int 1]))]) [0, 1, 2, 3, 4, 5, 6, 7, 8, 9, 10, 11, 12, 13, 14, 15, 16, 17, 18, 19, 20, 21] rfl
  have hD9 := hD.sub (ws' := [(h0, .inr (8, [.ref q1, .ref q3, .ref q4, .ref q5, .ref q8, .ref q11, .ref q14, .ref q19, .ref q21, .long 0])), (q1, .inr (3, [.ref q2, .int 0])), (q2, .inl (cI, 20, .inl (fun _ => 0))), (q3, .inr (2, [.int 1, .int 0, .int 0])), (q4, .inr (2, [.int 1, .int 0, .int 0])), (q5, .inr (5, [.ref q6, .ref q7, .int 0])), (q6, .inl (cI, 14, .inl (fun _ => 0))), (q7, .inl (cI, 14, .inl (fun _ => 0))), (q8, .inr (7, [.ref q9, .ref q10, .int 0])), (q9, .inl (cI, 2, .inl (fun _ => 0))), (q10, .inl (cI, 2, .inl (fun _ => 0))), (q11, .inr (6, [.ref q12, .ref q13, .int 0])), (q12, .inl (cI, 6, .inl (fun _ => 0))), (q13, .inl (cI, 6, .inl (fun _ => 0))), (q14, .inr (4, [.ref q15, .ref q17, .ref q18])), (q15, .inr (0, [.ref q16, .int 0])), (q16, .inl (cJ, 128, .inr (.inl (fun _ => 0)))), (q17, .inl (cI, 128, .inl (fun _ => 0))), (q18, .inr (2, [.int 1, .int 0, .int 0])), (q19, .inr (0, [.ref q20, .int 0])), (q20, .inl (cJ, 128, .inr (.inl (fun _ => 0)))), (q21, .inr (1, [.int 0, .int 1]))]) [0, 1, 2, 3, 4, 5, 6, 7, 8, 9, 10, 11, 12, 13, 14, 15, 16, 17, 18, 19, 20, 21] (by decide) rfl
  exact W.vret hx hb hr (fun t ht hW => ⟨⟨(), rfl, trivial, q1, q2, q3, q4, q5, q6, q7, q8, q9, q10, q11, q12, q13, q14, q15, q16, q17, q18, q19, q20, q21, by rw [ht]; exact hP9, va_K.moved hW.alike hK, hD9⟩, hS.F ht⟩) hS.2.2 dX9_init_108
abbrev mX10_init : Mt := (yX10_init, cX10_init, 1, none, 1, 12)
theorem dX10_init_0 : decode cX10_init 0 = .ok (.aload_n 0, 1) := by decide +kernel
theorem dX10_init_1 : decode cX10_init 1 = .ok (.invokespecial 1, 3) := by decide +kernel
theorem dX10_init_4 : decode cX10_init 4 = .ok (.aload_n 0, 1) := by decide +kernel
theorem dX10_init_5 : decode cX10_init 5 = .ok (.bipush 20, 2) := by decide +kernel
theorem dX10_init_7 : decode cX10_init 7 = .ok (.newarray .int, 2) := by decide +kernel
theorem dX10_init_9 : decode cX10_init 9 = .ok (.putfield 7, 3) := by decide +kernel
theorem dX10_init_12 : decode cX10_init 12 = .ok (.aload_n 0, 1) := by decide +kernel
theorem dX10_init_13 : decode cX10_init 13 = .ok (.bipush 11, 2) := by decide +kernel
theorem dX10_init_15 : decode cX10_init 15 = .ok (.newarray .int, 2) := by decide +kernel
theorem dX10_init_17 : decode cX10_init 17 = .ok (.putfield 13, 3) := by decide +kernel
theorem dX10_init_20 : decode cX10_init 20 = .ok (.aload_n 0, 1) := by decide +kernel
theorem dX10_init_21 : decode cX10_init 21 = .ok (.bipush 11, 2) := by decide +kernel
theorem dX10_init_23 : decode cX10_init 23 = .ok (.newarray .int, 2) := by decide +kernel
theorem dX10_init_25 : decode cX10_init 25 = .ok (.putfield 16, 3) := by decide +kernel
theorem dX10_init_28 : decode cX10_init 28 = .ok (.aload_n 0, 1) := by decide +kernel
theorem dX10_init_29 : decode cX10_init 29 = .ok (.bipush 11, 2) := by decide +kernel
theorem dX10_init_31 : decode cX10_init 31 = .ok (.newarray .int, 2) := by decide +kernel
theorem dX10_init_33 : decode cX10_init 33 = .ok (.putfield 19, 3) := by decide +kernel
theorem dX10_init_36 : decode cX10_init 36 = .ok (.aload_n 0, 1) := by decide +kernel
theorem dX10_init_37 : decode cX10_init 37 = .ok (.bipush 10, 2) := by decide +kernel
theorem dX10_init_39 : decode cX10_init 39 = .ok (.newarray .int, 2) := by decide +kernel
theorem dX10_init_41 : decode cX10_init 41 = .ok (.putfield 22, 3) := by decide +kernel
theorem dX10_init_44 : decode cX10_init 44 = .ok (.aload_n 0, 1) := by decide +kernel
theorem dX10_init_45 : decode cX10_init 45 = .ok (.sipush 154, 3) := by decide +kernel
theorem dX10_init_48 : decode cX10_init 48 = .ok (.newarray .int, 2) := by decide +kernel
theorem dX10_init_50 : decode cX10_init 50 = .ok (.putfield 25, 3) := by decide +kernel
theorem dX10_init_53 : decode cX10_init 53 = .ok (.aload_n 0, 1) := by decide +kernel
theorem dX10_init_54 : decode cX10_init 54 = .ok (.bipush 22, 2) := by decide +kernel
theorem dX10_init_56 : decode cX10_init 56 = .ok (.newarray .int, 2) := by decide +kernel
theorem dX10_init_58 : decode cX10_init 58 = .ok (.putfield 28, 3) := by decide +kernel
theorem dX10_init_61 : decode cX10_init 61 = .ok (.aload_n 0, 1) := by decide +kernel
theorem dX10_init_62 : decode cX10_init 62 = .ok (.iconst 2, 1) := by decide +kernel
theorem dX10_init_63 : decode cX10_init 63 = .ok (.newarray .boolean, 2) := by decide +kernel
theorem dX10_init_65 : decode cX10_init 65 = .ok (.putfield 31, 3) := by decide +kernel
theorem dX10_init_68 : decode cX10_init 68 = .ok (.aload_n 0, 1) := by decide +kernel
theorem dX10_init_69 : decode cX10_init 69 = .ok (.bipush 6, 2) := by decide +kernel
theorem dX10_init_71 : decode cX10_init 71 = .ok (.newarray .int, 2) := by decide +kernel
theorem dX10_init_73 : decode cX10_init 73 = .ok (.putfield 35, 3) := by decide +kernel
theorem dX10_init_76 : decode cX10_init 76 = .ok (.aload_n 0, 1) := by decide +kernel
theorem dX10_init_77 : decode cX10_init 77 = .ok (.bipush 6, 2) := by decide +kernel
theorem dX10_init_79 : decode cX10_init 79 = .ok (.newarray .int, 2) := by decide +kernel
theorem dX10_init_81 : decode cX10_init 81 = .ok (.putfield 38, 3) := by decide +kernel
theorem dX10_init_84 : decode cX10_init 84 = .ok (.aload_n 0, 1) := by decide +kernel
theorem dX10_init_85 : decode cX10_init 85 = .ok (.iconst 5, 1) := by decide +kernel
theorem dX10_init_86 : decode cX10_init 86 = .ok (.newarray .int, 2) := by decide +kernel
theorem dX10_init_88 : decode cX10_init 88 = .ok (.putfield 41, 3) := by decide +kernel
theorem dX10_init_91 : decode cX10_init 91 = .ok (.aload_n 0, 1) := by decide +kernel
theorem dX10_init_92 : decode cX10_init 92 = .ok (.iconst 5, 1) := by decide +kernel
theorem dX10_init_93 : decode cX10_init 93 = .ok (.newarray .int, 2) := by decide +kernel
theorem dX10_init_95 : decode cX10_init 95 = .ok (.putfield 44, 3) := by decide +kernel
theorem dX10_init_98 : decode cX10_init 98 = .ok (.aload_n 0, 1) := by decide +kernel
theorem dX10_init_99 : decode cX10_init 99 = .ok (.sipush 128, 3) := by decide +kernel
theorem dX10_init_102 : decode cX10_init 102 = .ok (.newarray .long, 2) := by decide +kernel
theorem dX10_init_104 : decode cX10_init 104 = .ok (.putfield 47, 3) := by decide +kernel
theorem dX10_init_107 : decode cX10_init 107 = .ok (.aload_n 0, 1) := by decide +kernel
theorem dX10_init_108 : decode cX10_init 108 = .ok (.sipush 128, 3) := by decide +kernel
theorem dX10_init_111 : decode cX10_init 111 = .ok (.newarray .int, 2) := by decide +kernel
theorem dX10_init_113 : decode cX10_init 113 = .ok (.putfield 51, 3) := by decide +kernel
theorem dX10_init_116 : decode cX10_init 116 = .ok (.aload_n 0, 1) := by decide +kernel
theorem dX10_init_117 : decode cX10_init 117 = .ok (.bipush 120, 2) := by decide +kernel
theorem dX10_init_119 : decode cX10_init 119 = .ok (.newarray .int, 2) := by decide +kernel
theorem dX10_init_121 : decode cX10_init 121 = .ok (.putfield 54, 3) := by decide +kernel
theorem dX10_init_124 : decode cX10_init 124 = .ok (.aload_n 0, 1) := by decide +kernel
theorem dX10_init_125 : decode cX10_init 125 = .ok (.bipush 32, 2) := by decide +kernel
theorem dX10_init_127 : decode cX10_init 127 = .ok (.newarray .int, 2) := by decide +kernel
theorem dX10_init_129 : decode cX10_init 129 = .ok (.putfield 57, 3) := by decide +kernel
theorem dX10_init_132 : decode cX10_init 132 = .ok (.aload_n 0, 1) := by decide +kernel
theorem dX10_init_133 : decode cX10_init 133 = .ok (.getfield 13, 3) := by decide +kernel
theorem dX10_init_136 : decode cX10_init 136 = .ok (.iconst 0, 1) := by decide +kernel
theorem dX10_init_137 : decode cX10_init 137 = .ok (.iconst 1, 1) := by decide +kernel
theorem dX10_init_138 : decode cX10_init 138 = .ok (.iastore, 1) := by decide +kernel
theorem dX10_init_139 : decode cX10_init 139 = .ok (.return_, 1) := by decide +kernel
set_option maxHeartbeats 4000000 in
set_option maxRecDepth 100000 in
theorem ctX10_init (l : Launch) (dC : Nat → ClassId) (dI : Nat → Nat → Nat) (cI cJ cZ : ClassId) (h0 sz : Nat) : Met l yX10_init (wsM mX10_init) ({ frames := 1, cells := 16, slots := 671, locals := 12 }) (PcC dC dI cI cJ cZ h0 sz (.inr (9, [.null, .int 0, .null, .null, .null, .null, .null, .int 0, .int 0, .null, .null, .null, .null, .int 0, .long 0, .null, .null, .null, .null, .int 0, .null, .null, .int 0]))) (va_Qv (fun _ : Unit => True) (fun _ t => ∃ q1 q2 q3 q4 q5 q6 q7 q8 q9 q10 q11 q12 q13 q14 q15 q16 : Nat, va_P (dC, dI) vwCl [(h0, .inr (9, [.ref q1, .int 0, .ref q2, .ref q3, .ref q4, .ref q5, .ref q6, .int 0, .int 0, .ref q7, .ref q8, .ref q9, .ref q10, .int 0, .long 0, .ref q11, .ref q12, .ref q13, .ref q14, .int 0, .ref q15, .ref q16, .int 0])), (q1, .inl (cI, 20, .inl (fun _ => 0))), (q2, .inl (cI, 11, .inl (upd (fun _ => 0) (Int32.toNatClampNeg 0) 1))), (q3, .inl (cI, 11, .inl (fun _ => 0))), (q4, .inl (cI, 11, .inl (fun _ => 0))), (q5, .inl (cI, 10, .inl (fun _ => 0))), (q6, .inl (cI, 154, .inl (fun _ => 0))), (q7, .inl (cI, 22, .inl (fun _ => 0))), (q8, .inl (cZ, 2, .inl (fun _ => 0))), (q9, .inl (cI, 6, .inl (fun _ => 0))), (q10, .inl (cI, 6, .inl (fun _ => 0))), (q11, .inl (cI, 5, .inl (fun _ => 0))), (q12, .inl (cI, 5, .inl (fun _ => 0))), (q13, .inl (cJ, 128, .inr (.inl (fun _ => 0)))), (q14, .inl (cI, 128, .inl (fun _ => 0))), (q15, .inl (cI, 120, .inl (fun _ => 0))), (q16, .inl (cI, 32, .inl (fun _ => 0)))] t.heap ∧ va_K (dC, dI) vwCl [(cI, .int), (cJ, .long), (cZ, .boolean)] t ∧ va_D (va_A [(h0, .inr (9, [.null, .int 0, .null, .null, .null, .null, .null, .int 0, .int 0, .null, .null, .null, .null, .int 0, .long 0, .null, .null, .null, .null, .int 0, .null, .null, .int 0]))] sz) [(h0, .inr (9, [.ref q1, .int 0, .ref q2, .ref q3, .ref q4, .ref q5, .ref q6, .int 0, .int 0, .ref q7, .ref q8, .ref q9, .ref q10, .int 0, .long 0, .ref q11, .ref q12, .ref q13, .ref q14, .int 0, .ref q15, .ref q16, .int 0])), (q1, .inl (cI, 20, .inl (fun _ => 0))), (q2, .inl (cI, 11, .inl (upd (fun _ => 0) (Int32.toNatClampNeg 0) 1))), (q3, .inl (cI, 11, .inl (fun _ => 0))), (q4, .inl (cI, 11, .inl (fun _ => 0))), (q5, .inl (cI, 10, .inl (fun _ => 0))), (q6, .inl (cI, 154, .inl (fun _ => 0))), (q7, .inl (cI, 22, .inl (fun _ => 0))), (q8, .inl (cZ, 2, .inl (fun _ => 0))), (q9, .inl (cI, 6, .inl (fun _ => 0))), (q10, .inl (cI, 6, .inl (fun _ => 0))), (q11, .inl (cI, 5, .inl (fun _ => 0))), (q12, .inl (cI, 5, .inl (fun _ => 0))), (q13, .inl (cJ, 128, .inr (.inl (fun _ => 0)))), (q14, .inl (cI, 128, .inl (fun _ => 0))), (q15, .inl (cI, 120, .inl (fun _ => 0))), (q16, .inl (cI, 32, .inl (fun _ => 0)))]) (va_A [(h0, .inr (9, [.null, .int 0, .null, .null, .null, .null, .null, .int 0, .int 0, .null, .null, .null, .null, .int 0, .long 0, .null, .null, .null, .null, .int 0, .null, .null, .int 0]))] sz)) 16 671 (va_A [(h0, .inr (9, [.null, .int 0, .null, .null, .null, .null, .null, .int 0, .int 0, .null, .null, .null, .null, .int 0, .long 0, .null, .null, .null, .null, .int 0, .null, .null, .int 0]))] sz) := by
  refine Met.ofW (cc := cX10_init) (maxL := 1) (ret := none) (by decide) rfl ?_
  intro p e s m args below meth c s₁ B hml hv
  obtain ⟨rfl, hsz, hP, hK, hD0, hN⟩ := hv
  have hx := B.exec
  have hb := B.bytes
  have hr := B.returns
  have hts0 := atoms_spec (ws := wsM mX10_init) B.pre
  have hts : ∀ w ∈ gW, w.before ([Value.ref h0] : List Value).toArray s = true := fun w hw => hts0 w (List.mem_cons_of_mem _ hw)
  have hown : s.vm.findClass RX10 = some m.cls := findClass_of_methodNamed B.named
  have hlocks := B.notSynchronized
  have hin : meth.name = "<init>" := (name_of_methodNamed B.named B.method).1
  subst hsz
  have hD := hD0.self (sz := s.heap.size)
  generalize hAe : va_A [(h0, .inr (9, [.null, .int 0, .null, .null, .null, .null, .null, .int 0, .int 0, .null, .null, .null, .null, .int 0, .long 0, .null, .null, .null, .null, .int 0, .null, .null, .int 0]))] s.heap.size = A at hD ⊢
  have hA : ∀ q : Nat, s.heap.size ≤ q → A q := fun q h => by rw [← hAe]; exact Or.inr h
  have hS : va_S A s.heap s.heap [] := va_S.rf
  have hP : va_P (dC, dI) vwCl [(h0, .inr (9, [.null, .int 0, .null, .null, .null, .null, .null, .int 0, .int 0, .null, .null, .null, .null, .int 0, .long 0, .null, .null, .null, .null, .int 0, .null, .null, .int 0]))] s.heap := hP
  have hl := lv_entry ([.ref h0]) (n := 1) (Nat.le_of_ble_eq_true rfl)
  rw [lg_entry_eq]
  generalize (lg_sl ([.ref h0]) ++ List.replicate (1 - (lg_sl ([.ref h0])).length) Slot.unset).toArray = ls at hl ⊢
  have hl : lv_has ls 1 [(0, .ref h0)] := hl
  refine lv_aload_n hx hb dX10_init_0 rfl (lv_at hl 0 rfl) ?_
  refine W.objInit hx hb hown (hts (.methodLink RX10 1 objectInit) (gW_at 665 (by decide +kernel))) (hts (.instanceMethod objectInit) (gW_at 49 (by decide +kernel))) (hts (.code objectInit ⟨#[0xb1]⟩ 1 none) (gW_at 50 (by decide +kernel))) rfl (by rw [hml]; exact hl.1) rfl dX10_init_1 (Nat.le_of_ble_eq_true rfl) (Nat.le_of_ble_eq_true rfl) ?_
  refine W.eq (g2 := F0 m 4 ls []) rfl ?_
  refine lv_aload_n hx hb dX10_init_4 rfl (lv_at hl 0 rfl) ?_
  refine lv_bipush (v := 20) hx hb dX10_init_5 (by decide) ?_
  refine va_newa (atype := .int) (ty := .int) (N' := 20) (a0 := (20, .inl (fun _ => 0))) hx hb (hts (.arrayClass .int) (gW_at 65 (by decide +kernel))) rfl hK hP hD hS hA (fun cA => rfl) (by decide) (by decide) (by decide) (Nat.le_of_ble_eq_true rfl) (Nat.le_of_ble_eq_true rfl) dX10_init_7 (fun q1 cA H hK hP hD hS => ?_)
  have hcA : cA = cI := Option.some.inj ((hK.2 3 _ rfl).2.symm.trans (hK.2 0 _ rfl).2)
  rw [hcA] at hK hP hD
  have hK := hK.sub (tys' := [(cI, .int), (cJ, .long), (cZ, .boolean)]) [0, 1, 2] rfl
  have hP : va_P (dC, dI) vwCl [(h0, .inr (9, [.null, .int 0, .null, .null, .null, .null, .null, .int 0, .int 0, .null, .null, .null, .null, .int 0, .long 0, .null, .null, .null, .null, .int 0, .null, .null, .int 0])), (q1, .inl (cI, 20, .inl (fun _ => 0)))] H := hP
  have hD : va_D A [(h0, .inr (9, [.null, .int 0, .null, .null, .null, .null, .null, .int 0, .int 0, .null, .null, .null, .null, .int 0, .long 0, .null, .null, .null, .null, .int 0, .null, .null, .int 0])), (q1, .inl (cI, 20, .inl (fun _ => 0)))] := hD
  refine W.widen (k := 1) (n := 20) (Nat.le_of_ble_eq_true rfl) (Nat.le_of_ble_eq_true rfl) ?_
  refine va_putF (D := (dC, dI)) (ci := 9) (v := .ref q1) (ty := .array .int) (C := RX10) (T := TX10) (N := 23) hx hb hts uwX10 tyX10 tyX10_ok nmX10 hown hK hP hD hS 0 rfl rfl 0 (by decide) (hts (.fieldLink RX10 7 "SquareFoldsModel" "text" "[I") (gW_at 666 (by decide +kernel))) (fun _ h9 => h9) rfl hin rfl (by decide +kernel) rfl rfl (Nat.le_of_ble_eq_true rfl) dX10_init_9 (fun H locs hP hD hS => ?_)
  have hP : va_P (dC, dI) vwCl [(h0, .inr (9, [.ref q1, .int 0, .null, .null, .null, .null, .null, .int 0, .int 0, .null, .null, .null, .null, .int 0, .long 0, .null, .null, .null, .null, .int 0, .null, .null, .int 0])), (q1, .inl (cI, 20, .inl (fun _ => 0)))] H := hP
  have hD : va_D A [(h0, .inr (9, [.ref q1, .int 0, .null, .null, .null, .null, .null, .int 0, .int 0, .null, .null, .null, .null, .int 0, .long 0, .null, .null, .null, .null, .int 0, .null, .null, .int 0])), (q1, .inl (cI, 20, .inl (fun _ => 0)))] := hD
  refine lv_aload_n hx hb dX10_init_12 rfl (lv_at hl 0 rfl) ?_
  refine lv_bipush (v := 11) hx hb dX10_init_13 (by decide) ?_
  refine va_newa (atype := .int) (ty := .int) (N' := 11) (a0 := (11, .inl (fun _ => 0))) hx hb (hts (.arrayClass .int) (gW_at 65 (by decide +kernel))) rfl hK hP hD hS hA (fun cA => rfl) (by decide) (by decide) (by decide) (Nat.le_of_ble_eq_true rfl) (Nat.le_of_ble_eq_true rfl) dX10_init_15 (fun q2 cA H hK hP hD hS => ?_)
  have hcA : cA = cI := Option.some.inj ((hK.2 3 _ rfl).2.symm.trans (hK.2 0 _ rfl).2)
  rw [hcA] at hK hP hD
  have hK := hK.sub (tys' := [(cI, .int), (cJ, .long), (cZ, .boolean)]) [0, 1, 2] rfl
  have hP : va_P (dC, dI) vwCl [(h0, .inr (9, [.ref q1, .int 0, .null, .null, .null, .null, .null, .int 0, .int 0, .null, .null, .null, .null, .int 0, .long 0, .null, .null, .null, .null, .int 0, .null, .null, .int 0])), (q1, .inl (cI, 20, .inl (fun _ => 0))), (q2, .inl (cI, 11, .inl (fun _ => 0)))] H := hP
  have hD : va_D A [(h0, .inr (9, [.ref q1, .int 0, .null, .null, .null, .null, .null, .int 0, .int 0, .null, .null, .null, .null, .int 0, .long 0, .null, .null, .null, .null, .int 0, .null, .null, .int 0])), (q1, .inl (cI, 20, .inl (fun _ => 0))), (q2, .inl (cI, 11, .inl (fun _ => 0)))] := hD
  refine W.widen (k := 2) (n := 31) (Nat.le_of_ble_eq_true rfl) (Nat.le_of_ble_eq_true rfl) ?_
  refine va_putF (D := (dC, dI)) (ci := 9) (v := .ref q2) (ty := .array .int) (C := RX10) (T := TX10) (N := 23) hx hb hts uwX10 tyX10 tyX10_ok nmX10 hown hK hP hD hS 0 rfl rfl 2 (by decide) (hts (.fieldLink RX10 13 "SquareFoldsModel" "now" "[I") (gW_at 668 (by decide +kernel))) (fun _ h9 => h9) rfl hin rfl (by decide +kernel) rfl rfl (Nat.le_of_ble_eq_true rfl) dX10_init_17 (fun H locs hP hD hS => ?_)
  have hP : va_P (dC, dI) vwCl [(h0, .inr (9, [.ref q1, .int 0, .ref q2, .null, .null, .null, .null, .int 0, .int 0, .null, .null, .null, .null, .int 0, .long 0, .null, .null, .null, .null, .int 0, .null, .null, .int 0])), (q1, .inl (cI, 20, .inl (fun _ => 0))), (q2, .inl (cI, 11, .inl (fun _ => 0)))] H := hP
  have hD : va_D A [(h0, .inr (9, [.ref q1, .int 0, .ref q2, .null, .null, .null, .null, .int 0, .int 0, .null, .null, .null, .null, .int 0, .long 0, .null, .null, .null, .null, .int 0, .null, .null, .int 0])), (q1, .inl (cI, 20, .inl (fun _ => 0))), (q2, .inl (cI, 11, .inl (fun _ => 0)))] := hD
  refine lv_aload_n hx hb dX10_init_20 rfl (lv_at hl 0 rfl) ?_
  refine lv_bipush (v := 11) hx hb dX10_init_21 (by decide) ?_
  refine va_newa (atype := .int) (ty := .int) (N' := 11) (a0 := (11, .inl (fun _ => 0))) hx hb (hts (.arrayClass .int) (gW_at 65 (by decide +kernel))) rfl hK hP hD hS hA (fun cA => rfl) (by decide) (by decide) (by decide) (Nat.le_of_ble_eq_true rfl) (Nat.le_of_ble_eq_true rfl) dX10_init_23 (fun q3 cA H hK hP hD hS => ?_)
  have hcA : cA = cI := Option.some.inj ((hK.2 3 _ rfl).2.symm.trans (hK.2 0 _ rfl).2)
  rw [hcA] at hK hP hD
  have hK := hK.sub (tys' := [(cI, .int), (cJ, .long), (cZ, .boolean)]) [0, 1, 2] rfl
  have hP : va_P (dC, dI) vwCl [(h0, .inr (9, [.ref q1, .int 0, .ref q2, .null, .null, .null, .null, .int 0, .int 0, .null, .null, .null, .null, .int 0, .long 0, .null, .null, .null, .null, .int 0, .null, .null, .int 0])), (q1, .inl (cI, 20, .inl (fun _ => 0))), (q2, .inl (cI, 11, .inl (fun _ => 0))), (q3, .inl (cI, 11, .inl (fun _ => 0)))] H := hP
  have hD : va_D A [(h0, .inr (9, [.ref q1, .int 0, .ref q2, .null, .null, .null, .null, .int 0, .int 0, .null, .null, .null, .null, .int 0, .long 0, .null, .null, .null, .null, .int 0, .null, .null, .int 0])), (q1, .inl (cI, 20, .inl (fun _ => 0))), (q2, .inl (cI, 11, .inl (fun _ => 0))), (q3, .inl (cI, 11, .inl (fun _ => 0)))] := hD
  refine W.widen (k := 3) (n := 42) (Nat.le_of_ble_eq_true rfl) (Nat.le_of_ble_eq_true rfl) ?_
  refine va_putF (D := (dC, dI)) (ci := 9) (v := .ref q3) (ty := .array .int) (C := RX10) (T := TX10) (N := 23) hx hb hts uwX10 tyX10 tyX10_ok nmX10 hown hK hP hD hS 0 rfl rfl 3 (by decide) (hts (.fieldLink RX10 16 "SquareFoldsModel" "trial" "[I") (gW_at 669 (by decide +kernel))) (fun _ h9 => h9) rfl hin rfl (by decide +kernel) rfl rfl (Nat.le_of_ble_eq_true rfl) dX10_init_25 (fun H locs hP hD hS => ?_)
  have hP : va_P (dC, dI) vwCl [(h0, .inr (9, [.ref q1, .int 0, .ref q2, .ref q3, .null, .null, .null, .int 0, .int 0, .null, .null, .null, .null, .int 0, .long 0, .null, .null, .null, .null, .int 0, .null, .null, .int 0])), (q1, .inl (cI, 20, .inl (fun _ => 0))), (q2, .inl (cI, 11, .inl (fun _ => 0))), (q3, .inl (cI, 11, .inl (fun _ => 0)))] H := hP
  have hD : va_D A [(h0, .inr (9, [.ref q1, .int 0, .ref q2, .ref q3, .null, .null, .null, .int 0, .int 0, .null, .null, .null, .null, .int 0, .long 0, .null, .null, .null, .null, .int 0, .null, .null, .int 0])), (q1, .inl (cI, 20, .inl (fun _ => 0))), (q2, .inl (cI, 11, .inl (fun _ => 0))), (q3, .inl (cI, 11, .inl (fun _ => 0)))] := hD
  refine lv_aload_n hx hb dX10_init_28 rfl (lv_at hl 0 rfl) ?_
  refine lv_bipush (v := 11) hx hb dX10_init_29 (by decide) ?_
  refine va_newa (atype := .int) (ty := .int) (N' := 11) (a0 := (11, .inl (fun _ => 0))) hx hb (hts (.arrayClass .int) (gW_at 65 (by decide +kernel))) rfl hK hP hD hS hA (fun cA => rfl) (by decide) (by decide) (by decide) (Nat.le_of_ble_eq_true rfl) (Nat.le_of_ble_eq_true rfl) dX10_init_31 (fun q4 cA H hK hP hD hS => ?_)
  have hcA : cA = cI := Option.some.inj ((hK.2 3 _ rfl).2.symm.trans (hK.2 0 _ rfl).2)
  rw [hcA] at hK hP hD
  have hK := hK.sub (tys' := [(cI, .int), (cJ, .long), (cZ, .boolean)]) [0, 1, 2] rfl
  have hP : va_P (dC, dI) vwCl [(h0, .inr (9, [.ref q1, .int 0, .ref q2, .ref q3, .null, .null, .null, .int 0, .int 0, .null, .null, .null, .null, .int 0, .long 0, .null, .null, .null, .null, .int 0, .null, .null, .int 0])), (q1, .inl (cI, 20, .inl (fun _ => 0))), (q2, .inl (cI, 11, .inl (fun _ => 0))), (q3, .inl (cI, 11, .inl (fun _ => 0))), (q4, .inl (cI, 11, .inl (fun _ => 0)))] H := hP
  have hD : va_D A [(h0, .inr (9, [.ref q1, .int 0, .ref q2, .ref q3, .null, .null, .null, .int 0, .int 0, .null, .null, .null, .null, .int 0, .long 0, .null, .null, .null, .null, .int 0, .null, .null, .int 0])), (q1, .inl (cI, 20, .inl (fun _ => 0))), (q2, .inl (cI, 11, .inl (fun _ => 0))), (q3, .inl (cI, 11, .inl (fun _ => 0))), (q4, .inl (cI, 11, .inl (fun _ => 0)))] := hD
  refine W.widen (k := 4) (n := 53) (Nat.le_of_ble_eq_true rfl) (Nat.le_of_ble_eq_true rfl) ?_
  refine va_putF (D := (dC, dI)) (ci := 9) (v := .ref q4) (ty := .array .int) (C := RX10) (T := TX10) (N := 23) hx hb hts uwX10 tyX10 tyX10_ok nmX10 hown hK hP hD hS 0 rfl rfl 4 (by decide) (hts (.fieldLink RX10 19 "SquareFoldsModel" "work" "[I") (gW_at 670 (by decide +kernel))) (fun _ h9 => h9) rfl hin rfl (by decide +kernel) rfl rfl (Nat.le_of_ble_eq_true rfl) dX10_init_33 (fun H locs hP hD hS => ?_)
  have hP : va_P (dC, dI) vwCl [(h0, .inr (9, [.ref q1, .int 0, .ref q2, .ref q3, .ref q4, .null, .null, .int 0, .int 0, .null, .null, .null, .null, .int 0, .long 0, .null, .null, .null, .null, .int 0, .null, .null, .int 0])), (q1, .inl (cI, 20, .inl (fun _ => 0))), (q2, .inl (cI, 11, .inl (fun _ => 0))), (q3, .inl (cI, 11, .inl (fun _ => 0))), (q4, .inl (cI, 11, .inl (fun _ => 0)))] H := hP
  have hD : va_D A [(h0, .inr (9, [.ref q1, .int 0, .ref q2, .ref q3, .ref q4, .null, .null, .int 0, .int 0, .null, .null, .null, .null, .int 0, .long 0, .null, .null, .null, .null, .int 0, .null, .null, .int 0])), (q1, .inl (cI, 20, .inl (fun _ => 0))), (q2, .inl (cI, 11, .inl (fun _ => 0))), (q3, .inl (cI, 11, .inl (fun _ => 0))), (q4, .inl (cI, 11, .inl (fun _ => 0)))] := hD
  refine lv_aload_n hx hb dX10_init_36 rfl (lv_at hl 0 rfl) ?_
  refine lv_bipush (v := 10) hx hb dX10_init_37 (by decide) ?_
  refine va_newa (atype := .int) (ty := .int) (N' := 10) (a0 := (10, .inl (fun _ => 0))) hx hb (hts (.arrayClass .int) (gW_at 65 (by decide +kernel))) rfl hK hP hD hS hA (fun cA => rfl) (by decide) (by decide) (by decide) (Nat.le_of_ble_eq_true rfl) (Nat.le_of_ble_eq_true rfl) dX10_init_39 (fun q5 cA H hK hP hD hS => ?_)
  have hcA : cA = cI := Option.some.inj ((hK.2 3 _ rfl).2.symm.trans (hK.2 0 _ rfl).2)
  rw [hcA] at hK hP hD
  have hK := hK.sub (tys' := [(cI, .int), (cJ, .long), (cZ, .boolean)]) [0, 1, 2] rfl
  have hP : va_P (dC, dI) vwCl [(h0, .inr (9, [.ref q1, .int 0, .ref q2, .ref q3, .ref q4, .null, .null, .int 0, .int 0, .null, .null, .null, .null, .int 0, .long 0, .null, .null, .null, .null, .int 0, .null, .null, .int 0])), (q1, .inl (cI, 20, .inl (fun _ => 0))), (q2, .inl (cI, 11, .inl (fun _ => 0))), (q3, .inl (cI, 11, .inl (fun _ => 0))), (q4, .inl (cI, 11, .inl (fun _ => 0))), (q5, .inl (cI, 10, .inl (fun _ => 0)))] H := hP
  have hD : va_D A [(h0, .inr (9, [.ref q1, .int 0, .ref q2, .ref q3, .ref q4, .null, .null, .int 0, .int 0, .null, .null, .null, .null, .int 0, .long 0, .null, .null, .null, .null, .int 0, .null, .null, .int 0])), (q1, .inl (cI, 20, .inl (fun _ => 0))), (q2, .inl (cI, 11, .inl (fun _ => 0))), (q3, .inl (cI, 11, .inl (fun _ => 0))), (q4, .inl (cI, 11, .inl (fun _ => 0))), (q5, .inl (cI, 10, .inl (fun _ => 0)))] := hD
  refine W.widen (k := 5) (n := 63) (Nat.le_of_ble_eq_true rfl) (Nat.le_of_ble_eq_true rfl) ?_
  refine va_putF (D := (dC, dI)) (ci := 9) (v := .ref q5) (ty := .array .int) (C := RX10) (T := TX10) (N := 23) hx hb hts uwX10 tyX10 tyX10_ok nmX10 hown hK hP hD hS 0 rfl rfl 5 (by decide) (hts (.fieldLink RX10 22 "SquareFoldsModel" "aside" "[I") (gW_at 671 (by decide +kernel))) (fun _ h9 => h9) rfl hin rfl (by decide +kernel) rfl rfl (Nat.le_of_ble_eq_true rfl) dX10_init_41 (fun H locs hP hD hS => ?_)
  have hP : va_P (dC, dI) vwCl [(h0, .inr (9, [.ref q1, .int 0, .ref q2, .ref q3, .ref q4, .ref q5, .null, .int 0, .int 0, .null, .null, .null, .null, .int 0, .long 0, .null, .null, .null, .null, .int 0, .null, .null, .int 0])), (q1, .inl (cI, 20, .inl (fun _ => 0))), (q2, .inl (cI, 11, .inl (fun _ => 0))), (q3, .inl (cI, 11, .inl (fun _ => 0))), (q4, .inl (cI, 11, .inl (fun _ => 0))), (q5, .inl (cI, 10, .inl (fun _ => 0)))] H := hP
  have hD : va_D A [(h0, .inr (9, [.ref q1, .int 0, .ref q2, .ref q3, .ref q4, .ref q5, .null, .int 0, .int 0, .null, .null, .null, .null, .int 0, .long 0, .null, .null, .null, .null, .int 0, .null, .null, .int 0])), (q1, .inl (cI, 20, .inl (fun _ => 0))), (q2, .inl (cI, 11, .inl (fun _ => 0))), (q3, .inl (cI, 11, .inl (fun _ => 0))), (q4, .inl (cI, 11, .inl (fun _ => 0))), (q5, .inl (cI, 10, .inl (fun _ => 0)))] := hD
  refine lv_aload_n hx hb dX10_init_44 rfl (lv_at hl 0 rfl) ?_
  refine lv_sipush (v := 154) hx hb dX10_init_45 (by decide) ?_
  refine va_newa (atype := .int) (ty := .int) (N' := 154) (a0 := (154, .inl (fun _ => 0))) hx hb (hts (.arrayClass .int) (gW_at 65 (by decide +kernel))) rfl hK hP hD hS hA (fun cA => rfl) (by decide) (by decide) (by decide) (Nat.le_of_ble_eq_true rfl) (Nat.le_of_ble_eq_true rfl) dX10_init_48 (fun q6 cA H hK hP hD hS => ?_)
  have hcA : cA = cI := Option.some.inj ((hK.2 3 _ rfl).2.symm.trans (hK.2 0 _ rfl).2)
  rw [hcA] at hK hP hD
  have hK := hK.sub (tys' := [(cI, .int), (cJ, .long), (cZ, .boolean)]) [0, 1, 2] rfl
  have hP : va_P (dC, dI) vwCl [(h0, .inr (9, [.ref q1, .int 0, .ref q2, .ref q3, .ref q4, .ref q5, .null, .int 0, .int 0, .null, .null, .null, .null, .int 0, .long 0, .null, .null, .null, .null, .int 0, .null, .null, .int 0])), (q1, .inl (cI, 20, .inl (fun _ => 0))), (q2, .inl (cI, 11, .inl (fun _ => 0))), (q3, .inl (cI, 11, .inl (fun _ => 0))), (q4, .inl (cI, 11, .inl (fun _ => 0))), (q5, .inl (cI, 10, .inl (fun _ => 0))), (q6, .inl (cI, 154, .inl (fun _ => 0)))] H := hP
  have hD : va_D A [(h0, .inr (9, [.ref q1, .int 0, .ref q2, .ref q3, .ref q4, .ref q5, .null, .int 0, .int 0, .null, .null, .null, .null, .int 0, .long 0, .null, .null, .null, .null, .int 0, .null, .null, .int 0])), (q1, .inl (cI, 20, .inl (fun _ => 0))), (q2, .inl (cI, 11, .inl (fun _ => 0))), (q3, .inl (cI, 11, .inl (fun _ => 0))), (q4, .inl (cI, 11, .inl (fun _ => 0))), (q5, .inl (cI, 10, .inl (fun _ => 0))), (q6, .inl (cI, 154, .inl (fun _ => 0)))] := hD
  refine W.widen (k := 6) (n := 217) (Nat.le_of_ble_eq_true rfl) (Nat.le_of_ble_eq_true rfl) ?_
  refine va_putF (D := (dC, dI)) (ci := 9) (v := .ref q6) (ty := .array .int) (C := RX10) (T := TX10) (N := 23) hx hb hts uwX10 tyX10 tyX10_ok nmX10 hown hK hP hD hS 0 rfl rfl 6 (by decide) (hts (.fieldLink RX10 25 "SquareFoldsModel" "diary" "[I") (gW_at 672 (by decide +kernel))) (fun _ h9 => h9) rfl hin rfl (by decide +kernel) rfl rfl (Nat.le_of_ble_eq_true rfl) dX10_init_50 (fun H locs hP hD hS => ?_)
  have hP : va_P (dC, dI) vwCl [(h0, .inr (9, [.ref q1, .int 0, .ref q2, .ref q3, .ref q4, .ref q5, .ref q6, .int 0, .int 0, .null, .null, .null, .null, .int 0, .long 0, .null, .null, .null, .null, .int 0, .null, .null, .int 0])), (q1, .inl (cI, 20, .inl (fun _ => 0))), (q2, .inl (cI, 11, .inl (fun _ => 0))), (q3, .inl (cI, 11, .inl (fun _ => 0))), (q4, .inl (cI, 11, .inl (fun _ => 0))), (q5, .inl (cI, 10, .inl (fun _ => 0))), (q6, .inl (cI, 154, .inl (fun _ => 0)))] H := hP
  have hD : va_D A [(h0, .inr (9, [.ref q1, .int 0, .ref q2, .ref q3, .ref q4, .ref q5, .ref q6, .int 0, .int 0, .null, .null, .null, .null, .int 0, .long 0, .null, .null, .null, .null, .int 0, .null, .null, .int 0])), (q1, .inl (cI, 20, .inl (fun _ => 0))), (q2, .inl (cI, 11, .inl (fun _ => 0))), (q3, .inl (cI, 11, .inl (fun _ => 0))), (q4, .inl (cI, 11, .inl (fun _ => 0))), (q5, .inl (cI, 10, .inl (fun _ => 0))), (q6, .inl (cI, 154, .inl (fun _ => 0)))] := hD
  refine lv_aload_n hx hb dX10_init_53 rfl (lv_at hl 0 rfl) ?_
  refine lv_bipush (v := 22) hx hb dX10_init_54 (by decide) ?_
  refine va_newa (atype := .int) (ty := .int) (N' := 22) (a0 := (22, .inl (fun _ => 0))) hx hb (hts (.arrayClass .int) (gW_at 65 (by decide +kernel))) rfl hK hP hD hS hA (fun cA => rfl) (by decide) (by decide) (by decide) (Nat.le_of_ble_eq_true rfl) (Nat.le_of_ble_eq_true rfl) dX10_init_56 (fun q7 cA H hK hP hD hS => ?_)
  have hcA : cA = cI := Option.some.inj ((hK.2 3 _ rfl).2.symm.trans (hK.2 0 _ rfl).2)
  rw [hcA] at hK hP hD
  have hK := hK.sub (tys' := [(cI, .int), (cJ, .long), (cZ, .boolean)]) [0, 1, 2] rfl
  have hP : va_P (dC, dI) vwCl [(h0, .inr (9, [.ref q1, .int 0, .ref q2, .ref q3, .ref q4, .ref q5, .ref q6, .int 0, .int 0, .null, .null, .null, .null, .int 0, .long 0, .null, .null, .null, .null, .int 0, .null, .null, .int 0])), (q1, .inl (cI, 20, .inl (fun _ => 0))), (q2, .inl (cI, 11, .inl (fun _ => 0))), (q3, .inl (cI, 11, .inl (fun _ => 0))), (q4, .inl (cI, 11, .inl (fun _ => 0))), (q5, .inl (cI, 10, .inl (fun _ => 0))), (q6, .inl (cI, 154, .inl (fun _ => 0))), (q7, .inl (cI, 22, .inl (fun _ => 0)))] H := hP
  have hD : va_D A [(h0, .inr (9, [.ref q1, .int 0, .ref q2, .ref q3, .ref q4, .ref q5, .ref q6, .int 0, .int 0, .null, .null, .null, .null, .int 0, .long 0, .null, .null, .null, .null, .int 0, .null, .null, .int 0])), (q1, .inl (cI, 20, .inl (fun _ => 0))), (q2, .inl (cI, 11, .inl (fun _ => 0))), (q3, .inl (cI, 11, .inl (fun _ => 0))), (q4, .inl (cI, 11, .inl (fun _ => 0))), (q5, .inl (cI, 10, .inl (fun _ => 0))), (q6, .inl (cI, 154, .inl (fun _ => 0))), (q7, .inl (cI, 22, .inl (fun _ => 0)))] := hD
  refine W.widen (k := 7) (n := 239) (Nat.le_of_ble_eq_true rfl) (Nat.le_of_ble_eq_true rfl) ?_
  refine va_putF (D := (dC, dI)) (ci := 9) (v := .ref q7) (ty := .array .int) (C := RX10) (T := TX10) (N := 23) hx hb hts uwX10 tyX10 tyX10_ok nmX10 hown hK hP hD hS 0 rfl rfl 9 (by decide) (hts (.fieldLink RX10 28 "SquareFoldsModel" "kept" "[I") (gW_at 675 (by decide +kernel))) (fun _ h9 => h9) rfl hin rfl (by decide +kernel) rfl rfl (Nat.le_of_ble_eq_true rfl) dX10_init_58 (fun H locs hP hD hS => ?_)
  have hP : va_P (dC, dI) vwCl [(h0, .inr (9, [.ref q1, .int 0, .ref q2, .ref q3, .ref q4, .ref q5, .ref q6, .int 0, .int 0, .ref q7, .null, .null, .null, .int 0, .long 0, .null, .null, .null, .null, .int 0, .null, .null, .int 0])), (q1, .inl (cI, 20, .inl (fun _ => 0))), (q2, .inl (cI, 11, .inl (fun _ => 0))), (q3, .inl (cI, 11, .inl (fun _ => 0))), (q4, .inl (cI, 11, .inl (fun _ => 0))), (q5, .inl (cI, 10, .inl (fun _ => 0))), (q6, .inl (cI, 154, .inl (fun _ => 0))), (q7, .inl (cI, 22, .inl (fun _ => 0)))] H := hP
  have hD : va_D A [(h0, .inr (9, [.ref q1, .int 0, .ref q2, .ref q3, .ref q4, .ref q5, .ref q6, .int 0, .int 0, .ref q7, .null, .null, .null, .int 0, .long 0, .null, .null, .null, .null, .int 0, .null, .null, .int 0])), (q1, .inl (cI, 20, .inl (fun _ => 0))), (q2, .inl (cI, 11, .inl (fun _ => 0))), (q3, .inl (cI, 11, .inl (fun _ => 0))), (q4, .inl (cI, 11, .inl (fun _ => 0))), (q5, .inl (cI, 10, .inl (fun _ => 0))), (q6, .inl (cI, 154, .inl (fun _ => 0))), (q7, .inl (cI, 22, .inl (fun _ => 0)))] := hD
  refine lv_aload_n hx hb dX10_init_61 rfl (lv_at hl 0 rfl) ?_
  refine lv_iconst (v := 2) hx hb dX10_init_62 (by decide) ?_
  refine va_newa (atype := .boolean) (ty := .boolean) (N' := 2) (a0 := (2, .inl (fun _ => 0))) hx hb (hts (.arrayClass .boolean) (gW_at 736 (by decide +kernel))) rfl hK hP hD hS hA (fun cA => rfl) (by decide) (by decide) (by decide) (Nat.le_of_ble_eq_true rfl) (Nat.le_of_ble_eq_true rfl) dX10_init_63 (fun q8 cA H hK hP hD hS => ?_)
  have hcA : cA = cZ := Option.some.inj ((hK.2 3 _ rfl).2.symm.trans (hK.2 2 _ rfl).2)
  rw [hcA] at hK hP hD
  have hK := hK.sub (tys' := [(cI, .int), (cJ, .long), (cZ, .boolean)]) [0, 1, 2] rfl
  have hP : va_P (dC, dI) vwCl [(h0, .inr (9, [.ref q1, .int 0, .ref q2, .ref q3, .ref q4, .ref q5, .ref q6, .int 0, .int 0, .ref q7, .null, .null, .null, .int 0, .long 0, .null, .null, .null, .null, .int 0, .null, .null, .int 0])), (q1, .inl (cI, 20, .inl (fun _ => 0))), (q2, .inl (cI, 11, .inl (fun _ => 0))), (q3, .inl (cI, 11, .inl (fun _ => 0))), (q4, .inl (cI, 11, .inl (fun _ => 0))), (q5, .inl (cI, 10, .inl (fun _ => 0))), (q6, .inl (cI, 154, .inl (fun _ => 0))), (q7, .inl (cI, 22, .inl (fun _ => 0))), (q8, .inl (cZ, 2, .inl (fun _ => 0)))] H := hP
  have hD : va_D A [(h0, .inr (9, [.ref q1, .int 0, .ref q2, .ref q3, .ref q4, .ref q5, .ref q6, .int 0, .int 0, .ref q7, .null, .null, .null, .int 0, .long 0, .null, .null, .null, .null, .int 0, .null, .null, .int 0])), (q1, .inl (cI, 20, .inl (fun _ => 0))), (q2, .inl (cI, 11, .inl (fun _ => 0))), (q3, .inl (cI, 11, .inl (fun _ => 0))), (q4, .inl (cI, 11, .inl (fun _ => 0))), (q5, .inl (cI, 10, .inl (fun _ => 0))), (q6, .inl (cI, 154, .inl (fun _ => 0))), (q7, .inl (cI, 22, .inl (fun _ => 0))), (q8, .inl (cZ, 2, .inl (fun _ => 0)))] := hD
  refine W.widen (k := 8) (n := 241) (Nat.le_of_ble_eq_true rfl) (Nat.le_of_ble_eq_true rfl) ?_
  refine va_putF (D := (dC, dI)) (ci := 9) (v := .ref q8) (ty := .array .boolean) (C := RX10) (T := TX10) (N := 23) hx hb hts uwX10 tyX10 tyX10_ok nmX10 hown hK hP hD hS 0 rfl rfl 10 (by decide) (hts (.fieldLink RX10 31 "SquareFoldsModel" "isKept" "[Z") (gW_at 676 (by decide +kernel))) (fun _ h9 => h9) rfl hin rfl (by decide +kernel) rfl rfl (Nat.le_of_ble_eq_true rfl) dX10_init_65 (fun H locs hP hD hS => ?_)
  have hP : va_P (dC, dI) vwCl [(h0, .inr (9, [.ref q1, .int 0, .ref q2, .ref q3, .ref q4, .ref q5, .ref q6, .int 0, .int 0, .ref q7, .ref q8, .null, .null, .int 0, .long 0, .null, .null, .null, .null, .int 0, .null, .null, .int 0])), (q1, .inl (cI, 20, .inl (fun _ => 0))), (q2, .inl (cI, 11, .inl (fun _ => 0))), (q3, .inl (cI, 11, .inl (fun _ => 0))), (q4, .inl (cI, 11, .inl (fun _ => 0))), (q5, .inl (cI, 10, .inl (fun _ => 0))), (q6, .inl (cI, 154, .inl (fun _ => 0))), (q7, .inl (cI, 22, .inl (fun _ => 0))), (q8, .inl (cZ, 2, .inl (fun _ => 0)))] H := hP
  have hD : va_D A [(h0, .inr (9, [.ref q1, .int 0, .ref q2, .ref q3, .ref q4, .ref q5, .ref q6, .int 0, .int 0, .ref q7, .ref q8, .null, .null, .int 0, .long 0, .null, .null, .null, .null, .int 0, .null, .null, .int 0])), (q1, .inl (cI, 20, .inl (fun _ => 0))), (q2, .inl (cI, 11, .inl (fun _ => 0))), (q3, .inl (cI, 11, .inl (fun _ => 0))), (q4, .inl (cI, 11, .inl (fun _ => 0))), (q5, .inl (cI, 10, .inl (fun _ => 0))), (q6, .inl (cI, 154, .inl (fun _ => 0))), (q7, .inl (cI, 22, .inl (fun _ => 0))), (q8, .inl (cZ, 2, .inl (fun _ => 0)))] := hD
  refine lv_aload_n hx hb dX10_init_68 rfl (lv_at hl 0 rfl) ?_
  refine lv_bipush (v := 6) hx hb dX10_init_69 (by decide) ?_
  refine va_newa (atype := .int) (ty := .int) (N' := 6) (a0 := (6, .inl (fun _ => 0))) hx hb (hts (.arrayClass .int) (gW_at 65 (by decide +kernel))) rfl hK hP hD hS hA (fun cA => rfl) (by decide) (by decide) (by decide) (Nat.le_of_ble_eq_true rfl) (Nat.le_of_ble_eq_true rfl) dX10_init_71 (fun q9 cA H hK hP hD hS => ?_)
  have hcA : cA = cI := Option.some.inj ((hK.2 3 _ rfl).2.symm.trans (hK.2 0 _ rfl).2)
  rw [hcA] at hK hP hD
  have hK := hK.sub (tys' := [(cI, .int), (cJ, .long), (cZ, .boolean)]) [0, 1, 2] rfl
  have hP : va_P (dC, dI) vwCl [(h0, .inr (9, [.ref q1, .int 0, .ref q2, .ref q3, .ref q4, .ref q5, .ref q6, .int 0, .int 0, .ref q7, .ref q8, .null, .null, .int 0, .long 0, .null, .null, .null, .null, .int 0, .null, .null, .int 0])), (q1, .inl (cI, 20, .inl (fun _ => 0))), (q2, .inl (cI, 11, .inl (fun _ => 0))), (q3, .inl (cI, 11, .inl (fun _ => 0))), (q4, .inl (cI, 11, .inl (fun _ => 0))), (q5, .inl (cI, 10, .inl (fun _ => 0))), (q6, .inl (cI, 154, .inl (fun _ => 0))), (q7, .inl (cI, 22, .inl (fun _ => 0))), (q8, .inl (cZ, 2, .inl (fun _ => 0))), (q9, .inl (cI, 6, .inl (fun _ => 0)))] H := hP
  have hD : va_D A [(h0, .inr (9, [.ref q1, .int 0, .ref q2, .ref q3, .ref q4, .ref q5, .ref q6, .int 0, .int 0, .ref q7, .ref q8, .null, .null, .int 0, .long 0, .null, .null, .null, .null, .int 0, .null, .null, .int 0])), (q1, .inl (cI, 20, .inl (fun _ => 0))), (q2, .inl (cI, 11, .inl (fun _ => 0))), (q3, .inl (cI, 11, .inl (fun _ => 0))), (q4, .inl (cI, 11, .inl (fun _ => 0))), (q5, .inl (cI, 10, .inl (fun _ => 0))), (q6, .inl (cI, 154, .inl (fun _ => 0))), (q7, .inl (cI, 22, .inl (fun _ => 0))), (q8, .inl (cZ, 2, .inl (fun _ => 0))), (q9, .inl (cI, 6, .inl (fun _ => 0)))] := hD
  refine W.widen (k := 9) (n := 247) (Nat.le_of_ble_eq_true rfl) (Nat.le_of_ble_eq_true rfl) ?_
  refine va_putF (D := (dC, dI)) (ci := 9) (v := .ref q9) (ty := .array .int) (C := RX10) (T := TX10) (N := 23) hx hb hts uwX10 tyX10 tyX10_ok nmX10 hown hK hP hD hS 0 rfl rfl 11 (by decide) (hts (.fieldLink RX10 35 "SquareFoldsModel" "seenWay" "[I") (gW_at 677 (by decide +kernel))) (fun _ h9 => h9) rfl hin rfl (by decide +kernel) rfl rfl (Nat.le_of_ble_eq_true rfl) dX10_init_73 (fun H locs hP hD hS => ?_)
  have hP : va_P (dC, dI) vwCl [(h0, .inr (9, [.ref q1, .int 0, .ref q2, .ref q3, .ref q4, .ref q5, .ref q6, .int 0, .int 0, .ref q7, .ref q8, .ref q9, .null, .int 0, .long 0, .null, .null, .null, .null, .int 0, .null, .null, .int 0])), (q1, .inl (cI, 20, .inl (fun _ => 0))), (q2, .inl (cI, 11, .inl (fun _ => 0))), (q3, .inl (cI, 11, .inl (fun _ => 0))), (q4, .inl (cI, 11, .inl (fun _ => 0))), (q5, .inl (cI, 10, .inl (fun _ => 0))), (q6, .inl (cI, 154, .inl (fun _ => 0))), (q7, .inl (cI, 22, .inl (fun _ => 0))), (q8, .inl (cZ, 2, .inl (fun _ => 0))), (q9, .inl (cI, 6, .inl (fun _ => 0)))] H := hP
  have hD : va_D A [(h0, .inr (9, [.ref q1, .int 0, .ref q2, .ref q3, .ref q4, .ref q5, .ref q6, .int 0, .int 0, .ref q7, .ref q8, .ref q9, .null, .int 0, .long 0, .null, .null, .null, .null, .int 0, .null, .null, .int 0])), (q1, .inl (cI, 20, .inl (fun _ => 0))), (q2, .inl (cI, 11, .inl (fun _ => 0))), (q3, .inl (cI, 11, .inl (fun _ => 0))), (q4, .inl (cI, 11, .inl (fun _ => 0))), (q5, .inl (cI, 10, .inl (fun _ => 0))), (q6, .inl (cI, 154, .inl (fun _ => 0))), (q7, .inl (cI, 22, .inl (fun _ => 0))), (q8, .inl (cZ, 2, .inl (fun _ => 0))), (q9, .inl (cI, 6, .inl (fun _ => 0)))] := hD
  refine lv_aload_n hx hb dX10_init_76 rfl (lv_at hl 0 rfl) ?_
  refine lv_bipush (v := 6) hx hb dX10_init_77 (by decide) ?_
  refine va_newa (atype := .int) (ty := .int) (N' := 6) (a0 := (6, .inl (fun _ => 0))) hx hb (hts (.arrayClass .int) (gW_at 65 (by decide +kernel))) rfl hK hP hD hS hA (fun cA => rfl) (by decide) (by decide) (by decide) (Nat.le_of_ble_eq_true rfl) (Nat.le_of_ble_eq_true rfl) dX10_init_79 (fun q10 cA H hK hP hD hS => ?_)
  have hcA : cA = cI := Option.some.inj ((hK.2 3 _ rfl).2.symm.trans (hK.2 0 _ rfl).2)
  rw [hcA] at hK hP hD
  have hK := hK.sub (tys' := [(cI, .int), (cJ, .long), (cZ, .boolean)]) [0, 1, 2] rfl
  have hP : va_P (dC, dI) vwCl [(h0, .inr (9, [.ref q1, .int 0, .ref q2, .ref q3, .ref q4, .ref q5, .ref q6, .int 0, .int 0, .ref q7, .ref q8, .ref q9, .null, .int 0, .long 0, .null, .null, .null, .null, .int 0, .null, .null, .int 0])), (q1, .inl (cI, 20, .inl (fun _ => 0))), (q2, .inl (cI, 11, .inl (fun _ => 0))), (q3, .inl (cI, 11, .inl (fun _ => 0))), (q4, .inl (cI, 11, .inl (fun _ => 0))), (q5, .inl (cI, 10, .inl (fun _ => 0))), (q6, .inl (cI, 154, .inl (fun _ => 0))), (q7, .inl (cI, 22, .inl (fun _ => 0))), (q8, .inl (cZ, 2, .inl (fun _ => 0))), (q9, .inl (cI, 6, .inl (fun _ => 0))), (q10, .inl (cI, 6, .inl (fun _ => 0)))] H := hP
  have hD : va_D A [(h0, .inr (9, [.ref q1, .int 0, .ref q2, .ref q3, .ref q4, .ref q5, .ref q6, .int 0, .int 0, .ref q7, .ref q8, .ref q9, .null, .int 0, .long 0, .null, .null, .null, .null, .int 0, .null, .null, .int 0])), (q1, .inl (cI, 20, .inl (fun _ => 0))), (q2, .inl (cI, 11, .inl (fun _ => 0))), (q3, .inl (cI, 11, .inl (fun _ => 0))), (q4, .inl (cI, 11, .inl (fun _ => 0))), (q5, .inl (cI, 10, .inl (fun _ => 0))), (q6, .inl (cI, 154, .inl (fun _ => 0))), (q7, .inl (cI, 22, .inl (fun _ => 0))), (q8, .inl (cZ, 2, .inl (fun _ => 0))), (q9, .inl (cI, 6, .inl (fun _ => 0))), (q10, .inl (cI, 6, .inl (fun _ => 0)))] := hD
  refine W.widen (k := 10) (n := 253) (Nat.le_of_ble_eq_true rfl) (Nat.le_of_ble_eq_true rfl) ?_
  refine va_putF (D := (dC, dI)) (ci := 9) (v := .ref q10) (ty := .array .int) (C := RX10) (T := TX10) (N := 23) hx hb hts uwX10 tyX10 tyX10_ok nmX10 hown hK hP hD hS 0 rfl rfl 12 (by decide) (hts (.fieldLink RX10 38 "SquareFoldsModel" "seenBack" "[I") (gW_at 678 (by decide +kernel))) (fun _ h9 => h9) rfl hin rfl (by decide +kernel) rfl rfl (Nat.le_of_ble_eq_true rfl) dX10_init_81 (fun H locs hP hD hS => ?_)
  have hP : va_P (dC, dI) vwCl [(h0, .inr (9, [.ref q1, .int 0, .ref q2, .ref q3, .ref q4, .ref q5, .ref q6, .int 0, .int 0, .ref q7, .ref q8, .ref q9, .ref q10, .int 0, .long 0, .null, .null, .null, .null, .int 0, .null, .null, .int 0])), (q1, .inl (cI, 20, .inl (fun _ => 0))), (q2, .inl (cI, 11, .inl (fun _ => 0))), (q3, .inl (cI, 11, .inl (fun _ => 0))), (q4, .inl (cI, 11, .inl (fun _ => 0))), (q5, .inl (cI, 10, .inl (fun _ => 0))), (q6, .inl (cI, 154, .inl (fun _ => 0))), (q7, .inl (cI, 22, .inl (fun _ => 0))), (q8, .inl (cZ, 2, .inl (fun _ => 0))), (q9, .inl (cI, 6, .inl (fun _ => 0))), (q10, .inl (cI, 6, .inl (fun _ => 0)))] H := hP
  have hD : va_D A [(h0, .inr (9, [.ref q1, .int 0, .ref q2, .ref q3, .ref q4, .ref q5, .ref q6, .int 0, .int 0, .ref q7, .ref q8, .ref q9, .ref q10, .int 0, .long 0, .null, .null, .null, .null, .int 0, .null, .null, .int 0])), (q1, .inl (cI, 20, .inl (fun _ => 0))), (q2, .inl (cI, 11, .inl (fun _ => 0))), (q3, .inl (cI, 11, .inl (fun _ => 0))), (q4, .inl (cI, 11, .inl (fun _ => 0))), (q5, .inl (cI, 10, .inl (fun _ => 0))), (q6, .inl (cI, 154, .inl (fun _ => 0))), (q7, .inl (cI, 22, .inl (fun _ => 0))), (q8, .inl (cZ, 2, .inl (fun _ => 0))), (q9, .inl (cI, 6, .inl (fun _ => 0))), (q10, .inl (cI, 6, .inl (fun _ => 0)))] := hD
  refine lv_aload_n hx hb dX10_init_84 rfl (lv_at hl 0 rfl) ?_
  refine lv_iconst (v := 5) hx hb dX10_init_85 (by decide) ?_
  refine va_newa (atype := .int) (ty := .int) (N' := 5) (a0 := (5, .inl (fun _ => 0))) hx hb (hts (.arrayClass .int) (gW_at 65 (by decide +kernel))) rfl hK hP hD hS hA (fun cA => rfl) (by decide) (by decide) (by decide) (Nat.le_of_ble_eq_true rfl) (Nat.le_of_ble_eq_true rfl) dX10_init_86 (fun q11 cA H hK hP hD hS => ?_)
  have hcA : cA = cI := Option.some.inj ((hK.2 3 _ rfl).2.symm.trans (hK.2 0 _ rfl).2)
  rw [hcA] at hK hP hD
  have hK := hK.sub (tys' := [(cI, .int), (cJ, .long), (cZ, .boolean)]) [0, 1, 2] rfl
  have hP : va_P (dC, dI) vwCl [(h0, .inr (9, [.ref q1, .int 0, .ref q2, .ref q3, .ref q4, .ref q5, .ref q6, .int 0, .int 0, .ref q7, .ref q8, .ref q9, .ref q10, .int 0, .long 0, .null, .null, .null, .null, .int 0, .null, .null, .int 0])), (q1, .inl (cI, 20, .inl (fun _ => 0))), (q2, .inl (cI, 11, .inl (fun _ => 0))), (q3, .inl (cI, 11, .inl (fun _ => 0))), (q4, .inl (cI, 11, .inl (fun _ => 0))), (q5, .inl (cI, 10, .inl (fun _ => 0))), (q6, .inl (cI, 154, .inl (fun _ => 0))), (q7, .inl (cI, 22, .inl (fun _ => 0))), (q8, .inl (cZ, 2, .inl (fun _ => 0))), (q9, .inl (cI, 6, .inl (fun _ => 0))), (q10, .inl (cI, 6, .inl (fun _ => 0))), (q11, .inl (cI, 5, .inl (fun _ => 0)))] H := hP
  have hD : va_D A [(h0, .inr (9, [.ref q1, .int 0, .ref q2, .ref q3, .ref q4, .ref q5, .ref q6, .int 0, .int 0, .ref q7, .ref q8, .ref q9, .ref q10, .int 0, .long 0, .null, .null, .null, .null, .int 0, .null, .null, .int 0])), (q1, .inl (cI, 20, .inl (fun _ => 0))), (q2, .inl (cI, 11, .inl (fun _ => 0))), (q3, .inl (cI, 11, .inl (fun _ => 0))), (q4, .inl (cI, 11, .inl (fun _ => 0))), (q5, .inl (cI, 10, .inl (fun _ => 0))), (q6, .inl (cI, 154, .inl (fun _ => 0))), (q7, .inl (cI, 22, .inl (fun _ => 0))), (q8, .inl (cZ, 2, .inl (fun _ => 0))), (q9, .inl (cI, 6, .inl (fun _ => 0))), (q10, .inl (cI, 6, .inl (fun _ => 0))), (q11, .inl (cI, 5, .inl (fun _ => 0)))] := hD
  refine W.widen (k := 11) (n := 258) (Nat.le_of_ble_eq_true rfl) (Nat.le_of_ble_eq_true rfl) ?_
  refine va_putF (D := (dC, dI)) (ci := 9) (v := .ref q11) (ty := .array .int) (C := RX10) (T := TX10) (N := 23) hx hb hts uwX10 tyX10 tyX10_ok nmX10 hown hK hP hD hS 0 rfl rfl 15 (by decide) (hts (.fieldLink RX10 41 "SquareFoldsModel" "number" "[I") (gW_at 681 (by decide +kernel))) (fun _ h9 => h9) rfl hin rfl (by decide +kernel) rfl rfl (Nat.le_of_ble_eq_true rfl) dX10_init_88 (fun H locs hP hD hS => ?_)
  have hP : va_P (dC, dI) vwCl [(h0, .inr (9, [.ref q1, .int 0, .ref q2, .ref q3, .ref q4, .ref q5, .ref q6, .int 0, .int 0, .ref q7, .ref q8, .ref q9, .ref q10, .int 0, .long 0, .ref q11, .null, .null, .null, .int 0, .null, .null, .int 0])), (q1, .inl (cI, 20, .inl (fun _ => 0))), (q2, .inl (cI, 11, .inl (fun _ => 0))), (q3, .inl (cI, 11, .inl (fun _ => 0))), (q4, .inl (cI, 11, .inl (fun _ => 0))), (q5, .inl (cI, 10, .inl (fun _ => 0))), (q6, .inl (cI, 154, .inl (fun _ => 0))), (q7, .inl (cI, 22, .inl (fun _ => 0))), (q8, .inl (cZ, 2, .inl (fun _ => 0))), (q9, .inl (cI, 6, .inl (fun _ => 0))), (q10, .inl (cI, 6, .inl (fun _ => 0))), (q11, .inl (cI, 5, .inl (fun _ => 0)))] H := hP
  have hD : va_D A [(h0, .inr (9, [.ref q1, .int 0, .ref q2, .ref q3, .ref q4, .ref q5, .ref q6, .int 0, .int 0, .ref q7, .ref q8, .ref q9, .ref q10, .int 0, .long 0, .ref q11, .null, .null, .null, .int 0, .null, .null, .int 0])), (q1, .inl (cI, 20, .inl (fun _ => 0))), (q2, .inl (cI, 11, .inl (fun _ => 0))), (q3, .inl (cI, 11, .inl (fun _ => 0))), (q4, .inl (cI, 11, .inl (fun _ => 0))), (q5, .inl (cI, 10, .inl (fun _ => 0))), (q6, .inl (cI, 154, .inl (fun _ => 0))), (q7, .inl (cI, 22, .inl (fun _ => 0))), (q8, .inl (cZ, 2, .inl (fun _ => 0))), (q9, .inl (cI, 6, .inl (fun _ => 0))), (q10, .inl (cI, 6, .inl (fun _ => 0))), (q11, .inl (cI, 5, .inl (fun _ => 0)))] := hD
  refine lv_aload_n hx hb dX10_init_91 rfl (lv_at hl 0 rfl) ?_
  refine lv_iconst (v := 5) hx hb dX10_init_92 (by decide) ?_
  refine va_newa (atype := .int) (ty := .int) (N' := 5) (a0 := (5, .inl (fun _ => 0))) hx hb (hts (.arrayClass .int) (gW_at 65 (by decide +kernel))) rfl hK hP hD hS hA (fun cA => rfl) (by decide) (by decide) (by decide) (Nat.le_of_ble_eq_true rfl) (Nat.le_of_ble_eq_true rfl) dX10_init_93 (fun q12 cA H hK hP hD hS => ?_)
  have hcA : cA = cI := Option.some.inj ((hK.2 3 _ rfl).2.symm.trans (hK.2 0 _ rfl).2)
  rw [hcA] at hK hP hD
  have hK := hK.sub (tys' := [(cI, .int), (cJ, .long), (cZ, .boolean)]) [0, 1, 2] rfl
  have hP : va_P (dC, dI) vwCl [(h0, .inr (9, [.ref q1, .int 0, .ref q2, .ref q3, .ref q4, .ref q5, .ref q6, .int 0, .int 0, .ref q7, .ref q8, .ref q9, .ref q10, .int 0, .long 0, .ref q11, .null, .null, .null, .int 0, .null, .null, .int 0])), (q1, .inl (cI, 20, .inl (fun _ => 0))), (q2, .inl (cI, 11, .inl (fun _ => 0))), (q3, .inl (cI, 11, .inl (fun _ => 0))), (q4, .inl (cI, 11, .inl (fun _ => 0))), (q5, .inl (cI, 10, .inl (fun _ => 0))), (q6, .inl (cI, 154, .inl (fun _ => 0))), (q7, .inl (cI, 22, .inl (fun _ => 0))), (q8, .inl (cZ, 2, .inl (fun _ => 0))), (q9, .inl (cI, 6, .inl (fun _ => 0))), (q10, .inl (cI, 6, .inl (fun _ => 0))), (q11, .inl (cI, 5, .inl (fun _ => 0))), (q12, .inl (cI, 5, .inl (fun _ => 0)))] H := hP
  have hD : va_D A [(h0, .inr (9, [.ref q1, .int 0, .ref q2, .ref q3, .ref q4, .ref q5, .ref q6, .int 0, .int 0, .ref q7, .ref q8, .ref q9, .ref q10, .int 0, .long 0, .ref q11, .null, .null, .null, .int 0, .null, .null, .int 0])), (q1, .inl (cI, 20, .inl (fun _ => 0))), (q2, .inl (cI, 11, .inl (fun _ => 0))), (q3, .inl (cI, 11, .inl (fun _ => 0))), (q4, .inl (cI, 11, .inl (fun _ => 0))), (q5, .inl (cI, 10, .inl (fun _ => 0))), (q6, .inl (cI, 154, .inl (fun _ => 0))), (q7, .inl (cI, 22, .inl (fun _ => 0))), (q8, .inl (cZ, 2, .inl (fun _ => 0))), (q9, .inl (cI, 6, .inl (fun _ => 0))), (q10, .inl (cI, 6, .inl (fun _ => 0))), (q11, .inl (cI, 5, .inl (fun _ => 0))), (q12, .inl (cI, 5, .inl (fun _ => 0)))] := hD
  refine W.widen (k := 12) (n := 263) (Nat.le_of_ble_eq_true rfl) (Nat.le_of_ble_eq_true rfl) ?_
  refine va_putF (D := (dC, dI)) (ci := 9) (v := .ref q12) (ty := .array .int) (C := RX10) (T := TX10) (N := 23) hx hb hts uwX10 tyX10 tyX10_ok nmX10 hown hK hP hD hS 0 rfl rfl 16 (by decide) (hts (.fieldLink RX10 44 "SquareFoldsModel" "met" "[I") (gW_at 682 (by decide +kernel))) (fun _ h9 => h9) rfl hin rfl (by decide +kernel) rfl rfl (Nat.le_of_ble_eq_true rfl) dX10_init_95 (fun H locs hP hD hS => ?_)
  have hP : va_P (dC, dI) vwCl [(h0, .inr (9, [.ref q1, .int 0, .ref q2, .ref q3, .ref q4, .ref q5, .ref q6, .int 0, .int 0, .ref q7, .ref q8, .ref q9, .ref q10, .int 0, .long 0, .ref q11, .ref q12, .null, .null, .int 0, .null, .null, .int 0])), (q1, .inl (cI, 20, .inl (fun _ => 0))), (q2, .inl (cI, 11, .inl (fun _ => 0))), (q3, .inl (cI, 11, .inl (fun _ => 0))), (q4, .inl (cI, 11, .inl (fun _ => 0))), (q5, .inl (cI, 10, .inl (fun _ => 0))), (q6, .inl (cI, 154, .inl (fun _ => 0))), (q7, .inl (cI, 22, .inl (fun _ => 0))), (q8, .inl (cZ, 2, .inl (fun _ => 0))), (q9, .inl (cI, 6, .inl (fun _ => 0))), (q10, .inl (cI, 6, .inl (fun _ => 0))), (q11, .inl (cI, 5, .inl (fun _ => 0))), (q12, .inl (cI, 5, .inl (fun _ => 0)))] H := hP
  have hD : va_D A [(h0, .inr (9, [.ref q1, .int 0, .ref q2, .ref q3, .ref q4, .ref q5, .ref q6, .int 0, .int 0, .ref q7, .ref q8, .ref q9, .ref q10, .int 0, .long 0, .ref q11, .ref q12, .null, .null, .int 0, .null, .null, .int 0])), (q1, .inl (cI, 20, .inl (fun _ => 0))), (q2, .inl (cI, 11, .inl (fun _ => 0))), (q3, .inl (cI, 11, .inl (fun _ => 0))), (q4, .inl (cI, 11, .inl (fun _ => 0))), (q5, .inl (cI, 10, .inl (fun _ => 0))), (q6, .inl (cI, 154, .inl (fun _ => 0))), (q7, .inl (cI, 22, .inl (fun _ => 0))), (q8, .inl (cZ, 2, .inl (fun _ => 0))), (q9, .inl (cI, 6, .inl (fun _ => 0))), (q10, .inl (cI, 6, .inl (fun _ => 0))), (q11, .inl (cI, 5, .inl (fun _ => 0))), (q12, .inl (cI, 5, .inl (fun _ => 0)))] := hD
  refine lv_aload_n hx hb dX10_init_98 rfl (lv_at hl 0 rfl) ?_
  refine lv_sipush (v := 128) hx hb dX10_init_99 (by decide) ?_
  refine va_newa (atype := .long) (ty := .long) (N' := 128) (a0 := (128, .inr (.inl (fun _ => 0)))) hx hb (hts (.arrayClass .long) (gW_at 156 (by decide +kernel))) rfl hK hP hD hS hA (fun cA => rfl) (by decide) (by decide) (by decide) (Nat.le_of_ble_eq_true rfl) (Nat.le_of_ble_eq_true rfl) dX10_init_102 (fun q13 cA H hK hP hD hS => ?_)
  have hcA : cA = cJ := Option.some.inj ((hK.2 3 _ rfl).2.symm.trans (hK.2 1 _ rfl).2)
  rw [hcA] at hK hP hD
  have hK := hK.sub (tys' := [(cI, .int), (cJ, .long), (cZ, .boolean)]) [0, 1, 2] rfl
  have hP : va_P (dC, dI) vwCl [(h0, .inr (9, [.ref q1, .int 0, .ref q2, .ref q3, .ref q4, .ref q5, .ref q6, .int 0, .int 0, .ref q7, .ref q8, .ref q9, .ref q10, .int 0, .long 0, .ref q11, .ref q12, .null, .null, .int 0, .null, .null, .int 0])), (q1, .inl (cI, 20, .inl (fun _ => 0))), (q2, .inl (cI, 11, .inl (fun _ => 0))), (q3, .inl (cI, 11, .inl (fun _ => 0))), (q4, .inl (cI, 11, .inl (fun _ => 0))), (q5, .inl (cI, 10, .inl (fun _ => 0))), (q6, .inl (cI, 154, .inl (fun _ => 0))), (q7, .inl (cI, 22, .inl (fun _ => 0))), (q8, .inl (cZ, 2, .inl (fun _ => 0))), (q9, .inl (cI, 6, .inl (fun _ => 0))), (q10, .inl (cI, 6, .inl (fun _ => 0))), (q11, .inl (cI, 5, .inl (fun _ => 0))), (q12, .inl (cI, 5, .inl (fun _ => 0))), (q13, .inl (cJ, 128, .inr (.inl (fun _ => 0))))] H := hP
  have hD : va_D A [(h0, .inr (9, [.ref q1, .int 0, .ref q2, .ref q3, .ref q4, .ref q5, .ref q6, .int 0, .int 0, .ref q7, .ref q8, .ref q9, .ref q10, .int 0, .long 0, .ref q11, .ref q12, .null, .null, .int 0, .null, .null, .int 0])), (q1, .inl (cI, 20, .inl (fun _ => 0))), (q2, .inl (cI, 11, .inl (fun _ => 0))), (q3, .inl (cI, 11, .inl (fun _ => 0))), (q4, .inl (cI, 11, .inl (fun _ => 0))), (q5, .inl (cI, 10, .inl (fun _ => 0))), (q6, .inl (cI, 154, .inl (fun _ => 0))), (q7, .inl (cI, 22, .inl (fun _ => 0))), (q8, .inl (cZ, 2, .inl (fun _ => 0))), (q9, .inl (cI, 6, .inl (fun _ => 0))), (q10, .inl (cI, 6, .inl (fun _ => 0))), (q11, .inl (cI, 5, .inl (fun _ => 0))), (q12, .inl (cI, 5, .inl (fun _ => 0))), (q13, .inl (cJ, 128, .inr (.inl (fun _ => 0))))] := hD
  refine W.widen (k := 13) (n := 391) (Nat.le_of_ble_eq_true rfl) (Nat.le_of_ble_eq_true rfl) ?_
  refine va_putF (D := (dC, dI)) (ci := 9) (v := .ref q13) (ty := .array .long) (C := RX10) (T := TX10) (N := 23) hx hb hts uwX10 tyX10 tyX10_ok nmX10 hown hK hP hD hS 0 rfl rfl 17 (by decide) (hts (.fieldLink RX10 47 "SquareFoldsModel" "names" "[J") (gW_at 683 (by decide +kernel))) (fun _ h9 => h9) rfl hin rfl (by decide +kernel) rfl rfl (Nat.le_of_ble_eq_true rfl) dX10_init_104 (fun H locs hP hD hS => ?_)
  have hP : va_P (dC, dI) vwCl [(h0, .inr (9, [.ref q1, .int 0, .ref q2, .ref q3, .ref q4, .ref q5, .ref q6, .int 0, .int 0, .ref q7, .ref q8, .ref q9, .ref q10, .int 0, .long 0, .ref q11, .ref q12, .ref q13, .null, .int 0, .null, .null, .int 0])), (q1, .inl (cI, 20, .inl (fun _ => 0))), (q2, .inl (cI, 11, .inl (fun _ => 0))), (q3, .inl (cI, 11, .inl (fun _ => 0))), (q4, .inl (cI, 11, .inl (fun _ => 0))), (q5, .inl (cI, 10, .inl (fun _ => 0))), (q6, .inl (cI, 154, .inl (fun _ => 0))), (q7, .inl (cI, 22, .inl (fun _ => 0))), (q8, .inl (cZ, 2, .inl (fun _ => 0))), (q9, .inl (cI, 6, .inl (fun _ => 0))), (q10, .inl (cI, 6, .inl (fun _ => 0))), (q11, .inl (cI, 5, .inl (fun _ => 0))), (q12, .inl (cI, 5, .inl (fun _ => 0))), (q13, .inl (cJ, 128, .inr (.inl (fun _ => 0))))] H := hP
  have hD : va_D A [(h0, .inr (9, [.ref q1, .int 0, .ref q2, .ref q3, .ref q4, .ref q5, .ref q6, .int 0, .int 0, .ref q7, .ref q8, .ref q9, .ref q10, .int 0, .long 0, .ref q11, .ref q12, .ref q13, .null, .int 0, .null, .null, .int 0])), (q1, .inl (cI, 20, .inl (fun _ => 0))), (q2, .inl (cI, 11, .inl (fun _ => 0))), (q3, .inl (cI, 11, .inl (fun _ => 0))), (q4, .inl (cI, 11, .inl (fun _ => 0))), (q5, .inl (cI, 10, .inl (fun _ => 0))), (q6, .inl (cI, 154, .inl (fun _ => 0))), (q7, .inl (cI, 22, .inl (fun _ => 0))), (q8, .inl (cZ, 2, .inl (fun _ => 0))), (q9, .inl (cI, 6, .inl (fun _ => 0))), (q10, .inl (cI, 6, .inl (fun _ => 0))), (q11, .inl (cI, 5, .inl (fun _ => 0))), (q12, .inl (cI, 5, .inl (fun _ => 0))), (q13, .inl (cJ, 128, .inr (.inl (fun _ => 0))))] := hD
  refine lv_aload_n hx hb dX10_init_107 rfl (lv_at hl 0 rfl) ?_
  refine lv_sipush (v := 128) hx hb dX10_init_108 (by decide) ?_
  refine va_newa (atype := .int) (ty := .int) (N' := 128) (a0 := (128, .inl (fun _ => 0))) hx hb (hts (.arrayClass .int) (gW_at 65 (by decide +kernel))) rfl hK hP hD hS hA (fun cA => rfl) (by decide) (by decide) (by decide) (Nat.le_of_ble_eq_true rfl) (Nat.le_of_ble_eq_true rfl) dX10_init_111 (fun q14 cA H hK hP hD hS => ?_)
  have hcA : cA = cI := Option.some.inj ((hK.2 3 _ rfl).2.symm.trans (hK.2 0 _ rfl).2)
  rw [hcA] at hK hP hD
  have hK := hK.sub (tys' := [(cI, .int), (cJ, .long), (cZ, .boolean)]) [0, 1, 2] rfl
  have hP : va_P (dC, dI) vwCl [(h0, .inr (9, [.ref q1, .int 0, .ref q2, .ref q3, .ref q4, .ref q5, .ref q6, .int 0, .int 0, .ref q7, .ref q8, .ref q9, .ref q10, .int 0, .long 0, .ref q11, .ref q12, .ref q13, .null, .int 0, .null, .null, .int 0])), (q1, .inl (cI, 20, .inl (fun _ => 0))), (q2, .inl (cI, 11, .inl (fun _ => 0))), (q3, .inl (cI, 11, .inl (fun _ => 0))), (q4, .inl (cI, 11, .inl (fun _ => 0))), (q5, .inl (cI, 10, .inl (fun _ => 0))), (q6, .inl (cI, 154, .inl (fun _ => 0))), (q7, .inl (cI, 22, .inl (fun _ => 0))), (q8, .inl (cZ, 2, .inl (fun _ => 0))), (q9, .inl (cI, 6, .inl (fun _ => 0))), (q10, .inl (cI, 6, .inl (fun _ => 0))), (q11, .inl (cI, 5, .inl (fun _ => 0))), (q12, .inl (cI, 5, .inl (fun _ => 0))), (q13, .inl (cJ, 128, .inr (.inl (fun _ => 0)))), (q14, .inl (cI, 128, .inl (fun _ => 0)))] H := hP
  have hD : va_D A [(h0, .inr (9, [.ref q1, .int 0, .ref q2, .ref q3, .ref q4, .ref q5, .ref q6, .int 0, .int 0, .ref q7, .ref q8, .ref q9, .ref q10, .int 0, .long 0, .ref q11, .ref q12, .ref q13, .null, .int 0, .null, .null, .int 0])), (q1, .inl (cI, 20, .inl (fun _ => 0))), (q2, .inl (cI, 11, .inl (fun _ => 0))), (q3, .inl (cI, 11, .inl (fun _ => 0))), (q4, .inl (cI, 11, .inl (fun _ => 0))), (q5, .inl (cI, 10, .inl (fun _ => 0))), (q6, .inl (cI, 154, .inl (fun _ => 0))), (q7, .inl (cI, 22, .inl (fun _ => 0))), (q8, .inl (cZ, 2, .inl (fun _ => 0))), (q9, .inl (cI, 6, .inl (fun _ => 0))), (q10, .inl (cI, 6, .inl (fun _ => 0))), (q11, .inl (cI, 5, .inl (fun _ => 0))), (q12, .inl (cI, 5, .inl (fun _ => 0))), (q13, .inl (cJ, 128, .inr (.inl (fun _ => 0)))), (q14, .inl (cI, 128, .inl (fun _ => 0)))] := hD
  refine W.widen (k := 14) (n := 519) (Nat.le_of_ble_eq_true rfl) (Nat.le_of_ble_eq_true rfl) ?_
  refine va_putF (D := (dC, dI)) (ci := 9) (v := .ref q14) (ty := .array .int) (C := RX10) (T := TX10) (N := 23) hx hb hts uwX10 tyX10 tyX10_ok nmX10 hown hK hP hD hS 0 rfl rfl 18 (by decide) (hts (.fieldLink RX10 51 "SquareFoldsModel" "sideTo" "[I") (gW_at 684 (by decide +kernel))) (fun _ h9 => h9) rfl hin rfl (by decide +kernel) rfl rfl (Nat.le_of_ble_eq_true rfl) dX10_init_113 (fun H locs hP hD hS => ?_)
  have hP : va_P (dC, dI) vwCl [(h0, .inr (9, [.ref q1, .int 0, .ref q2, .ref q3, .ref q4, .ref q5, .ref q6, .int 0, .int 0, .ref q7, .ref q8, .ref q9, .ref q10, .int 0, .long 0, .ref q11, .ref q12, .ref q13, .ref q14, .int 0, .null, .null, .int 0])), (q1, .inl (cI, 20, .inl (fun _ => 0))), (q2, .inl (cI, 11, .inl (fun _ => 0))), (q3, .inl (cI, 11, .inl (fun _ => 0))), (q4, .inl (cI, 11, .inl (fun _ => 0))), (q5, .inl (cI, 10, .inl (fun _ => 0))), (q6, .inl (cI, 154, .inl (fun _ => 0))), (q7, .inl (cI, 22, .inl (fun _ => 0))), (q8, .inl (cZ, 2, .inl (fun _ => 0))), (q9, .inl (cI, 6, .inl (fun _ => 0))), (q10, .inl (cI, 6, .inl (fun _ => 0))), (q11, .inl (cI, 5, .inl (fun _ => 0))), (q12, .inl (cI, 5, .inl (fun _ => 0))), (q13, .inl (cJ, 128, .inr (.inl (fun _ => 0)))), (q14, .inl (cI, 128, .inl (fun _ => 0)))] H := hP
  have hD : va_D A [(h0, .inr (9, [.ref q1, .int 0, .ref q2, .ref q3, .ref q4, .ref q5, .ref q6, .int 0, .int 0, .ref q7, .ref q8, .ref q9, .ref q10, .int 0, .long 0, .ref q11, .ref q12, .ref q13, .ref q14, .int 0, .null, .null, .int 0])), (q1, .inl (cI, 20, .inl (fun _ => 0))), (q2, .inl (cI, 11, .inl (fun _ => 0))), (q3, .inl (cI, 11, .inl (fun _ => 0))), (q4, .inl (cI, 11, .inl (fun _ => 0))), (q5, .inl (cI, 10, .inl (fun _ => 0))), (q6, .inl (cI, 154, .inl (fun _ => 0))), (q7, .inl (cI, 22, .inl (fun _ => 0))), (q8, .inl (cZ, 2, .inl (fun _ => 0))), (q9, .inl (cI, 6, .inl (fun _ => 0))), (q10, .inl (cI, 6, .inl (fun _ => 0))), (q11, .inl (cI, 5, .inl (fun _ => 0))), (q12, .inl (cI, 5, .inl (fun _ => 0))), (q13, .inl (cJ, 128, .inr (.inl (fun _ => 0)))), (q14, .inl (cI, 128, .inl (fun _ => 0)))] := hD
  refine lv_aload_n hx hb dX10_init_116 rfl (lv_at hl 0 rfl) ?_
  refine lv_bipush (v := 120) hx hb dX10_init_117 (by decide) ?_
  refine va_newa (atype := .int) (ty := .int) (N' := 120) (a0 := (120, .inl (fun _ => 0))) hx hb (hts (.arrayClass .int) (gW_at 65 (by decide +kernel))) rfl hK hP hD hS hA (fun cA => rfl) (by decide) (by decide) (by decide) (Nat.le_of_ble_eq_true rfl) (Nat.le_of_ble_eq_true rfl) dX10_init_119 (fun q15 cA H hK hP hD hS => ?_)
  have hcA : cA = cI := Option.some.inj ((hK.2 3 _ rfl).2.symm.trans (hK.2 0 _ rfl).2)
  rw [hcA] at hK hP hD
  have hK := hK.sub (tys' := [(cI, .int), (cJ, .long), (cZ, .boolean)]) [0, 1, 2] rfl
  have hP : va_P (dC, dI) vwCl [(h0, .inr (9, [.ref q1, .int 0, .ref q2, .ref q3, .ref q4, .ref q5, .ref q6, .int 0, .int 0, .ref q7, .ref q8, .ref q9, .ref q10, .int 0, .long 0, .ref q11, .ref q12, .ref q13, .ref q14, .int 0, .null, .null, .int 0])), (q1, .inl (cI, 20, .inl (fun _ => 0))), (q2, .inl (cI, 11, .inl (fun _ => 0))), (q3, .inl (cI, 11, .inl (fun _ => 0))), (q4, .inl (cI, 11, .inl (fun _ => 0))), (q5, .inl (cI, 10, .inl (fun _ => 0))), (q6, .inl (cI, 154, .inl (fun _ => 0))), (q7, .inl (cI, 22, .inl (fun _ => 0))), (q8, .inl (cZ, 2, .inl (fun _ => 0))), (q9, .inl (cI, 6, .inl (fun _ => 0))), (q10, .inl (cI, 6, .inl (fun _ => 0))), (q11, .inl (cI, 5, .inl (fun _ => 0))), (q12, .inl (cI, 5, .inl (fun _ => 0))), (q13, .inl (cJ, 128, .inr (.inl (fun _ => 0)))), (q14, .inl (cI, 128, .inl (fun _ => 0))), (q15, .inl (cI, 120, .inl (fun _ => 0)))] H := hP
  have hD : va_D A [(h0, .inr (9, [.ref q1, .int 0, .ref q2, .ref q3, .ref q4, .ref q5, .ref q6, .int 0, .int 0, .ref q7, .ref q8, .ref q9, .ref q10, .int 0, .long 0, .ref q11, .ref q12, .ref q13, .ref q14, .int 0, .null, .null, .int 0])), (q1, .inl (cI, 20, .inl (fun _ => 0))), (q2, .inl (cI, 11, .inl (fun _ => 0))), (q3, .inl (cI, 11, .inl (fun _ => 0))), (q4, .inl (cI, 11, .inl (fun _ => 0))), (q5, .inl (cI, 10, .inl (fun _ => 0))), (q6, .inl (cI, 154, .inl (fun _ => 0))), (q7, .inl (cI, 22, .inl (fun _ => 0))), (q8, .inl (cZ, 2, .inl (fun _ => 0))), (q9, .inl (cI, 6, .inl (fun _ => 0))), (q10, .inl (cI, 6, .inl (fun _ => 0))), (q11, .inl (cI, 5, .inl (fun _ => 0))), (q12, .inl (cI, 5, .inl (fun _ => 0))), (q13, .inl (cJ, 128, .inr (.inl (fun _ => 0)))), (q14, .inl (cI, 128, .inl (fun _ => 0))), (q15, .inl (cI, 120, .inl (fun _ => 0)))] := hD
  refine W.widen (k := 15) (n := 639) (Nat.le_of_ble_eq_true rfl) (Nat.le_of_ble_eq_true rfl) ?_
  refine va_putF (D := (dC, dI)) (ci := 9) (v := .ref q15) (ty := .array .int) (C := RX10) (T := TX10) (N := 23) hx hb hts uwX10 tyX10 tyX10_ok nmX10 hown hK hP hD hS 0 rfl rfl 20 (by decide) (hts (.fieldLink RX10 54 "SquareFoldsModel" "group" "[I") (gW_at 686 (by decide +kernel))) (fun _ h9 => h9) rfl hin rfl (by decide +kernel) rfl rfl (Nat.le_of_ble_eq_true rfl) dX10_init_121 (fun H locs hP hD hS => ?_)
  have hP : va_P (dC, dI) vwCl [(h0, .inr (9, [.ref q1, .int 0, .ref q2, .ref q3, .ref q4, .ref q5, .ref q6, .int 0, .int 0, .ref q7, .ref q8, .ref q9, .ref q10, .int 0, .long 0, .ref q11, .ref q12, .ref q13, .ref q14, .int 0, .ref q15, .null, .int 0])), (q1, .inl (cI, 20, .inl (fun _ => 0))), (q2, .inl (cI, 11, .inl (fun _ => 0))), (q3, .inl (cI, 11, .inl (fun _ => 0))), (q4, .inl (cI, 11, .inl (fun _ => 0))), (q5, .inl (cI, 10, .inl (fun _ => 0))), (q6, .inl (cI, 154, .inl (fun _ => 0))), (q7, .inl (cI, 22, .inl (fun _ => 0))), (q8, .inl (cZ, 2, .inl (fun _ => 0))), (q9, .inl (cI, 6, .inl (fun _ => 0))), (q10, .inl (cI, 6, .inl (fun _ => 0))), (q11, .inl (cI, 5, .inl (fun _ => 0))), (q12, .inl (cI, 5, .inl (fun _ => 0))), (q13, .inl (cJ, 128, .inr (.inl (fun _ => 0)))), (q14, .inl (cI, 128, .inl (fun _ => 0))), (q15, .inl (cI, 120, .inl (fun _ => 0)))] H := hP
  have hD : va_D A [(h0, .inr (9, [.ref q1, .int 0, .ref q2, .ref q3, .ref q4, .ref q5, .ref q6, .int 0, .int 0, .ref q7, .ref q8, .ref q9, .ref q10, .int 0, .long 0, .ref q11, .ref q12, .ref q13, .ref q14, .int 0, .ref q15, .null, .int 0])), (q1, .inl (cI, 20, .inl (fun _ => 0))), (q2, .inl (cI, 11, .inl (fun _ => 0))), (q3, .inl (cI, 11, .inl (fun _ => 0))), (q4, .inl (cI, 11, .inl (fun _ => 0))), (q5, .inl (cI, 10, .inl (fun _ => 0))), (q6, .inl (cI, 154, .inl (fun _ => 0))), (q7, .inl (cI, 22, .inl (fun _ => 0))), (q8, .inl (cZ, 2, .inl (fun _ => 0))), (q9, .inl (cI, 6, .inl (fun _ => 0))), (q10, .inl (cI, 6, .inl (fun _ => 0))), (q11, .inl (cI, 5, .inl (fun _ => 0))), (q12, .inl (cI, 5, .inl (fun _ => 0))), (q13, .inl (cJ, 128, .inr (.inl (fun _ => 0)))), (q14, .inl (cI, 128, .inl (fun _ => 0))), (q15, .inl (cI, 120, .inl (fun _ => 0)))] := hD
  refine lv_aload_n hx hb dX10_init_124 rfl (lv_at hl 0 rfl) ?_
  refine lv_bipush (v := 32) hx hb dX10_init_125 (by decide) ?_
  refine va_newa (atype := .int) (ty := .int) (N' := 32) (a0 := (32, .inl (fun _ => 0))) hx hb (hts (.arrayClass .int) (gW_at 65 (by decide +kernel))) rfl hK hP hD hS hA (fun cA => rfl) (by decide) (by decide) (by decide) (Nat.le_of_ble_eq_true rfl) (Nat.le_of_ble_eq_true rfl) dX10_init_127 (fun q16 cA H hK hP hD hS => ?_)
  have hcA : cA = cI := Option.some.inj ((hK.2 3 _ rfl).2.symm.trans (hK.2 0 _ rfl).2)
  rw [hcA] at hK hP hD
  have hK := hK.sub (tys' := [(cI, .int), (cJ, .long), (cZ, .boolean)]) [0, 1, 2] rfl
  have hP : va_P (dC, dI) vwCl [(h0, .inr (9, [.ref q1, .int 0, .ref q2, .ref q3, .ref q4, .ref q5, .ref q6, .int 0, .int 0, .ref q7, .ref q8, .ref q9, .ref q10, .int 0, .long 0, .ref q11, .ref q12, .ref q13, .ref q14, .int 0, .ref q15, .null, .int 0])), (q1, .inl (cI, 20, .inl (fun _ => 0))), (q2, .inl (cI, 11, .inl (fun _ => 0))), (q3, .inl (cI, 11, .inl (fun _ => 0))), (q4, .inl (cI, 11, .inl (fun _ => 0))), (q5, .inl (cI, 10, .inl (fun _ => 0))), (q6, .inl (cI, 154, .inl (fun _ => 0))), (q7, .inl (cI, 22, .inl (fun _ => 0))), (q8, .inl (cZ, 2, .inl (fun _ => 0))), (q9, .inl (cI, 6, .inl (fun _ => 0))), (q10, .inl (cI, 6, .inl (fun _ => 0))), (q11, .inl (cI, 5, .inl (fun _ => 0))), (q12, .inl (cI, 5, .inl (fun _ => 0))), (q13, .inl (cJ, 128, .inr (.inl (fun _ => 0)))), (q14, .inl (cI, 128, .inl (fun _ => 0))), (q15, .inl (cI, 120, .inl (fun _ => 0))), (q16, .inl (cI, 32, .inl (fun _ => 0)))] H := hP
  have hD : va_D A [(h0, .inr (9, [.ref q1, .int 0, .ref q2, .ref q3, .ref q4, .ref q5, .ref q6, .int 0, .int 0, .ref q7, .ref q8, .ref q9, .ref q10, .int 0, .long 0, .ref q11, .ref q12, .ref q13, .ref q14, .int 0, .ref q15, .null, .int 0])), (q1, .inl (cI, 20, .inl (fun _ => 0))), (q2, .inl (cI, 11, .inl (fun _ => 0))), (q3, .inl (cI, 11, .inl (fun _ => 0))), (q4, .inl (cI, 11, .inl (fun _ => 0))), (q5, .inl (cI, 10, .inl (fun _ => 0))), (q6, .inl (cI, 154, .inl (fun _ => 0))), (q7, .inl (cI, 22, .inl (fun _ => 0))), (q8, .inl (cZ, 2, .inl (fun _ => 0))), (q9, .inl (cI, 6, .inl (fun _ => 0))), (q10, .inl (cI, 6, .inl (fun _ => 0))), (q11, .inl (cI, 5, .inl (fun _ => 0))), (q12, .inl (cI, 5, .inl (fun _ => 0))), (q13, .inl (cJ, 128, .inr (.inl (fun _ => 0)))), (q14, .inl (cI, 128, .inl (fun _ => 0))), (q15, .inl (cI, 120, .inl (fun _ => 0))), (q16, .inl (cI, 32, .inl (fun _ => 0)))] := hD
  refine W.widen (k := 16) (n := 671) (Nat.le_of_ble_eq_true rfl) (Nat.le_of_ble_eq_true rfl) ?_
  refine va_putF (D := (dC, dI)) (ci := 9) (v := .ref q16) (ty := .array .int) (C := RX10) (T := TX10) (N := 23) hx hb hts uwX10 tyX10 tyX10_ok nmX10 hown hK hP hD hS 0 rfl rfl 21 (by decide) (hts (.fieldLink RX10 57 "SquareFoldsModel" "worth" "[I") (gW_at 687 (by decide +kernel))) (fun _ h9 => h9) rfl hin rfl (by decide +kernel) rfl rfl (Nat.le_of_ble_eq_true rfl) dX10_init_129 (fun H locs hP hD hS => ?_)
  have hP : va_P (dC, dI) vwCl [(h0, .inr (9, [.ref q1, .int 0, .ref q2, .ref q3, .ref q4, .ref q5, .ref q6, .int 0, .int 0, .ref q7, .ref q8, .ref q9, .ref q10, .int 0, .long 0, .ref q11, .ref q12, .ref q13, .ref q14, .int 0, .ref q15, .ref q16, .int 0])), (q1, .inl (cI, 20, .inl (fun _ => 0))), (q2, .inl (cI, 11, .inl (fun _ => 0))), (q3, .inl (cI, 11, .inl (fun _ => 0))), (q4, .inl (cI, 11, .inl (fun _ => 0))), (q5, .inl (cI, 10, .inl (fun _ => 0))), (q6, .inl (cI, 154, .inl (fun _ => 0))), (q7, .inl (cI, 22, .inl (fun _ => 0))), (q8, .inl (cZ, 2, .inl (fun _ => 0))), (q9, .inl (cI, 6, .inl (fun _ => 0))), (q10, .inl (cI, 6, .inl (fun _ => 0))), (q11, .inl (cI, 5, .inl (fun _ => 0))), (q12, .inl (cI, 5, .inl (fun _ => 0))), (q13, .inl (cJ, 128, .inr (.inl (fun _ => 0)))), (q14, .inl (cI, 128, .inl (fun _ => 0))), (q15, .inl (cI, 120, .inl (fun _ => 0))), (q16, .inl (cI, 32, .inl (fun _ => 0)))] H := hP
  have hD : va_D A [(h0, .inr (9, [.ref q1, .int 0, .ref q2, .ref q3, .ref q4, .ref q5, .ref q6, .int 0, .int 0, .ref q7, .ref q8, .ref q9, .ref q10, .int 0, .long 0, .ref q11, .ref q12, .ref q13, .ref q14, .int 0, .ref q15, .ref q16, .int 0])), (q1, .inl (cI, 20, .inl (fun _ => 0))), (q2, .inl (cI, 11, .inl (fun _ => 0))), (q3, .inl (cI, 11, .inl (fun _ => 0))), (q4, .inl (cI, 11, .inl (fun _ => 0))), (q5, .inl (cI, 10, .inl (fun _ => 0))), (q6, .inl (cI, 154, .inl (fun _ => 0))), (q7, .inl (cI, 22, .inl (fun _ => 0))), (q8, .inl (cZ, 2, .inl (fun _ => 0))), (q9, .inl (cI, 6, .inl (fun _ => 0))), (q10, .inl (cI, 6, .inl (fun _ => 0))), (q11, .inl (cI, 5, .inl (fun _ => 0))), (q12, .inl (cI, 5, .inl (fun _ => 0))), (q13, .inl (cJ, 128, .inr (.inl (fun _ => 0)))), (q14, .inl (cI, 128, .inl (fun _ => 0))), (q15, .inl (cI, 120, .inl (fun _ => 0))), (q16, .inl (cI, 32, .inl (fun _ => 0)))] := hD
  refine lv_aload_n hx hb dX10_init_132 rfl (lv_at hl 0 rfl) ?_
  refine va_get (D := (dC, dI)) (ci := 9) (v := .ref q2) (C := RX10) (T := TX10) (N := 23) hx hb hts uwX10 hown hK hP 0 rfl rfl 2 (by decide) (hts (.fieldLink RX10 13 "SquareFoldsModel" "now" "[I") (gW_at 668 (by decide +kernel))) (fun _ h9 => h9) rfl dX10_init_133 ?_
  refine lv_iconst (v := 0) hx hb dX10_init_136 (by decide) ?_
  refine lv_iconst (v := 1) hx hb dX10_init_137 (by decide) ?_
  refine va_iast hx hb hK hP hD hS 2 0 rfl rfl (i := 0) (x := 1) (by unfold vp_in; decide) dX10_init_138 (fun H locs hP hD hS => ?_)
  have hP : va_P (dC, dI) vwCl [(h0, .inr (9, [.ref q1, .int 0, .ref q2, .ref q3, .ref q4, .ref q5, .ref q6, .int 0, .int 0, .ref q7, .ref q8, .ref q9, .ref q10, .int 0, .long 0, .ref q11, .ref q12, .ref q13, .ref q14, .int 0, .ref q15, .ref q16, .int 0])), (q1, .inl (cI, 20, .inl (fun _ => 0))), (q2, .inl (cI, 11, .inl (upd (fun _ => 0) (Int32.toNatClampNeg 0) 1))), (q3, .inl (cI, 11, .inl (fun _ => 0))), (q4, .inl (cI, 11, .inl (fun _ => 0))), (q5, .inl (cI, 10, .inl (fun _ => 0))), (q6, .inl (cI, 154, .inl (fun _ => 0))), (q7, .inl (cI, 22, .inl (fun _ => 0))), (q8, .inl (cZ, 2, .inl (fun _ => 0))), (q9, .inl (cI, 6, .inl (fun _ => 0))), (q10, .inl (cI, 6, .inl (fun _ => 0))), (q11, .inl (cI, 5, .inl (fun _ => 0))), (q12, .inl (cI, 5, .inl (fun _ => 0))), (q13, .inl (cJ, 128, .inr (.inl (fun _ => 0)))), (q14, .inl (cI, 128, .inl (fun _ => 0))), (q15, .inl (cI, 120, .inl (fun _ => 0))), (q16, .inl (cI, 32, .inl (fun _ => 0)))] H := hP
  have hD : va_D A [(h0, .inr (9, [.ref q1, .int 0, .ref q2, .ref q3, .ref q4, .ref q5, .ref q6, .int 0, .int 0, .ref q7, .ref q8, .ref q9, .ref q10, .int 0, .long 0, .ref q11, .ref q12, .ref q13, .ref q14, .int 0, .ref q15, .ref q16, .int 0])), (q1, .inl (cI, 20, .inl (fun _ => 0))), (q2, .inl (cI, 11, .inl (upd (fun _ => 0) (Int32.toNatClampNeg 0) 1))), (q3, .inl (cI, 11, .inl (fun _ => 0))), (q4, .inl (cI, 11, .inl (fun _ => 0))), (q5, .inl (cI, 10, .inl (fun _ => 0))), (q6, .inl (cI, 154, .inl (fun _ => 0))), (q7, .inl (cI, 22, .inl (fun _ => 0))), (q8, .inl (cZ, 2, .inl (fun _ => 0))), (q9, .inl (cI, 6, .inl (fun _ => 0))), (q10, .inl (cI, 6, .inl (fun _ => 0))), (q11, .inl (cI, 5, .inl (fun _ => 0))), (q12, .inl (cI, 5, .inl (fun _ => 0))), (q13, .inl (cJ, 128, .inr (.inl (fun _ => 0)))), (q14, .inl (cI, 128, .inl (fun _ => 0))), (q15, .inl (cI, 120, .inl (fun _ => 0))), (q16, .inl (cI, 32, .inl (fun _ => 0)))] := hD
  have hP9 := hP.sub (ws' := [(h0, .inr (9, [.ref q1, .int 0, .ref q2, .ref q3, .ref q4, .ref q5, .ref q6, .int 0, .int 0, .ref q7, .ref q8, .ref q9, .ref q10, .int 0, .long 0, .ref q11, .ref q12, .ref q13, .ref q14, .int 0, .ref q15, .ref q16, .int 0])), (q1, .inl (cI, 20, .inl (fun _ => 0))), (q2, .inl (cI, 11, .inl (upd (fun _ => 0) (Int32.toNatClampNeg 0) 1))), (q3, .inl (cI, 11, .inl (fun _ => 0))), (q4, .inl (cI, 11, .inl (fun _ => 0))), (q5, .inl (cI, 10, .inl (fun _ => 0))), (q6, .inl (cI, 154, .inl (fun _ => 0))), (q7, .inl (cI, 22, .inl (fun _ => 0))), (q8, .inl (cZ, 2, .inl (fun _ => 0))), (q9, .inl (cI, 6, .inl (fun _ => 0))), (q10, .inl (cI, 6, .inl (fun _ => 0))), (q11, .inl (cI, 5, .inl (fun _ => 0))), (q12, .inl (cI, 5, .inl (fun _ => 0))), (q13, .inl (cJ, 128, .inr (.inl (fun _ => 0)))), (q14, .inl (cI, 128, .inl (fun _ => 0))), (q15, .inl (cI, 120, .inl (fun _ => 0))), (q16, .inl (cI, 32, .inl (fun _ => 0)))]) [0, 1, 2, 3, 4, 5, 6, 7, 8, 9, 10, 11, 12, 13, 14, 15, 16] rfl
  have hD9 := hD.sub (ws' := [(h0, .inr (9, [.ref q1, .int 0, .ref q2, .ref q3, .ref q4, .ref q5, .ref q6, .int 0, .int 0, .ref q7, .ref q8, .ref q9, .ref q10, .int 0, .long 0, .ref q11, .ref q12, .ref q13, .ref q14, .int 0, .ref q15, .ref q16, .int 0])), (q1, .inl (cI, 20, .inl (fun _ => 0))), (q2, .inl (cI, 11, .inl (upd (fun _ => 0) (Int32.toNatClampNeg 0) 1))), (q3, .inl (cI, 11, .inl (fun _ => 0))), (q4, .inl (cI, 11, .inl (fun _ => 0))), (q5, .inl (cI, 10, .inl (fun _ => 0))), (q6, .inl (cI, 154, .inl (fun _ => 0))), (q7, .inl (cI, 22, .inl (fun _ => 0))), (q8, .inl (cZ, 2, .inl (fun _ => 0))), (q9, .inl (cI, 6, .inl (fun _ => 0))), (q10, .inl (cI, 6, .inl (fun _ => 0))), (q11, .inl (cI, 5, .inl (fun _ => 0))), (q12, .inl (cI, 5, .inl (fun _ => 0))), (q13, .inl (cJ, 128, .inr (.inl (fun _ => 0)))), (q14, .inl (cI, 128, .inl (fun _ => 0))), (q15, .inl (cI, 120, .inl (fun _ => 0))), (q16, .inl (cI, 32, .inl (fun _ => 0)))]) [0, 1, 2, 3, 4, 5, 6, 7, 8, 9, 10, 11, 12, 13, 14, 15, 16] (by decide) rfl
  exact W.vret hx hb hr (fun t ht hW => ⟨⟨(), rfl, trivial, q1, q2, q3, q4, q5, q6, q7, q8, q9, q10, q11, q12, q13, q14, q15, q16, by rw [ht]; exact hP9, va_K.moved hW.alike hK, hD9⟩, hS.F ht⟩) hS.2.2 dX10_init_139
