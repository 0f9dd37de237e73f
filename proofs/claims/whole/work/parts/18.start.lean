def Hini : Hp := [.inr (8, [.ref 1, .ref 3, .ref 4, .ref 5, .ref 8, .ref 11, .ref 14, .ref 19, .ref 21, .long 0]), .inr (3, [.ref 2, .int 0]), .inl (0, 20, .inl (fun _ => 0)), .inr (2, [.int 1, .int 0, .int 0]), .inr (2, [.int 1, .int 0, .int 0]), .inr (5, [.ref 6, .ref 7, .int 0]), .inl (0, 14, .inl (fun _ => 0)), .inl (0, 14, .inl (fun _ => 0)), .inr (7, [.ref 9, .ref 10, .int 0]), .inl (0, 2, .inl (fun _ => 0)), .inl (0, 2, .inl (fun _ => 0)), .inr (6, [.ref 12, .ref 13, .int 0]), .inl (0, 6, .inl (fun _ => 0)), .inl (0, 6, .inl (fun _ => 0)), .inr (4, [.ref 15, .ref 17, .ref 18]), .inr (0, [.ref 16, .int 0]), .inl (1, 128, .inr (.inl (fun _ => 0))), .inl (0, 128, .inl (fun _ => 0)), .inr (2, [.int 1, .int 0, .int 0]), .inr (0, [.ref 20, .int 0]), .inl (1, 128, .inr (.inl (fun _ => 0))), .inr (1, [.int 0, .int 1]), .inr (9, [.ref 23, .int 0, .ref 24, .ref 25, .ref 26, .ref 27, .ref 28, .int 0, .int 0, .ref 29, .ref 30, .ref 31, .ref 32, .int 0, .long 0, .ref 33, .ref 34, .ref 35, .ref 36, .int 0, .ref 37, .ref 38, .int 0]), .inl (0, 20, .inl (fun _ => 0)), .inl (0, 11, .inl (upd (fun _ => 0) (Int32.toNatClampNeg 0) 1)), .inl (0, 11, .inl (fun _ => 0)), .inl (0, 11, .inl (fun _ => 0)), .inl (0, 10, .inl (fun _ => 0)), .inl (0, 154, .inl (fun _ => 0)), .inl (0, 22, .inl (fun _ => 0)), .inl (2, 2, .inl (fun _ => 0)), .inl (0, 6, .inl (fun _ => 0)), .inl (0, 6, .inl (fun _ => 0)), .inl (0, 5, .inl (fun _ => 0)), .inl (0, 5, .inl (fun _ => 0)), .inl (1, 128, .inr (.inl (fun _ => 0))), .inl (0, 128, .inl (fun _ => 0)), .inl (0, 120, .inl (fun _ => 0)), .inl (0, 32, .inl (fun _ => 0))]
def cwl (G : GG) : Nat → Hp → va_W
  | _, [] => []
  | i, e :: H => (G.2.1 i, ce G e) :: cwl G (i + 1) H
theorem cwl_at (G : GG) : ∀ (H : Hp) (i k : Nat), (cwl G i H)[k]? = (H[k]?).map (fun e => (G.2.1 (i + k), ce G e))
  | [], i, k => by simp [cwl]
  | e :: H, i, 0 => by simp [cwl]
  | e :: H, i, k + 1 => by
    simp only [cwl, List.getElem?_cons_succ]
    rw [cwl_at G H (i + 1) k, show i + 1 + k = i + (k + 1) by omega]
theorem cw_cwl (G : GG) (H : Hp) : cw G H = cwl G 0 H := by
  apply List.ext_getElem?
  intro k
  rw [cwl_at, Nat.zero_add]
  simp [cw, List.getElem?_mapIdx]
theorem Hini_len : Hini.length = 39 := rfl
theorem start_fin (pure : ∀ G : GG, G.2.2.2.1 ≤ 2048 → ∃ H', fL_law_18 G 4096 0 Hini = some (1, H')) {p : Program} {l : Launch} {e : Env} {s : State} {m : MethodId} {below : List Frame} {meth : Method} {c : Code} {b L : Nat} {xs : Nat → Int32} {G : GG} {H : Heap} {locs : List Loc} {ls : Array Slot} (hL : L ≤ 2048) (C0 : lw_At p s m meth c b L xs) (hP : va_P G.1 vwCl (cw G Hini) H) (hD : va_D (fun q : Nat => s.heap.size ≤ q) (cw G Hini)) (hGL : G.2.2.2.1 = L) (hEv : Ev G (fun q : Nat => s.heap.size ≤ q) s) (hS : va_S (fun q : Nat => s.heap.size ≤ q) s.heap H locs) (hl : lv_has ls 4 [(3, .int 0), (2, .ref (G.2.1 22)), (1, .ref (G.2.1 0)), (0, .ref (G.2.1 1001))]) : W p l e room_1 s m #[Value.ref b] below meth c H locs 39 1181 (lw_Z below #[Value.ref b] s) (F0 m 18 ls []) := by
  obtain ⟨hx, hb, hr, hml, hown, htl, hX, hbl, hlocks, hgv⟩ := id C0
  have hts : ∀ w ∈ gW, w.before #[Value.ref b] s = true := fun w hw => htl w (List.mem_filter.mp hw).1
  have hidx : ∀ i, i < 39 → ∃ e, (cw G Hini)[i]? = some (G.2.1 i, e) := by
    intro i hi
    have h1 : i < Hini.length := by rw [Hini_len]; exact hi
    exact ⟨_, cw_get (List.getElem?_eq_getElem h1)⟩
  have hinj : aInj G := by
    intro i j hi hj he
    obtain ⟨e1, h1⟩ := hidx i hi
    obtain ⟨e2, h2⟩ := hidx j hj
    exact hD.1 i j _ _ h1 h2 he
  have hAA : ∀ q, aA G q → s.heap.size ≤ q := by
    rintro q ⟨k, hk, rfl⟩
    obtain ⟨e1, h1⟩ := hidx k hk
    exact hD.2 k _ h1
  obtain ⟨H', hf⟩ := pure G (by rw [hGL]; exact hL)
  have hsn := tfL_law_18 (G := G) 4096 hf
  refine hsn p l e room_1 s m #[Value.ref b] below meth c H locs ls ⟨hx, hb, hml, hr, hlocks, hown, hts, hEv, hAA, Nat.le_of_ble_eq_true rfl, Nat.le_of_ble_eq_true rfl, Nat.le_of_ble_eq_true rfl, Nat.le_of_ble_eq_true rfl, hinj, rfl, b, rfl⟩ hP Hini_len hS ?_ rfl
  exact lv_sub hl [3, 2, 1, 0] rfl
theorem dL_law_0 : decode cL_law 0 = .ok (.new 7, 3) := by decide +kernel
theorem dL_law_3 : decode cL_law 3 = .ok (.dup, 1) := by decide +kernel
theorem dL_law_4 : decode cL_law 4 = .ok (.invokespecial 9, 3) := by decide +kernel
theorem dL_law_7 : decode cL_law 7 = .ok (.astore_n 1, 1) := by decide +kernel
theorem dL_law_8 : decode cL_law 8 = .ok (.new 10, 3) := by decide +kernel
theorem dL_law_11 : decode cL_law 11 = .ok (.dup, 1) := by decide +kernel
theorem dL_law_12 : decode cL_law 12 = .ok (.invokespecial 12, 3) := by decide +kernel
theorem dL_law_15 : decode cL_law 15 = .ok (.astore_n 2, 1) := by decide +kernel
theorem dL_law_16 : decode cL_law 16 = .ok (.iconst 0, 1) := by decide +kernel
theorem dL_law_17 : decode cL_law 17 = .ok (.istore_n 3, 1) := by decide +kernel
set_option maxHeartbeats 4000000 in
set_option maxRecDepth 100000 in
/-- from the entry, if the printed function of the loop says 1 on the first heap -/
theorem start_of (pure : ∀ G : GG, G.2.2.2.1 ≤ 2048 → ∃ H', fL_law_18 G 4096 0 Hini = some (1, H')) {p : Program} {e : Env} {s : State} {m : MethodId} {below : List Frame} {meth : Method} {c : Code} (l : Launch) {b L : Nat} {xs : Nat → Int32} (hL : L ≤ 2048) (C0 : lw_At p s m meth c b L xs) : W p l e room_1 s m #[Value.ref b] below meth c s.heap [] 0 0 (lw_Z below #[Value.ref b] s) (entryFrame m ([Value.ref b] : List Value).toArray 4) := by
  obtain ⟨hx, hb, hr, hml, hown, htl, hX, hbl, hlocks, hgv⟩ := id C0
  have hts : ∀ w ∈ gW, w.before #[Value.ref b] s = true := fun w hw => htl w (List.mem_filter.mp hw).1
  have hN : ∀ w ∈ nW, va_Nw w s := fun w hw => va_Nw.of (nW_on hw) (htl w (List.mem_filter.mp hw).1)
  have hA : ∀ q : Nat, s.heap.size ≤ q → (fun q : Nat => s.heap.size ≤ q) q := fun _ h => h
  have hbA : ¬ (fun q : Nat => s.heap.size ≤ q) b := Nat.not_le.mpr hbl
  have hnA : ∀ a : Nat, a < s.heap.size → ¬ (fun q : Nat => s.heap.size ≤ q) a := fun a h => Nat.not_le.mpr h
  obtain ⟨c0, iS0, hKn0⟩ := u_known (C := RX0) (T := TX0) (N := 2) (n := 2) hts uwX0 (hts (.instantiable RX0 2) (gW_at 142 (by decide +kernel)))
  obtain ⟨c1, iS1, hKn1⟩ := u_known (C := RX1) (T := TX1) (N := 2) (n := 2) hts uwX1 (hts (.instantiable RX1 2) (gW_at 173 (by decide +kernel)))
  obtain ⟨c2, iS2, hKn2⟩ := u_known (C := RX2) (T := TX2) (N := 3) (n := 3) hts uwX2 (hts (.instantiable RX2 3) (gW_at 67 (by decide +kernel)))
  obtain ⟨c3, iS3, hKn3⟩ := u_known (C := RX3) (T := TX3) (N := 2) (n := 2) hts uwX3 (hts (.instantiable RX3 2) (gW_at 52 (by decide +kernel)))
  obtain ⟨c4, iS4, hKn4⟩ := u_known (C := RX4) (T := TX4) (N := 3) (n := 3) hts uwX4 (hts (.instantiable RX4 3) (gW_at 136 (by decide +kernel)))
  obtain ⟨c5, iS5, hKn5⟩ := u_known (C := RX5) (T := TX5) (N := 3) (n := 3) hts uwX5 (hts (.instantiable RX5 3) (gW_at 86 (by decide +kernel)))
  obtain ⟨c6, iS6, hKn6⟩ := u_known (C := RX7) (T := TX7) (N := 3) (n := 3) hts uwX7 (hts (.instantiable RX7 3) (gW_at 119 (by decide +kernel)))
  obtain ⟨c7, iS7, hKn7⟩ := u_known (C := RX8) (T := TX8) (N := 3) (n := 3) hts uwX8 (hts (.instantiable RX8 3) (gW_at 103 (by decide +kernel)))
  obtain ⟨c8, iS8, hKn8⟩ := u_known (C := RX9) (T := TX9) (N := 10) (n := 10) hts uwX9 (hts (.instantiable RX9 10) (gW_at 44 (by decide +kernel)))
  obtain ⟨c9, iS9, hKn9⟩ := u_known (C := RX10) (T := TX10) (N := 23) (n := 23) hts uwX10 (hts (.instantiable RX10 23) (gW_at 661 (by decide +kernel)))
  obtain ⟨dC, dI, hKc⟩ : ∃ (dC : Nat → ClassId) (dI : Nat → Nat → Nat), ∀ (k : Nat) (q : vw_C), vwCl[k]? = some q → u_Kn s q.1 q.2.1 q.2.2 (dC k) (dI k) := by
    refine ⟨fun k => if k = 0 then c0 else if k = 1 then c1 else if k = 2 then c2 else if k = 3 then c3 else if k = 4 then c4 else if k = 5 then c5 else if k = 6 then c6 else if k = 7 then c7 else if k = 8 then c8 else c9, fun k => if k = 0 then iS0 else if k = 1 then iS1 else if k = 2 then iS2 else if k = 3 then iS3 else if k = 4 then iS4 else if k = 5 then iS5 else if k = 6 then iS6 else if k = 7 then iS7 else if k = 8 then iS8 else iS9, ?_⟩
    intro k q hq
    match k, hq with
    | 0, hq => cases hq; exact hKn0
    | 1, hq => cases hq; exact hKn1
    | 2, hq => cases hq; exact hKn2
    | 3, hq => cases hq; exact hKn3
    | 4, hq => cases hq; exact hKn4
    | 5, hq => cases hq; exact hKn5
    | 6, hq => cases hq; exact hKn6
    | 7, hq => cases hq; exact hKn7
    | 8, hq => cases hq; exact hKn8
    | 9, hq => cases hq; exact hKn9
    | k + 10, hq => simp [vwCl] at hq
  obtain ⟨cI, kcI, mcI, fcI, gcI, jcI⟩ := Cond.arrayClass_spec (hts (.arrayClass .int) (gW_at 65 (by decide +kernel)))
  obtain ⟨cJ, kcJ, mcJ, fcJ, gcJ, jcJ⟩ := Cond.arrayClass_spec (hts (.arrayClass .long) (gW_at 156 (by decide +kernel)))
  obtain ⟨cZ, kcZ, mcZ, fcZ, gcZ, jcZ⟩ := Cond.arrayClass_spec (hts (.arrayClass .boolean) (gW_at 736 (by decide +kernel)))
  have hK : va_K (dC, dI) vwCl [(cI, .int), (cJ, .long), (cZ, .boolean)] s := by
    refine ⟨hKc, fun k q h => ?_⟩
    match k, h with
    | 0, h => cases h; exact ⟨fun n z => ⟨fun k h => (by cases h), kcI, gcI, mcI, jcI⟩, fcI⟩
    | 1, h => cases h; exact ⟨fun n z => ⟨fun k h => (by cases h), kcJ, gcJ, mcJ, jcJ⟩, fcJ⟩
    | 2, h => cases h; exact ⟨fun n z => ⟨fun k h => (by cases h), kcZ, gcZ, mcZ, jcZ⟩, fcZ⟩
    | k + 3, h => simp at h
  have hg := flat_of_before _ hgv
  obtain ⟨oa, hoa, hT⟩ := va_Tof (tm := (Term.static "SquareFolds$Gluing" "ORDERS" "[I")) (ty := .int) (N := 6) (f := fun k => .int (ordf k)) (A := fun q : Nat => s.heap.size ≤ q) (args := #[Value.ref b]) (s := s) (by decide) (hg (.arrayOf (Term.static "SquareFolds$Gluing" "ORDERS" "[I") .int) (by decide +kernel)) (va_eqt (hg (.eq (.length (Term.static "SquareFolds$Gluing" "ORDERS" "[I")) (.int 6)) (by decide +kernel))) (fun j hj => by
    rcases (show j = 0 ∨ j = 1 ∨ j = 2 ∨ j = 3 ∨ j = 4 ∨ j = 5 by omega) with rfl | rfl | rfl | rfl | rfl | rfl
    · exact va_eqt (hg (.eq (.elem (Term.static "SquareFolds$Gluing" "ORDERS" "[I") (.int 0)) (.int 1)) (by decide +kernel))
    · exact va_eqt (hg (.eq (.elem (Term.static "SquareFolds$Gluing" "ORDERS" "[I") (.int 1)) (.int 1)) (by decide +kernel))
    · exact va_eqt (hg (.eq (.elem (Term.static "SquareFolds$Gluing" "ORDERS" "[I") (.int 2)) (.int 2)) (by decide +kernel))
    · exact va_eqt (hg (.eq (.elem (Term.static "SquareFolds$Gluing" "ORDERS" "[I") (.int 3)) (.int 6)) (by decide +kernel))
    · exact va_eqt (hg (.eq (.elem (Term.static "SquareFolds$Gluing" "ORDERS" "[I") (.int 4)) (.int 24)) (by decide +kernel))
    · exact va_eqt (hg (.eq (.elem (Term.static "SquareFolds$Gluing" "ORDERS" "[I") (.int 5)) (.int 120)) (by decide +kernel))) hnA
  have hZ := va_Zof (A := fun q : Nat => s.heap.size ≤ q) (htl (.laysStatic "SquareFolds$Gluing" "ORDERS" "[I") (List.mem_of_getElem? (i := 550) (by decide +kernel))) (hts (.initialized "SquareFolds$Gluing") (gW_at 31 (by decide +kernel))) hoa hnA
  have hS : va_S (fun q : Nat => s.heap.size ≤ q) s.heap s.heap [] := va_S.rf
  have hP : va_P (dC, dI) vwCl [] s.heap := fun k q h => by simp at h
  have hD : va_D (fun q : Nat => s.heap.size ≤ q) [] := ⟨fun i j p q h => by simp at h, fun k q h => by simp at h⟩
  have hl := lv_entry ([.ref b]) (n := 4) (Nat.le_of_ble_eq_true rfl)
  rw [lg_entry_eq]
  generalize (lg_sl ([.ref b]) ++ List.replicate (4 - (lg_sl ([.ref b])).length) Slot.unset).toArray = ls at hl ⊢
  have hl : lv_has ls 4 [(0, .ref b)] := hl
  refine va_new (ci := 8) (fs := [.null, .null, .null, .null, .null, .null, .null, .null, .null, .long 0]) (C := RX9) (T := TX9) (N := 10) hx hb hts uwX9 tyX9 tyX9_ok hown (hts (.classLink RL 7 RX9) (gW_at 43 (by decide +kernel))) (hts (.instantiable RX9 10) (gW_at 44 (by decide +kernel))) (hts (.initialized RX9) (gW_at 29 (by decide +kernel))) hK hP hD hS hA rfl (fun j hj => by rcases (show j = 0 ∨ j = 1 ∨ j = 2 ∨ j = 3 ∨ j = 4 ∨ j = 5 ∨ j = 6 ∨ j = 7 ∨ j = 8 ∨ j = 9 by omega) with rfl | rfl | rfl | rfl | rfl | rfl | rfl | rfl | rfl | rfl <;> rfl) (Nat.le_of_ble_eq_true rfl) (Nat.le_of_ble_eq_true rfl) dL_law_0 (fun q0 H hP hD hS => ?_)
  have hP : va_P (dC, dI) vwCl [(q0, .inr (8, [.null, .null, .null, .null, .null, .null, .null, .null, .null, .long 0]))] H := hP
  have hD : va_D (fun q : Nat => s.heap.size ≤ q) [(q0, .inr (8, [.null, .null, .null, .null, .null, .null, .null, .null, .null, .long 0]))] := hD
  refine W.widen (k := 1) (n := 10) (Nat.le_of_ble_eq_true rfl) (Nat.le_of_ble_eq_true rfl) ?_
  refine lv_dup hx hb dL_law_3 rfl ?_
  have hPc := hP.sub (ws' := [(q0, .inr (8, [.null, .null, .null, .null, .null, .null, .null, .null, .null, .long 0]))]) [0] rfl
  have hDc := hD.sub (ws' := [(q0, .inr (8, [.null, .null, .null, .null, .null, .null, .null, .null, .null, .long 0]))]) [0] (by decide) rfl
  have hFc := va_free (wc := [(q0, .inr (8, [.null, .null, .null, .null, .null, .null, .null, .null, .null, .long 0]))]) hD hS hA [0] rfl
  refine va_callv (va_runI (As := []) (rest := [.ref q0]) ⟨hx, hb, hml, hown, hts⟩ (ctX9_init l dC dI cI cJ cZ q0 H.size) ⟨callB_of 0 hts (gGood mX9_init (gW_at 47 (by decide +kernel))) rfl rfl rfl (hts (.initialized RX9) (gW_at 29 (by decide +kernel))) (hts (.methodLink RL 9 yX9_init) (gW_at 45 (by decide +kernel))) (by decide +kernel) ⟨Nat.le_of_ble_eq_true rfl, Nat.le_of_ble_eq_true rfl⟩, rfl, hts (.instanceMethod yX9_init) (gW_at 46 (by decide +kernel))⟩ ⟨pc_blind' dC dI cI cJ cZ _ _ _, fun U hU hW => ⟨rfl, by rw [hU], by rw [hU]; exact hPc, va_K.moved hW.alike hK, hDc.weaken (fun _ _ _ _ => trivial), nW_warm hW hN⟩⟩ rfl rfl hl.1 rfl (lv_room (Nat.le_of_ble_eq_true rfl)) dL_law_4 ⟨Nat.le_of_ble_eq_true rfl, Nat.le_of_ble_eq_true rfl⟩) hS (fun q _ h => hFc q h) hFc (fun u t H1 locs ht hvm hw hB hz1 hk1 hS => ?_)
  obtain ⟨q1, q2, q3, q4, q5, q6, q7, q8, q9, q10, q11, q12, q13, q14, q15, q16, q17, q18, q19, q20, q21, hP1, hK1, hD1⟩ := hB
  rw [ht] at hP1
  obtain ⟨hP, hD⟩ := va_join (wr := []) (w1 := [(q0, .inr (8, [.ref q1, .ref q3, .ref q4, .ref q5, .ref q8, .ref q11, .ref q14, .ref q19, .ref q21, .long 0])), (q1, .inr (3, [.ref q2, .int 0])), (q2, .inl (cI, 20, .inl (fun _ => 0))), (q3, .inr (2, [.int 1, .int 0, .int 0])), (q4, .inr (2, [.int 1, .int 0, .int 0])), (q5, .inr (5, [.ref q6, .ref q7, .int 0])), (q6, .inl (cI, 14, .inl (fun _ => 0))), (q7, .inl (cI, 14, .inl (fun _ => 0))), (q8, .inr (7, [.ref q9, .ref q10, .int 0])), (q9, .inl (cI, 2, .inl (fun _ => 0))), (q10, .inl (cI, 2, .inl (fun _ => 0))), (q11, .inr (6, [.ref q12, .ref q13, .int 0])), (q12, .inl (cI, 6, .inl (fun _ => 0))), (q13, .inl (cI, 6, .inl (fun _ => 0))), (q14, .inr (4, [.ref q15, .ref q17, .ref q18])), (q15, .inr (0, [.ref q16, .int 0])), (q16, .inl (cJ, 128, .inr (.inl (fun _ => 0)))), (q17, .inl (cI, 128, .inl (fun _ => 0))), (q18, .inr (2, [.int 1, .int 0, .int 0])), (q19, .inr (0, [.ref q20, .int 0])), (q20, .inl (cJ, 128, .inr (.inl (fun _ => 0)))), (q21, .inr (1, [.int 0, .int 1]))]) hP hD [0] [] rfl rfl (by decide) (by decide) hk1 hFc hP1 hD1
  generalize H1 = H at hP hS ⊢
  have hP : va_P (dC, dI) vwCl [(q0, .inr (8, [.ref q1, .ref q3, .ref q4, .ref q5, .ref q8, .ref q11, .ref q14, .ref q19, .ref q21, .long 0])), (q1, .inr (3, [.ref q2, .int 0])), (q2, .inl (cI, 20, .inl (fun _ => 0))), (q3, .inr (2, [.int 1, .int 0, .int 0])), (q4, .inr (2, [.int 1, .int 0, .int 0])), (q5, .inr (5, [.ref q6, .ref q7, .int 0])), (q6, .inl (cI, 14, .inl (fun _ => 0))), (q7, .inl (cI, 14, .inl (fun _ => 0))), (q8, .inr (7, [.ref q9, .ref q10, .int 0])), (q9, .inl (cI, 2, .inl (fun _ => 0))), (q10, .inl (cI, 2, .inl (fun _ => 0))), (q11, .inr (6, [.ref q12, .ref q13, .int 0])), (q12, .inl (cI, 6, .inl (fun _ => 0))), (q13, .inl (cI, 6, .inl (fun _ => 0))), (q14, .inr (4, [.ref q15, .ref q17, .ref q18])), (q15, .inr (0, [.ref q16, .int 0])), (q16, .inl (cJ, 128, .inr (.inl (fun _ => 0)))), (q17, .inl (cI, 128, .inl (fun _ => 0))), (q18, .inr (2, [.int 1, .int 0, .int 0])), (q19, .inr (0, [.ref q20, .int 0])), (q20, .inl (cJ, 128, .inr (.inl (fun _ => 0)))), (q21, .inr (1, [.int 0, .int 1]))] H := hP
  have hD : va_D (fun q : Nat => s.heap.size ≤ q) [(q0, .inr (8, [.ref q1, .ref q3, .ref q4, .ref q5, .ref q8, .ref q11, .ref q14, .ref q19, .ref q21, .long 0])), (q1, .inr (3, [.ref q2, .int 0])), (q2, .inl (cI, 20, .inl (fun _ => 0))), (q3, .inr (2, [.int 1, .int 0, .int 0])), (q4, .inr (2, [.int 1, .int 0, .int 0])), (q5, .inr (5, [.ref q6, .ref q7, .int 0])), (q6, .inl (cI, 14, .inl (fun _ => 0))), (q7, .inl (cI, 14, .inl (fun _ => 0))), (q8, .inr (7, [.ref q9, .ref q10, .int 0])), (q9, .inl (cI, 2, .inl (fun _ => 0))), (q10, .inl (cI, 2, .inl (fun _ => 0))), (q11, .inr (6, [.ref q12, .ref q13, .int 0])), (q12, .inl (cI, 6, .inl (fun _ => 0))), (q13, .inl (cI, 6, .inl (fun _ => 0))), (q14, .inr (4, [.ref q15, .ref q17, .ref q18])), (q15, .inr (0, [.ref q16, .int 0])), (q16, .inl (cJ, 128, .inr (.inl (fun _ => 0)))), (q17, .inl (cI, 128, .inl (fun _ => 0))), (q18, .inr (2, [.int 1, .int 0, .int 0])), (q19, .inr (0, [.ref q20, .int 0])), (q20, .inl (cJ, 128, .inr (.inl (fun _ => 0)))), (q21, .inr (1, [.int 0, .int 1]))] := hD
  refine W.widen (k := 22) (n := 487) (Nat.le_of_ble_eq_true rfl) (Nat.le_of_ble_eq_true rfl) ?_
  refine lv_astore_n (lv' := [(1, .ref q0), (0, .ref b)]) hx hb dL_law_7 rfl hl (by decide) rfl (fun ls hl => ?_)
  refine va_new (ci := 9) (fs := [.null, .int 0, .null, .null, .null, .null, .null, .int 0, .int 0, .null, .null, .null, .null, .int 0, .long 0, .null, .null, .null, .null, .int 0, .null, .null, .int 0]) (C := RX10) (T := TX10) (N := 23) hx hb hts uwX10 tyX10 tyX10_ok hown (hts (.classLink RL 10 RX10) (gW_at 660 (by decide +kernel))) (hts (.instantiable RX10 23) (gW_at 661 (by decide +kernel))) (hts (.initialized RX10) (gW_at 38 (by decide +kernel))) hK hP hD hS hA rfl (fun j hj => by rcases (show j = 0 ∨ j = 1 ∨ j = 2 ∨ j = 3 ∨ j = 4 ∨ j = 5 ∨ j = 6 ∨ j = 7 ∨ j = 8 ∨ j = 9 ∨ j = 10 ∨ j = 11 ∨ j = 12 ∨ j = 13 ∨ j = 14 ∨ j = 15 ∨ j = 16 ∨ j = 17 ∨ j = 18 ∨ j = 19 ∨ j = 20 ∨ j = 21 ∨ j = 22 by omega) with rfl | rfl | rfl | rfl | rfl | rfl | rfl | rfl | rfl | rfl | rfl | rfl | rfl | rfl | rfl | rfl | rfl | rfl | rfl | rfl | rfl | rfl | rfl <;> rfl) (Nat.le_of_ble_eq_true rfl) (Nat.le_of_ble_eq_true rfl) dL_law_8 (fun q22 H hP hD hS => ?_)
  have hP : va_P (dC, dI) vwCl [(q0, .inr (8, [.ref q1, .ref q3, .ref q4, .ref q5, .ref q8, .ref q11, .ref q14, .ref q19, .ref q21, .long 0])), (q1, .inr (3, [.ref q2, .int 0])), (q2, .inl (cI, 20, .inl (fun _ => 0))), (q3, .inr (2, [.int 1, .int 0, .int 0])), (q4, .inr (2, [.int 1, .int 0, .int 0])), (q5, .inr (5, [.ref q6, .ref q7, .int 0])), (q6, .inl (cI, 14, .inl (fun _ => 0))), (q7, .inl (cI, 14, .inl (fun _ => 0))), (q8, .inr (7, [.ref q9, .ref q10, .int 0])), (q9, .inl (cI, 2, .inl (fun _ => 0))), (q10, .inl (cI, 2, .inl (fun _ => 0))), (q11, .inr (6, [.ref q12, .ref q13, .int 0])), (q12, .inl (cI, 6, .inl (fun _ => 0))), (q13, .inl (cI, 6, .inl (fun _ => 0))), (q14, .inr (4, [.ref q15, .ref q17, .ref q18])), (q15, .inr (0, [.ref q16, .int 0])), (q16, .inl (cJ, 128, .inr (.inl (fun _ => 0)))), (q17, .inl (cI, 128, .inl (fun _ => 0))), (q18, .inr (2, [.int 1, .int 0, .int 0])), (q19, .inr (0, [.ref q20, .int 0])), (q20, .inl (cJ, 128, .inr (.inl (fun _ => 0)))), (q21, .inr (1, [.int 0, .int 1])), (q22, .inr (9, [.null, .int 0, .null, .null, .null, .null, .null, .int 0, .int 0, .null, .null, .null, .null, .int 0, .long 0, .null, .null, .null, .null, .int 0, .null, .null, .int 0]))] H := hP
  have hD : va_D (fun q : Nat => s.heap.size ≤ q) [(q0, .inr (8, [.ref q1, .ref q3, .ref q4, .ref q5, .ref q8, .ref q11, .ref q14, .ref q19, .ref q21, .long 0])), (q1, .inr (3, [.ref q2, .int 0])), (q2, .inl (cI, 20, .inl (fun _ => 0))), (q3, .inr (2, [.int 1, .int 0, .int 0])), (q4, .inr (2, [.int 1, .int 0, .int 0])), (q5, .inr (5, [.ref q6, .ref q7, .int 0])), (q6, .inl (cI, 14, .inl (fun _ => 0))), (q7, .inl (cI, 14, .inl (fun _ => 0))), (q8, .inr (7, [.ref q9, .ref q10, .int 0])), (q9, .inl (cI, 2, .inl (fun _ => 0))), (q10, .inl (cI, 2, .inl (fun _ => 0))), (q11, .inr (6, [.ref q12, .ref q13, .int 0])), (q12, .inl (cI, 6, .inl (fun _ => 0))), (q13, .inl (cI, 6, .inl (fun _ => 0))), (q14, .inr (4, [.ref q15, .ref q17, .ref q18])), (q15, .inr (0, [.ref q16, .int 0])), (q16, .inl (cJ, 128, .inr (.inl (fun _ => 0)))), (q17, .inl (cI, 128, .inl (fun _ => 0))), (q18, .inr (2, [.int 1, .int 0, .int 0])), (q19, .inr (0, [.ref q20, .int 0])), (q20, .inl (cJ, 128, .inr (.inl (fun _ => 0)))), (q21, .inr (1, [.int 0, .int 1])), (q22, .inr (9, [.null, .int 0, .null, .null, .null, .null, .null, .int 0, .int 0, .null, .null, .null, .null, .int 0, .long 0, .null, .null, .null, .null, .int 0, .null, .null, .int 0]))] := hD
  refine W.widen (k := 23) (n := 510) (Nat.le_of_ble_eq_true rfl) (Nat.le_of_ble_eq_true rfl) ?_
  refine lv_dup hx hb dL_law_11 rfl ?_
  have hPc := hP.sub (ws' := [(q22, .inr (9, [.null, .int 0, .null, .null, .null, .null, .null, .int 0, .int 0, .null, .null, .null, .null, .int 0, .long 0, .null, .null, .null, .null, .int 0, .null, .null, .int 0]))]) [22] rfl
  have hDc := hD.sub (ws' := [(q22, .inr (9, [.null, .int 0, .null, .null, .null, .null, .null, .int 0, .int 0, .null, .null, .null, .null, .int 0, .long 0, .null, .null, .null, .null, .int 0, .null, .null, .int 0]))]) [22] (by decide) rfl
  have hFc := va_free (wc := [(q22, .inr (9, [.null, .int 0, .null, .null, .null, .null, .null, .int 0, .int 0, .null, .null, .null, .null, .int 0, .long 0, .null, .null, .null, .null, .int 0, .null, .null, .int 0]))]) hD hS hA [22] rfl
  refine va_callv (va_runI (As := []) (rest := [.ref q22]) ⟨hx, hb, hml, hown, hts⟩ (ctX10_init l dC dI cI cJ cZ q22 H.size) ⟨callB_of 0 hts (gGood mX10_init (gW_at 664 (by decide +kernel))) rfl rfl rfl (hts (.initialized RX10) (gW_at 38 (by decide +kernel))) (hts (.methodLink RL 12 yX10_init) (gW_at 662 (by decide +kernel))) (by decide +kernel) ⟨Nat.le_of_ble_eq_true rfl, Nat.le_of_ble_eq_true rfl⟩, rfl, hts (.instanceMethod yX10_init) (gW_at 663 (by decide +kernel))⟩ ⟨pc_blind' dC dI cI cJ cZ _ _ _, fun U hU hW => ⟨rfl, by rw [hU], by rw [hU]; exact hPc, va_K.moved hW.alike hK, hDc.weaken (fun _ _ _ _ => trivial), nW_warm hW hN⟩⟩ rfl rfl hl.1 rfl (lv_room (Nat.le_of_ble_eq_true rfl)) dL_law_12 ⟨Nat.le_of_ble_eq_true rfl, Nat.le_of_ble_eq_true rfl⟩) hS (fun q _ h => hFc q h) hFc (fun u t H1 locs ht hvm hw hB hz1 hk1 hS => ?_)
  obtain ⟨q23, q24, q25, q26, q27, q28, q29, q30, q31, q32, q33, q34, q35, q36, q37, q38, hP1, hK1, hD1⟩ := hB
  rw [ht] at hP1
  obtain ⟨hP, hD⟩ := va_join (wr := [(q0, .inr (8, [.ref q1, .ref q3, .ref q4, .ref q5, .ref q8, .ref q11, .ref q14, .ref q19, .ref q21, .long 0])), (q1, .inr (3, [.ref q2, .int 0])), (q2, .inl (cI, 20, .inl (fun _ => 0))), (q3, .inr (2, [.int 1, .int 0, .int 0])), (q4, .inr (2, [.int 1, .int 0, .int 0])), (q5, .inr (5, [.ref q6, .ref q7, .int 0])), (q6, .inl (cI, 14, .inl (fun _ => 0))), (q7, .inl (cI, 14, .inl (fun _ => 0))), (q8, .inr (7, [.ref q9, .ref q10, .int 0])), (q9, .inl (cI, 2, .inl (fun _ => 0))), (q10, .inl (cI, 2, .inl (fun _ => 0))), (q11, .inr (6, [.ref q12, .ref q13, .int 0])), (q12, .inl (cI, 6, .inl (fun _ => 0))), (q13, .inl (cI, 6, .inl (fun _ => 0))), (q14, .inr (4, [.ref q15, .ref q17, .ref q18])), (q15, .inr (0, [.ref q16, .int 0])), (q16, .inl (cJ, 128, .inr (.inl (fun _ => 0)))), (q17, .inl (cI, 128, .inl (fun _ => 0))), (q18, .inr (2, [.int 1, .int 0, .int 0])), (q19, .inr (0, [.ref q20, .int 0])), (q20, .inl (cJ, 128, .inr (.inl (fun _ => 0)))), (q21, .inr (1, [.int 0, .int 1]))]) (w1 := [(q22, .inr (9, [.ref q23, .int 0, .ref q24, .ref q25, .ref q26, .ref q27, .ref q28, .int 0, .int 0, .ref q29, .ref q30, .ref q31, .ref q32, .int 0, .long 0, .ref q33, .ref q34, .ref q35, .ref q36, .int 0, .ref q37, .ref q38, .int 0])), (q23, .inl (cI, 20, .inl (fun _ => 0))), (q24, .inl (cI, 11, .inl (upd (fun _ => 0) (Int32.toNatClampNeg 0) 1))), (q25, .inl (cI, 11, .inl (fun _ => 0))), (q26, .inl (cI, 11, .inl (fun _ => 0))), (q27, .inl (cI, 10, .inl (fun _ => 0))), (q28, .inl (cI, 154, .inl (fun _ => 0))), (q29, .inl (cI, 22, .inl (fun _ => 0))), (q30, .inl (cZ, 2, .inl (fun _ => 0))), (q31, .inl (cI, 6, .inl (fun _ => 0))), (q32, .inl (cI, 6, .inl (fun _ => 0))), (q33, .inl (cI, 5, .inl (fun _ => 0))), (q34, .inl (cI, 5, .inl (fun _ => 0))), (q35, .inl (cJ, 128, .inr (.inl (fun _ => 0)))), (q36, .inl (cI, 128, .inl (fun _ => 0))), (q37, .inl (cI, 120, .inl (fun _ => 0))), (q38, .inl (cI, 32, .inl (fun _ => 0)))]) hP hD [22] [0, 1, 2, 3, 4, 5, 6, 7, 8, 9, 10, 11, 12, 13, 14, 15, 16, 17, 18, 19, 20, 21] rfl rfl (by decide) (by decide) hk1 hFc hP1 hD1
  generalize H1 = H at hP hS ⊢
  have hP : va_P (dC, dI) vwCl [(q0, .inr (8, [.ref q1, .ref q3, .ref q4, .ref q5, .ref q8, .ref q11, .ref q14, .ref q19, .ref q21, .long 0])), (q1, .inr (3, [.ref q2, .int 0])), (q2, .inl (cI, 20, .inl (fun _ => 0))), (q3, .inr (2, [.int 1, .int 0, .int 0])), (q4, .inr (2, [.int 1, .int 0, .int 0])), (q5, .inr (5, [.ref q6, .ref q7, .int 0])), (q6, .inl (cI, 14, .inl (fun _ => 0))), (q7, .inl (cI, 14, .inl (fun _ => 0))), (q8, .inr (7, [.ref q9, .ref q10, .int 0])), (q9, .inl (cI, 2, .inl (fun _ => 0))), (q10, .inl (cI, 2, .inl (fun _ => 0))), (q11, .inr (6, [.ref q12, .ref q13, .int 0])), (q12, .inl (cI, 6, .inl (fun _ => 0))), (q13, .inl (cI, 6, .inl (fun _ => 0))), (q14, .inr (4, [.ref q15, .ref q17, .ref q18])), (q15, .inr (0, [.ref q16, .int 0])), (q16, .inl (cJ, 128, .inr (.inl (fun _ => 0)))), (q17, .inl (cI, 128, .inl (fun _ => 0))), (q18, .inr (2, [.int 1, .int 0, .int 0])), (q19, .inr (0, [.ref q20, .int 0])), (q20, .inl (cJ, 128, .inr (.inl (fun _ => 0)))), (q21, .inr (1, [.int 0, .int 1])), (q22, .inr (9, [.ref q23, .int 0, .ref q24, .ref q25, .ref q26, .ref q27, .ref q28, .int 0, .int 0, .ref q29, .ref q30, .ref q31, .ref q32, .int 0, .long 0, .ref q33, .ref q34, .ref q35, .ref q36, .int 0, .ref q37, .ref q38, .int 0])), (q23, .inl (cI, 20, .inl (fun _ => 0))), (q24, .inl (cI, 11, .inl (upd (fun _ => 0) (Int32.toNatClampNeg 0) 1))), (q25, .inl (cI, 11, .inl (fun _ => 0))), (q26, .inl (cI, 11, .inl (fun _ => 0))), (q27, .inl (cI, 10, .inl (fun _ => 0))), (q28, .inl (cI, 154, .inl (fun _ => 0))), (q29, .inl (cI, 22, .inl (fun _ => 0))), (q30, .inl (cZ, 2, .inl (fun _ => 0))), (q31, .inl (cI, 6, .inl (fun _ => 0))), (q32, .inl (cI, 6, .inl (fun _ => 0))), (q33, .inl (cI, 5, .inl (fun _ => 0))), (q34, .inl (cI, 5, .inl (fun _ => 0))), (q35, .inl (cJ, 128, .inr (.inl (fun _ => 0)))), (q36, .inl (cI, 128, .inl (fun _ => 0))), (q37, .inl (cI, 120, .inl (fun _ => 0))), (q38, .inl (cI, 32, .inl (fun _ => 0)))] H := hP
  have hD : va_D (fun q : Nat => s.heap.size ≤ q) [(q0, .inr (8, [.ref q1, .ref q3, .ref q4, .ref q5, .ref q8, .ref q11, .ref q14, .ref q19, .ref q21, .long 0])), (q1, .inr (3, [.ref q2, .int 0])), (q2, .inl (cI, 20, .inl (fun _ => 0))), (q3, .inr (2, [.int 1, .int 0, .int 0])), (q4, .inr (2, [.int 1, .int 0, .int 0])), (q5, .inr (5, [.ref q6, .ref q7, .int 0])), (q6, .inl (cI, 14, .inl (fun _ => 0))), (q7, .inl (cI, 14, .inl (fun _ => 0))), (q8, .inr (7, [.ref q9, .ref q10, .int 0])), (q9, .inl (cI, 2, .inl (fun _ => 0))), (q10, .inl (cI, 2, .inl (fun _ => 0))), (q11, .inr (6, [.ref q12, .ref q13, .int 0])), (q12, .inl (cI, 6, .inl (fun _ => 0))), (q13, .inl (cI, 6, .inl (fun _ => 0))), (q14, .inr (4, [.ref q15, .ref q17, .ref q18])), (q15, .inr (0, [.ref q16, .int 0])), (q16, .inl (cJ, 128, .inr (.inl (fun _ => 0)))), (q17, .inl (cI, 128, .inl (fun _ => 0))), (q18, .inr (2, [.int 1, .int 0, .int 0])), (q19, .inr (0, [.ref q20, .int 0])), (q20, .inl (cJ, 128, .inr (.inl (fun _ => 0)))), (q21, .inr (1, [.int 0, .int 1])), (q22, .inr (9, [.ref q23, .int 0, .ref q24, .ref q25, .ref q26, .ref q27, .ref q28, .int 0, .int 0, .ref q29, .ref q30, .ref q31, .ref q32, .int 0, .long 0, .ref q33, .ref q34, .ref q35, .ref q36, .int 0, .ref q37, .ref q38, .int 0])), (q23, .inl (cI, 20, .inl (fun _ => 0))), (q24, .inl (cI, 11, .inl (upd (fun _ => 0) (Int32.toNatClampNeg 0) 1))), (q25, .inl (cI, 11, .inl (fun _ => 0))), (q26, .inl (cI, 11, .inl (fun _ => 0))), (q27, .inl (cI, 10, .inl (fun _ => 0))), (q28, .inl (cI, 154, .inl (fun _ => 0))), (q29, .inl (cI, 22, .inl (fun _ => 0))), (q30, .inl (cZ, 2, .inl (fun _ => 0))), (q31, .inl (cI, 6, .inl (fun _ => 0))), (q32, .inl (cI, 6, .inl (fun _ => 0))), (q33, .inl (cI, 5, .inl (fun _ => 0))), (q34, .inl (cI, 5, .inl (fun _ => 0))), (q35, .inl (cJ, 128, .inr (.inl (fun _ => 0)))), (q36, .inl (cI, 128, .inl (fun _ => 0))), (q37, .inl (cI, 120, .inl (fun _ => 0))), (q38, .inl (cI, 32, .inl (fun _ => 0)))] := hD
  refine W.widen (k := 39) (n := 1181) (Nat.le_of_ble_eq_true rfl) (Nat.le_of_ble_eq_true rfl) ?_
  refine lv_astore_n (lv' := [(2, .ref q22), (1, .ref q0), (0, .ref b)]) hx hb dL_law_15 rfl hl (by decide) rfl (fun ls hl => ?_)
  refine lv_iconst (v := 0) hx hb dL_law_16 (by decide) ?_
  refine lv_istore_n (lv' := [(3, .int 0), (2, .ref q22), (1, .ref q0), (0, .ref b)]) hx hb dL_law_17 rfl hl (by decide) rfl (fun ls hl => ?_)
  obtain ⟨G, hG⟩ : ∃ G : GG, G = ((dC, dI), (fun k => ([q0, q1, q2, q3, q4, q5, q6, q7, q8, q9, q10, q11, q12, q13, q14, q15, q16, q17, q18, q19, q20, q21, q22, q23, q24, q25, q26, q27, q28, q29, q30, q31, q32, q33, q34, q35, q36, q37, q38] : List Nat).getD k (if k = 1000 then oa else b)), (fun k => if k = 0 then cI else if k = 1 then cJ else cZ), L, xs) := ⟨_, rfl⟩
  have hw : cw G Hini = [(q0, .inr (8, [.ref q1, .ref q3, .ref q4, .ref q5, .ref q8, .ref q11, .ref q14, .ref q19, .ref q21, .long 0])), (q1, .inr (3, [.ref q2, .int 0])), (q2, .inl (cI, 20, .inl (fun _ => 0))), (q3, .inr (2, [.int 1, .int 0, .int 0])), (q4, .inr (2, [.int 1, .int 0, .int 0])), (q5, .inr (5, [.ref q6, .ref q7, .int 0])), (q6, .inl (cI, 14, .inl (fun _ => 0))), (q7, .inl (cI, 14, .inl (fun _ => 0))), (q8, .inr (7, [.ref q9, .ref q10, .int 0])), (q9, .inl (cI, 2, .inl (fun _ => 0))), (q10, .inl (cI, 2, .inl (fun _ => 0))), (q11, .inr (6, [.ref q12, .ref q13, .int 0])), (q12, .inl (cI, 6, .inl (fun _ => 0))), (q13, .inl (cI, 6, .inl (fun _ => 0))), (q14, .inr (4, [.ref q15, .ref q17, .ref q18])), (q15, .inr (0, [.ref q16, .int 0])), (q16, .inl (cJ, 128, .inr (.inl (fun _ => 0)))), (q17, .inl (cI, 128, .inl (fun _ => 0))), (q18, .inr (2, [.int 1, .int 0, .int 0])), (q19, .inr (0, [.ref q20, .int 0])), (q20, .inl (cJ, 128, .inr (.inl (fun _ => 0)))), (q21, .inr (1, [.int 0, .int 1])), (q22, .inr (9, [.ref q23, .int 0, .ref q24, .ref q25, .ref q26, .ref q27, .ref q28, .int 0, .int 0, .ref q29, .ref q30, .ref q31, .ref q32, .int 0, .long 0, .ref q33, .ref q34, .ref q35, .ref q36, .int 0, .ref q37, .ref q38, .int 0])), (q23, .inl (cI, 20, .inl (fun _ => 0))), (q24, .inl (cI, 11, .inl (upd (fun _ => 0) (Int32.toNatClampNeg 0) 1))), (q25, .inl (cI, 11, .inl (fun _ => 0))), (q26, .inl (cI, 11, .inl (fun _ => 0))), (q27, .inl (cI, 10, .inl (fun _ => 0))), (q28, .inl (cI, 154, .inl (fun _ => 0))), (q29, .inl (cI, 22, .inl (fun _ => 0))), (q30, .inl (cZ, 2, .inl (fun _ => 0))), (q31, .inl (cI, 6, .inl (fun _ => 0))), (q32, .inl (cI, 6, .inl (fun _ => 0))), (q33, .inl (cI, 5, .inl (fun _ => 0))), (q34, .inl (cI, 5, .inl (fun _ => 0))), (q35, .inl (cJ, 128, .inr (.inl (fun _ => 0)))), (q36, .inl (cI, 128, .inl (fun _ => 0))), (q37, .inl (cI, 120, .inl (fun _ => 0))), (q38, .inl (cI, 32, .inl (fun _ => 0)))] := by
    rw [cw_cwl, hG]
    rfl
  rw [← hw] at hP hD
  have hadO : G.2.1 1000 = oa := by rw [hG]; rfl
  have hadB : G.2.1 1001 = b := by rw [hG]; rfl
  have hGL : G.2.2.2.1 = L := by rw [hG]
  have hGx : G.2.2.2.2 = xs := by rw [hG]
  have h0 : G.2.1 0 = q0 := by rw [hG]; rfl
  have h22 : G.2.1 22 = q22 := by rw [hG]; rfl
  have hG1 : G.1 = (dC, dI) := by rw [hG]
  have hGt : tysG G = [(cI, .int), (cJ, .long), (cZ, .boolean)] := by rw [hG]; rfl
  clear hG hw
  refine start_fin pure hL C0 (by rw [hG1]; exact hP) hD hGL ⟨by rw [hG1, hGt]; exact hK, hN, by rw [hadO]; exact hZ, by rw [hadO]; exact hT, ⟨by rw [hadB, hGL, hGx]; exact hX, by rw [hadB]; exact hbl, by rw [hadB]; exact hbA⟩⟩ hS ?_
  rw [hadB, h0, h22]
  exact lv_sub hl [0, 1, 2, 3] rfl
