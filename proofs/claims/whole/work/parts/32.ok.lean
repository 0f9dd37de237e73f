/-! What holds between calls. -/
/-- the least names of pieces of m squares -/
def T : Nat → List Nat
  | 1 => [0]
  | 2 => [110, 1001, 1010]
  | 3 => [12120, 21102, 21120, 120012, 120021, 120120, 120201]
  | 4 => [1231230, 1321203, 1321230, 2131032, 2131302, 2311023, 2311032, 2311203, 2311230, 2311302, 2311320, 10320213, 10320231, 10321230, 10322301, 10322310, 12300123, 12300132, 12300231, 12300312, 12300321, 12301032, 12301230, 12301302, 12302301, 13022031]
  | 5 => [123412340, 124312304, 124312340, 132412043, 132412403, 134212034, 134212043, 134212304, 134212340, 134212403, 134212430, 214310324, 214310342, 214312304, 214312340, 214313024, 214313042, 214313204, 214313240, 214313402, 214313420, 231410243, 231410342, 231410423, 231412403, 231413042, 234110234, 234110243, 234110324, 234110342, 234110423, 234110432, 234112034, 234112043, 234112304, 234112340, 234112403, 234112430, 234113024, 234113042, 234113204, 234113240, 234113402, 234113420, 241313024, 241313042, 241313204, 241313240, 241313402, 241313420, 243113024, 1034202134, 1034202143, 1034202314, 1034202341, 1034202413, 1034202431, 1034212034, 1034212043, 1034212304, 1034212340, 1034212403, 1034212430, 1034223014, 1034223041, 1034223104, 1034223140, 1034223401, 1034223410, 1234001234, 1234001243, 1234001342, 1234001423, 1234001432, 1234002143, 1234002341, 1234002413, 1234002431, 1234003142, 1234003412, 1234003421, 1234010342, 1234010423, 1234010432, 1234012340, 1234012403, 1234013042, 1234013402, 1234020413, 1234023401, 1240303124, 1240303142, 1240303421, 1240313042, 1240323041, 1304220413, 1342024103]
  | _ => []
def decD : Nat → Nat → Nat → Nat
  | _, 0, w => w
  | x, i + 1, w => decD (x / 10) i (putN w i (x % 10))
def decU (m x : Nat) : Nat := decD x m 0
def decR (m x : Nat) : Nat := decD (x / 10 ^ m) m 0
def shN (hw m x : Nat) : Nat := leastN m (shR m (decR m x) (decU m x) hw) (shU m (decR m x) (decU m x) hw) 0
/-- met one after another, by two ways on -/
def orbB (f g : Nat → Nat) : Nat → Nat → List Nat → List Nat
  | 0, _, L => L
  | d + 1, k, L => if k < L.length then orbB f g d (k + 1) (adL (adL L (f (L.getD k 0))) (g (L.getD k 0))) else L
def orbN (m x : Nat) : List Nat := orbB (shN 0 m) (shN 1 m) 129 0 [x]
/-- what the class keeps of the last orbit -/
def OC (oc : Nat) (f16 : Nat → Int64) (f17 : Nat → Int32) : Prop := oc = 0 ∨ ∃ m x, x ∈ T m ∧ oc = (orbN m x).length ∧ ∀ i, i < oc → f16 i = lN ((orbN m x).getD i 0) ∧ f17 i = nI ((orbN m x).idxOf (shN 0 m ((orbN m x).getD i 0)))
/-- eleven numbers that are a surface -/
def NW (f : Nat → Int32) (n r u : Nat) : Prop := f 0 = nI n ∧ (∀ i, i < n → f (1 + i) = nI (dg r i)) ∧ ∀ i, i < n → f (6 + i) = nI (dg u i)
def OKt (c : CS) (m : MS) : Prop := m.t = c.t ∧ m.ln = c.L ∧ c.L ≤ 20 ∧ ∀ i, i < c.L → ∃ v, v < 256 ∧ c.t i = nI v
def OKn (c : CS) (m : MS) : Prop := c.r ∈ P c.n ∧ c.u ∈ P c.n ∧ NW m.f24 c.n c.r c.u
def OKd (c : CS) (m : MS) : Prop := m.dn = c.cnt ∧ c.cnt ≤ 14 ∧ m.nx < 14 ∧ ∀ j, j < c.cnt → ∃ r u, r ∈ P c.n ∧ u ∈ P c.n ∧ c.f6 j = nI r ∧ c.f7 j = nI u ∧ NW (fun i => m.f28 (11 * ((m.nx + 14 - c.cnt + j) % 14) + i)) c.n r u
def OKk (c : CS) (m : MS) : Prop := c.kb < 4 ∧ ∀ s, s < 2 → m.f30 s = bit01 c.kb s ∧ (c.kb.testBit s = true → ∃ r u, r ∈ P c.n ∧ u ∈ P c.n ∧ c.f9 s = nI r ∧ c.f10 s = nI u ∧ NW (fun i => m.f29 (11 * s + i)) c.n r u)
def OKs (c : CS) (m : MS) : Prop := m.f31 = c.f12 ∧ m.f32 = c.f13 ∧ m.sn = c.sn ∧ c.sn ≤ 6 ∧ ∀ k, k < c.sn → (∃ w, c.f12 k = nI w ∧ w ≤ 4444 ∧ wayL 5 w = true) ∧ (c.f13 k = 0 ∨ c.f13 k = 1)
def OK (c : CS) (m : MS) : Prop := OKt c m ∧ OKn c m ∧ OKd c m ∧ OKk c m ∧ OKs c m ∧ m.sd = c.sd ∧ OC c.oc c.f16 c.f17
def Eqv (f g : Hp → Option (Int32 × Hp)) : Prop := ∀ c m, OK c m → ∃ r c' m', f (hp c m) = some (r, hp c' m) ∧ g (hp c' m) = some (r, hp c' m') ∧ OK c' m'
def EqvJ (f g : Hp → Option (Int64 × Hp)) : Prop := ∀ c m, OK c m → ∃ r c' m', f (hp c m) = some (r, hp c' m) ∧ g (hp c' m) = some (r, hp c' m') ∧ OK c' m'
theorem ok_ml {c : CS} {m : MS} (h : OK c m) (c' : CS) : ml (hp c' m) 24 c.n c.r c.u := ⟨m.f24, hc24, h.2.1.2.2⟩
theorem OK.n1 {c : CS} {m : MS} (h : OK c m) : 1 ≤ c.n := (P_n h.2.1.1).1
theorem OK.n5 {c : CS} {m : MS} (h : OK c m) : c.n ≤ 5 := (P_n h.2.1.1).2
theorem rg_clsL {α : Type} {l h x : Int32} {a b : Nat} {A B : α} (e1 : l = nI a) (e2 : h = nI b) : (if x < l then A else if x ≤ h then B else A) = if rg a b x = true then B else A := by rw [e1, e2]; exact rg_cls
theorem rg_inL {l h : Int64} {a b : Nat} {x : Int32} (e1 : l = lN a) (e2 : h = lN b) (hb : b < 2 ^ 31) (ha : a < 2 ^ 31) (H : Hp) : FX10_in x.toInt64 l h H = some (b01 (rg a b x), H) := by rw [e1, e2]; exact rg_in hb ha H
theorem rgF {a b : Nat} {x : Int32} (h : ¬ rg a b x = true) : rg a b x = false := by cases e : rg a b x with
  | false => rfl
  | true => exact absurd e h
-- the small calls
theorem c_wipe : Eqv (fun H => FX9_wipe 0 H) (fun H => FX10_wipe 22 H) := by
  intro c m h
  refine ⟨nI c.L, c.zL 0, m.zln 0, rfl, ?_, ⟨h.1.1, rfl, Nat.zero_le _, fun i hi => absurd hi (Nat.not_lt_zero i)⟩, h.2⟩
  show some (nI m.ln, _) = _
  rw [h.1.2.1]
  rfl
theorem c_unsee : Eqv (fun H => FX9_unsee 0 H) (fun H => FX10_unsee 22 H) := by
  intro c m h
  refine ⟨nI c.sn, c.zsn 0, m.zsn 0, rfl, ?_, h.1, h.2.1, h.2.2.1, h.2.2.2.1, ⟨h.2.2.2.2.1.1, h.2.2.2.2.1.2.1, rfl, Nat.zero_le _, fun i hi => absurd hi (Nat.not_lt_zero i)⟩, h.2.2.2.2.2⟩
  show some (nI m.sn, _) = _
  rw [h.2.2.2.2.1.2.2.1]
  rfl
theorem c_seed (v : Int64) : EqvJ (fun H => FX9_seed 0 v H) (fun H => FX10_seed 22 v H) := by
  intro c m h
  refine ⟨c.sd, c.zsd v, m.zsd v, rfl, ?_, h.1, h.2.1, h.2.2.1, h.2.2.2.1, h.2.2.2.2.1, rfl, h.2.2.2.2.2.2⟩
  show some (m.sd, _) = _
  rw [h.2.2.2.2.2.1]
  rfl
theorem c_write (x : Int32) : Eqv (fun H => FX9_write 0 x H) (fun H => FX10_write 22 x H) := by
  intro c m h
  have hL := h.1.2.2.1
  show ∃ r c' m', FX9_write 0 x (hp c m) = _ ∧ FX10_write 22 x (hp c' m) = _ ∧ _
  unfold FX9_write FX10_write
  rw [rg_clsL (l := 0) (h := 255) (a := 0) (b := 255) rfl rfl]
  by_cases hr : rg 0 255 x = true
  · obtain ⟨w, _, hw, rfl⟩ := (rg_t (by decide) (by decide)).mp hr
    by_cases hf : c.L < 20
    · refine ⟨nI (c.L + 1), (c.zt (upd c.t c.L (nI w))).zL (c.L + 1), (m.zt (upd m.t m.ln (nI w))).zln (m.ln + 1), ?_, ?_, ?_⟩
      · rw [if_pos hr, hA0_0, bd_some, gp_pos hO1]
        unfold FX3_add
        rw [hI1_1, bd_some, if_neg (nI_pos (by omega)), bd_some, if_pos (show nI c.L < 20 from nI_lt (b := 20) hf (by decide)), hA1_0, bd_some, bd_some, hw2 hf, bd_some, hI1_1, bd_some, hp1_1 (c.L + 1) (nI_1 _), bd_some, bd2_some, if_neg (by decide), hA0_0, bd_some, hI1_1, bd_some]
      · rw [rg_inL (l := 0) (h := 255) (a := 0) (b := 255) rfl rfl (by decide) (by decide), bd2_some, hr, if_neg b01_1, hI22_1, bd_some, h.1.2.1, if_neg (fun q => by rw [show (20 : Int32) = nI 20 from rfl, nI_eq (by omega) (by omega)] at q; omega), hA22_0, bd_some, bd_some, hw23 hf, bd_some, hI22_1, bd_some, hp22_1 (m.ln + 1) (nI_1 _), bd_some, hI22_1, bd_some]
        show some (nI (m.ln + 1), _) = _
        rw [h.1.2.1]
      · refine ⟨⟨?_, ?_, ?_, ?_⟩, h.2⟩
        · show upd m.t m.ln _ = upd c.t c.L _
          rw [h.1.1, h.1.2.1]
        · show m.ln + 1 = c.L + 1
          rw [h.1.2.1]
        · exact hf
        · intro i hi
          by_cases e : i = c.L
          · refine ⟨w, by omega, ?_⟩
            rw [e]
            exact upd_at _ _ _
          · obtain ⟨v, g1, g2⟩ := h.1.2.2.2 i (by have : i < c.L + 1 := hi; omega)
            exact ⟨v, g1, by rw [← g2]; exact upd_ne e⟩
    · have e20 : c.L = 20 := by omega
      refine ⟨-4, c, m, ?_, ?_, h⟩
      · rw [if_pos hr, hA0_0, bd_some, gp_pos hO1]
        unfold FX3_add
        rw [hI1_1, bd_some, if_neg (nI_pos (by omega)), bd_some, if_neg (by rw [e20]; decide), bd2_some, if_pos rfl]
      · rw [rg_inL (l := 0) (h := 255) (a := 0) (b := 255) rfl rfl (by decide) (by decide), bd2_some, hr, if_neg b01_1, hI22_1, bd_some, h.1.2.1, if_pos (by rw [e20]; rfl)]
  · refine ⟨-2, c, m, ?_, ?_, h⟩
    · rw [if_neg hr]
    · rw [rg_inL (l := 0) (h := 255) (a := 0) (b := 255) rfl rfl (by decide) (by decide), bd2_some, rgF hr, if_pos b01_f]
theorem c_see (x y : Int32) : Eqv (fun H => FX9_see 0 x y H) (fun H => FX10_see 22 x y H) := by
  intro c m h
  obtain ⟨s1, s2, s3, s4, s5⟩ := h.2.2.2.2.1
  show ∃ r c' m', FX9_see 0 x y (hp c m) = _ ∧ FX10_see 22 x y (hp c' m) = _ ∧ _
  unfold FX9_see FX10_see
  obtain ⟨b, hb1, hb2, hb3⟩ := isWay_both x
  cases b with
  | false =>
    refine ⟨-2, c, m, ?_, ?_, h⟩
    · rw [hb1, bd2_some, if_pos b01_f]
    · rw [hb2, bd2_some, if_pos b01_f]
  | true =>
    obtain ⟨w, rfl, w1, w2, w3⟩ := hb3 rfl
    by_cases hr : rg 0 1 y = true
    · obtain ⟨v, _, hv, rfl⟩ := (rg_t (by decide) (by decide)).mp hr
      by_cases hf : c.sn < 6
      · refine ⟨nI (c.sn + 1), ((c.zf12 (upd c.f12 c.sn (nI w))).zf13 (upd c.f13 c.sn (nI v))).zsn (c.sn + 1), ((m.zf31 (upd m.f31 m.sn (nI w))).zf32 (upd m.f32 m.sn (nI v))).zsn (m.sn + 1), ?_, ?_, ?_⟩
        · rw [hb1, bd2_some, if_neg b01_1, rg_clsL (l := 0) (h := 1) (a := 0) (b := 1) rfl rfl, if_pos hr, hA0_5, bd_some, gp_pos hO11]
          unfold FX7_add
          rw [hI11_2, bd_some, if_neg (nI_pos (by omega)), bd_some, if_pos (show nI c.sn < 6 from nI_lt (b := 6) hf (by decide)), hA11_0, bd_some, bd_some, hw12 hf, bd_some, hA11_1, bd_some, hI11_2, bd_some, hw13 hf, bd_some, hI11_2, bd_some, hp11_2 (c.sn + 1) (nI_1 _), bd_some, bd2_some, if_neg (by decide), hA0_5, bd_some, hI11_2, bd_some]
        · have hm6 : m.sn < 6 := by omega
          rw [hb2, bd2_some, if_neg b01_1, rg_inL (l := 0) (h := 1) (a := 0) (b := 1) rfl rfl (by decide) (by decide), bd2_some, hr, if_neg b01_1, hI22_13, bd_some, if_neg (fun q => by rw [show (6 : Int32) = nI 6 from rfl, nI_eq (by omega) (by omega)] at q; omega), hA22_11, bd_some, bd_some, hw31 hm6, bd_some, hA22_12, bd_some, hI22_13, bd_some, hw32 hm6, bd_some, hI22_13, bd_some, hp22_13 (m.sn + 1) (nI_1 _), bd_some, hI22_13, bd_some]
          show some (nI (m.sn + 1), _) = _
          rw [s3]
        · refine ⟨h.1, h.2.1, h.2.2.1, h.2.2.2.1, ⟨?_, ?_, ?_, ?_, ?_⟩, h.2.2.2.2.2⟩
          · show upd m.f31 m.sn _ = upd c.f12 c.sn _
            rw [s1, s3]
          · show upd m.f32 m.sn _ = upd c.f13 c.sn _
            rw [s2, s3]
          · show m.sn + 1 = c.sn + 1
            rw [s3]
          · exact hf
          · intro k hk
            show (∃ w', upd c.f12 c.sn (nI w) k = nI w' ∧ _) ∧ (upd c.f13 c.sn (nI v) k = 0 ∨ upd c.f13 c.sn (nI v) k = 1)
            by_cases e : k = c.sn
            · rw [e, upd_at, upd_at]
              refine ⟨⟨w, rfl, w2, w3⟩, ?_⟩
              have : v = 0 ∨ v = 1 := by omega
              rcases this with rfl | rfl
              · exact .inl rfl
              · exact .inr rfl
            · rw [upd_ne e, upd_ne e]
              exact s5 k (by have : k < c.sn + 1 := hk; omega)
      · have e6 : c.sn = 6 := by omega
        refine ⟨-4, c, m, ?_, ?_, h⟩
        · rw [hb1, bd2_some, if_neg b01_1, rg_clsL (l := 0) (h := 1) (a := 0) (b := 1) rfl rfl, if_pos hr, hA0_5, bd_some, gp_pos hO11]
          unfold FX7_add
          rw [hI11_2, bd_some, if_neg (nI_pos (by omega)), bd_some, if_neg (by rw [e6]; decide), bd2_some, if_pos rfl]
        · rw [hb2, bd2_some, if_neg b01_1, rg_inL (l := 0) (h := 1) (a := 0) (b := 1) rfl rfl (by decide) (by decide), bd2_some, hr, if_neg b01_1, hI22_13, bd_some, s3, if_pos (by rw [e6]; rfl)]
    · refine ⟨-2, c, m, ?_, ?_, h⟩
      · rw [hb1, bd2_some, if_neg b01_1, rg_clsL (l := 0) (h := 1) (a := 0) (b := 1) rfl rfl, if_neg hr]
      · rw [hb2, bd2_some, if_neg b01_1, rg_inL (l := 0) (h := 1) (a := 0) (b := 1) rfl rfl (by decide) (by decide), bd2_some, rgF hr, if_pos b01_f]
