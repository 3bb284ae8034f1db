-- IN: what lies on the TAPE
theorem n7 : (7 : Int32) = nI 7 := by decide +kernel
theorem n9 : (9 : Int32) = nI 9 := by decide +kernel
theorem n10 : (10 : Int32) = nI 10 := by decide +kernel
theorem n11 : (11 : Int32) = nI 11 := by decide +kernel
theorem tn1 : (1 : Int32).toNatClampNeg = 1 := by decide +kernel
theorem tn0 : (0 : Int32).toNatClampNeg = 0 := by decide +kernel
theorem numS_congr {f f' : Nat → Int32} {a : Nat} : ∀ (d : Nat) (acc : Int64) (j : Nat), (∀ i, j ≤ i → i < j + d → f (a + i) = f' (a + i)) → numS f a d acc j = numS f' a d acc j := by
  intro d
  induction d with
  | zero => intro acc j _; rfl
  | succ d ih =>
    intro acc j h
    unfold numS
    rw [h j (Nat.le_refl _) (by omega)]
    exact ih _ (j + 1) (fun i h1 h2 => h i (by omega) (by omega))
theorem numF_congr {f f' : Nat → Int32} {a k : Nat} (h : ∀ i, a ≤ i → i < a + k → f i = f' i) : numF f a k = numF f' a k := numS_congr k 0 0 (fun i _ h2 => h (a + i) (by omega) (by omega))
theorem digS_congr {f f' : Nat → Int32} : ∀ (d : Nat) (acc : Int64) (j : Nat), (∀ i, j ≤ i → i < j + d → f i = f' i) → digS f d acc j = digS f' d acc j := by
  intro d
  induction d with
  | zero => intro acc j _; rfl
  | succ d ih =>
    intro acc j h
    unfold digS
    rw [h j (Nat.le_refl _) (by omega)]
    exact ih _ (j + 1) (fun i h1 h2 => h i (by omega) (by omega))
theorem digF_congr {f f' : Nat → Int32} {a k : Nat} (h : ∀ i, a ≤ i → i < a + k → f i = f' i) : digF f a k = digF f' a k := digS_congr k 0 a h
/-- how long the PART at p says that it is -/
noncomputable def tl (f : Nat → Int32) (p : Nat) : Nat := (numF f (p + 9) 2).toInt32.toNatClampNeg
theorem tl_s (f : Nat → Int32) (p : Nat) : (numF f (p + 9) 2).toInt32 = nI (tl f p) ∧ tl f p ≤ 65535 := by
  obtain ⟨l, h1, h2⟩ := num2 f (p + 9)
  unfold tl
  rw [h2, lN_i, nI_clamp (by omega)]
  exact ⟨rfl, h1⟩
theorem tl_congr {f f' : Nat → Int32} {p : Nat} (h : ∀ i, p + 9 ≤ i → i < p + 11 → f i = f' i) : tl f p = tl f' p := by
  unfold tl
  rw [numF_congr (fun i h1 h2 => h i h1 (by omega))]
/-- d PARTS from p on, and 8 bytes behind them -/
def SPk (f : Nat → Int32) (ts : Nat) : Nat → Nat → Prop
  | 0, p => p + 8 = ts
  | d + 1, p => p + 11 + tl f p ≤ ts ∧ tl f p ≤ 155 ∧ (∃ b : Nat, b < 8 ∧ f p &&& 255 = nI b) ∧ SPk f ts d (p + 11 + tl f p)
theorem C_len {g : St_Log} {ts p : Nat} (hb : BB 2000 (g_tape g) ts) (hp : p + 11 ≤ 2000) : m_Log_lengthOnTape g (nI p) = some (nI (tl (g_tape g).1.2 p)) := by
  unfold m_Log_lengthOnTape
  rw [n9, nI_add, n2, bs (B_num hb (by omega) (i := p + 9) (K := 2) (by omega)), (tl_s _ p).1]
theorem C_behind {g : St_Log} {ts p : Nat} (hb : BB 2000 (g_tape g) ts) (hp : p + 11 ≤ 2000) : m_Log_behindPart g (nI p) = some (nI (p + 11 + tl (g_tape g).1.2 p)) := by
  unfold m_Log_behindPart
  rw [bs (C_len hb hp), n11, nI_add, nI_add]
theorem C_grp {b : Nat} (hb : b < 256) : m_Log_isGroup (nI b) = some (if b < 8 then 1 else 0) := by
  unfold m_Log_isGroup
  rw [if_neg (nI_pos (by omega)), n8]
  by_cases h : b < 8
  · rw [if_neg (nI_ge h (by omega)), if_pos h]
  · rw [if_pos (nI_le (by omega) (by omega)), if_neg h]
theorem C_isPart0 {g : St_Log} {ts p : Nat} (hb : BB 2000 (g_tape g) ts) (hp : p < 100000) (h : ts < p + 11) : m_Log_isPartOnTape g (nI p) = some 0 := by
  have hsz : m_Bytes_size (g_tape g) = some (nI ts) := by unfold m_Bytes_size; rw [hb.2.1]
  unfold m_Log_isPartOnTape
  rw [bs hsz, n11, nI_add, if_pos (nI_lt h (by omega))]
theorem C_isPart {g : St_Log} {ts p : Nat} (hb : BB 2000 (g_tape g) ts) (h : p + 11 ≤ ts) {b : Nat} (hb2 : b < 256) (eb : (g_tape g).1.2 p &&& 255 = nI b) : m_Log_isPartOnTape g (nI p) = some (if b < 8 then (if 155 < tl (g_tape g).1.2 p then 0 else (if ts < p + 11 + tl (g_tape g).1.2 p then 0 else 1)) else 0) := by
  have hsz : m_Bytes_size (g_tape g) = some (nI ts) := by unfold m_Bytes_size; rw [hb.2.1]
  have hts := hb.2.2.1
  have hl := (tl_s (g_tape g).1.2 p).2
  unfold m_Log_isPartOnTape
  rw [bs hsz, n11, nI_add, if_neg (nI_nlt h (by omega)), bs (B_at hb (by omega) (i := p) (by omega)), eb, bs (C_grp hb2)]
  by_cases h8 : b < 8
  · rw [if_pos h8, if_pos h8, if_neg e10, bs (C_len hb (by omega)), n155]
    by_cases h155 : 155 < tl (g_tape g).1.2 p
    · rw [if_pos (nI_lt h155 (by omega)), if_pos h155]
    · rw [if_neg (nI_nlt (by omega) (by omega)), if_neg h155, bs (C_behind hb (by omega)), bs hsz]
      by_cases h2 : ts < p + 11 + tl (g_tape g).1.2 p
      · rw [if_pos (nI_lt h2 (by omega)), if_pos h2]
      · rw [if_neg (nI_nlt (by omega) (by omega)), if_neg h2]
  · rw [if_neg h8, if_neg h8, if_pos rfl]
theorem sp_L {g : St_Log} {r : St_Ref} {ts c : Nat} (hb : BB 2000 (g_tape g) ts) (hrt : (g_Rtape r).1 = 2000) (he : ∀ j, j < ts → (g_tape g).1.2 j = (g_Rtape r).2 j) (hc : (g_Rtape r).2 1 = nI c) (hc12 : c ≤ 12) : ∀ (d k p fuel fuel' : Nat), k + d = c → d < fuel → d < fuel' → p ≤ 2 + 166 * k → ∃ a, m_Log_isSavepointOnTape_L39 g fuel (nI c) (nI p) (nI k) = some a ∧ m_RRef_isSavepoint_L38 r fuel' (nI ts) (nI p) (nI k) = some a ∧ (a = 0 ∨ (a = 1 ∧ SPk (g_tape g).1.2 ts d p)) := by
  have hsz : m_Bytes_size (g_tape g) = some (nI ts) := by unfold m_Bytes_size; rw [hb.2.1]
  have hts := hb.2.2.1
  have i1 : ¬ ((1 : Int32) < 0 ∨ 2000 ≤ 1) := by decide
  intro d
  induction d with
  | zero =>
    intro k p fuel fuel' hk hf hf' hp
    obtain ⟨fu, rfl, -⟩ := fu1 hf
    obtain ⟨fv, rfl, -⟩ := fu1 hf'
    rw [m_Log_isSavepointOnTape_L39, if_pos (nI_le (by omega) (by omega)), bs hsz, m_RRef_isSavepoint_L38, hrt, tn1, if_neg i1, hc, if_pos (nI_le (by omega) (by omega)), n8, nI_add]
    by_cases h : p + 8 = ts
    · have h' : nI (p + 8) = nI ts := by rw [h]
      have e1 : numF (g_Rtape r).2 p 8 = numF (g_tape g).1.2 p 8 := numF_congr (fun i _ h2 => (he i (by omega)).symm)
      have e2 : digF (g_Rtape r).2 0 p = digF (g_tape g).1.2 0 p := digF_congr (fun i _ h2 => (he i (by omega)).symm)
      have b1 := r_number (x := g_Rtape r) (a := p) (K := 8) (by rw [hrt]; omega) (by rw [hrt]; omega) (by omega)
      have b2 : m_RRef_digest (g_Rtape r) 0 (nI p) = some (digF (g_Rtape r).2 0 p) := r_digest (x := g_Rtape r) (a := 0) (K := p) (by rw [hrt]; omega) (by rw [hrt]; omega) (by omega)
      have b3 : m_Bytes_digest (g_tape g) 0 (nI p) = some (digF (g_tape g).1.2 0 p) := B_dig hb (by omega) (a := 0) (b := p) (by omega) (by omega)
      rw [e1] at b1
      rw [e2] at b2
      rw [if_pos h', if_pos h', bs (B_num hb (by omega) (i := p) (K := 8) (by omega)), bs b3, bs b1, bs b2]
      by_cases hz : lg_cmp (numF (g_tape g).1.2 p 8) (digF (g_tape g).1.2 0 p) = 0
      · exact ⟨1, by rw [if_pos hz], by rw [if_pos hz], Or.inr ⟨rfl, h⟩⟩
      · exact ⟨0, by rw [if_neg hz], by rw [if_neg hz], Or.inl rfl⟩
    · have h' : ¬ nI (p + 8) = nI ts := fun e => h ((nI_eq (by omega) (by omega)).mp e)
      exact ⟨0, by rw [if_neg h'], by rw [if_neg h'], Or.inl rfl⟩
  | succ d ih =>
    intro k p fuel fuel' hk hf hf' hp
    obtain ⟨fu, rfl, hfu⟩ := fu1 hf
    obtain ⟨fv, rfl, hfv⟩ := fu1 hf'
    rw [m_Log_isSavepointOnTape_L39, if_neg (nI_ge (by omega) (by omega)), m_RRef_isSavepoint_L38, hrt, tn1, if_neg i1, hc, if_neg (nI_ge (by omega) (by omega))]
    by_cases h1 : ts < p + 11
    · refine ⟨0, ?_, ?_, Or.inl rfl⟩
      · rw [bs (C_isPart0 hb (by omega) h1), if_pos rfl]
      · rw [n11, nI_add, if_pos (nI_lt h1 (by omega))]
    · obtain ⟨b, hb2, eb⟩ := b255 ((g_tape g).1.2 p)
      have hcp := C_isPart hb (p := p) (by omega) hb2 eb
      have hl := (tl_s (g_tape g).1.2 p).2
      have cp : (nI p).toNatClampNeg = p := nI_clamp (by omega)
      have p0 : ¬ (nI p < 0 ∨ 2000 ≤ p) := by
        have := nI_in (c := p) (N := 2000) (by omega) (by omega)
        rw [cp] at this
        exact this
      have eb' : (g_Rtape r).2 p &&& 255 = nI b := by rw [← he p (by omega)]; exact eb
      have e1 : numF (g_Rtape r).2 (p + 9) 2 = numF (g_tape g).1.2 (p + 9) 2 := numF_congr (fun i _ h2 => (he i (by omega)).symm)
      have b1 := r_number (x := g_Rtape r) (a := p + 9) (K := 2) (by rw [hrt]; omega) (by rw [hrt]; omega) (by omega)
      rw [e1] at b1
      have c9 : nI p + 9 = nI (p + 9) := by rw [n9, nI_add]
      have c11 : nI p + 11 = nI (p + 11) := by rw [n11, nI_add]
      have c2 : (2 : Int32) = nI 2 := n2
      rw [bs hcp, c11, if_neg (nI_nlt (by omega) (by omega)), cp, if_neg p0, eb', n7]
      by_cases h8 : b < 8
      · rw [if_pos h8, if_pos (nI_le (by omega) (by omega)), c9, c2, bs b1, (tl_s (g_tape g).1.2 p).1, n155]
        by_cases h155 : 155 < tl (g_tape g).1.2 p
        · refine ⟨0, ?_, ?_, Or.inl rfl⟩
          · rw [if_pos h155, if_pos rfl]
          · rw [if_pos (nI_lt h155 (by omega))]
        · rw [if_neg h155, if_neg (nI_nlt (by omega) (by omega)), nI_add]
          by_cases h2 : ts < p + 11 + tl (g_tape g).1.2 p
          · refine ⟨0, ?_, ?_, Or.inl rfl⟩
            · rw [if_pos h2, if_pos rfl]
            · rw [if_neg (nI_ge h2 (by omega))]
          · rw [if_neg h2, if_neg e10, bs (C_behind hb (by omega)), if_pos (nI_le (by omega) (by omega)), n11, nI_add, nI_add, nI_1, ← Nat.add_assoc]
            obtain ⟨a, z1, z2, z3⟩ := ih (k + 1) (p + 11 + tl (g_tape g).1.2 p) fu fv (by omega) (by omega) (by omega) (by omega)
            refine ⟨a, z1, z2, ?_⟩
            rcases z3 with z3 | ⟨z3, z4⟩
            · exact Or.inl z3
            · exact Or.inr ⟨z3, by omega, by omega, ⟨b, h8, eb⟩, z4⟩
      · refine ⟨0, ?_, ?_, Or.inl rfl⟩
        · rw [if_neg h8, if_pos rfl]
        · rw [if_neg (nI_ge (by omega) (by omega))]
theorem By.bk {c : Int32} (h : By c) : (c &&& 255).toInt8.toInt32 = c := by
  have := h.back
  rw [nar_b, Int8.toInt8_toInt32] at this
  exact this
theorem By77 {c : Int32} (h : By c) : c &&& 255 = 77 ↔ c = 77 := by
  constructor
  · intro e
    have := h.bk
    rw [e] at this
    rw [← this]
    decide +kernel
  · intro e
    rw [e]; decide
theorem cnt0 : ∀ k, k < 256 → (1 ≤ k ∧ k ≤ 12 ∧ (nI k).toInt8.toInt32 = nI k) ∨ ((nI k < 1 ∨ ¬ nI k ≤ 12) ∧ ((nI k).toInt8.toInt32 < 1 ∨ 12 < (nI k).toInt8.toInt32)) := by decide +kernel
theorem isIn_0 {c a b : Int32} (h : c < a ∨ b < c) : m_RRef_isIn c a b = some 0 := by
  unfold m_RRef_isIn
  by_cases h1 : c < a
  · rw [if_pos h1]
  · rw [if_neg h1, if_pos (h.resolve_left h1)]
theorem sp_both {g : St_Log} {r : St_Ref} {ts : Nat} (hb : BB 2000 (g_tape g) ts) (hrt : (g_Rtape r).1 = 2000) (hby : ∀ j, By ((g_tape g).1.2 j)) (he : ∀ j, j < ts → (g_tape g).1.2 j = (g_Rtape r).2 j) : ∃ a q, m_Bytes_at (g_tape g) 1 = some q ∧ m_Log_isSavepointOnTape g = some a ∧ m_RRef_isSavepoint r (nI ts) = some a ∧ (a = 0 ∨ (a = 1 ∧ ∃ c : Nat, 1 ≤ c ∧ c ≤ 12 ∧ q = nI c ∧ (g_Rtape r).2 1 = nI c ∧ SPk (g_tape g).1.2 ts c 2)) := by
  have hts := hb.2.2.1
  have a1 : m_Bytes_at (g_tape g) 1 = some ((g_tape g).1.2 1 &&& 255) := by
    have := B_at hb (by omega) (i := 1) (by omega)
    rw [← n1] at this
    exact this
  have a0 : m_Bytes_at (g_tape g) 0 = some ((g_tape g).1.2 0 &&& 255) := B_at hb (by omega) (i := 0) (by omega)
  obtain ⟨k, hk, ek⟩ := b255 ((g_tape g).1.2 1)
  have hbk := (hby 1).bk
  rw [ek] at hbk
  unfold m_Log_isSavepointOnTape m_RRef_isSavepoint
  rw [bs a1, bs a0]
  by_cases hlt : ts < 10
  · refine ⟨0, _, a1, ?_, ?_, Or.inl rfl⟩
    · by_cases h77 : (g_tape g).1.2 0 &&& 255 = 77
      · rw [if_pos h77]
        by_cases z1 : (g_tape g).1.2 1 &&& 255 < 1
        · rw [if_pos z1]
        · rw [if_neg z1]
          by_cases z2 : (g_tape g).1.2 1 &&& 255 ≤ 12
          · rw [if_pos z2, ek]
            have hk0 : 0 < k := by
              rcases Nat.eq_zero_or_pos k with e | e
              · rw [ek, e] at z1
                exact absurd (by decide) z1
              · exact e
            obtain ⟨fu, hfu, -⟩ := fu1 (k := 0) (fuel := FU) (FU_lt (by omega))
            rw [hfu, n2]
            have : m_Log_isSavepointOnTape_L39 g (fu + 1) (nI k) (nI 2) (nI 0) = some 0 := by
              rw [m_Log_isSavepointOnTape_L39, if_neg (nI_ge (by omega) (by omega)), bs (C_isPart0 hb (by omega) (by omega)), if_pos rfl]
            exact this
          · rw [if_neg z2]
      · rw [if_neg h77]
    · rw [n10, if_pos (nI_lt hlt (by omega))]
  · have i0 : ¬ ((0 : Int32) < 0 ∨ 2000 ≤ 0) := by decide
    have i1 : ¬ ((1 : Int32) < 0 ∨ 2000 ≤ 1) := by decide
    rw [n10, if_neg (nI_nlt (by omega) (by omega)), hrt, tn0, tn1, if_neg i0, if_neg i1, ← he 0 (by omega), ← he 1 (by omega)]
    by_cases h77 : (g_tape g).1.2 0 &&& 255 = 77
    · rw [if_pos h77, if_pos ((By77 (hby 0)).mp h77)]
      rcases cnt0 k hk with ⟨z1, z2, z3⟩ | ⟨z1, z2⟩
      · have ec : (g_tape g).1.2 1 = nI k := by rw [← hbk]; exact z3
        have in1 : m_RRef_isIn (nI k) 1 12 = some 1 := by
          unfold m_RRef_isIn
          rw [n1, if_neg (nI_nlt z1 (by omega)), n12, if_neg (nI_nlt z2 (by omega))]
        obtain ⟨a, y1, y2, y3⟩ := sp_L hb hrt he (c := k) (by rw [← he 1 (by omega)]; exact ec) z2 k 0 2 FU FU (by omega) (FU_lt (by omega)) (FU_lt (by omega)) (by omega)
        refine ⟨a, _, a1, ?_, ?_, ?_⟩
        · have z1' : ¬ nI k < 1 := by rw [n1]; exact nI_nlt z1 (by omega)
          have z2' : nI k ≤ 12 := by rw [n12]; exact nI_le z2 (by omega)
          rw [ek, if_neg z1', if_pos z2']
          exact y1
        · rw [ec, bs in1, if_neg e10]
          exact y2
        · rcases y3 with y3 | ⟨y3, y4⟩
          · exact Or.inl y3
          · exact Or.inr ⟨y3, k, z1, z2, ek, ec, y4⟩
      · refine ⟨0, _, a1, ?_, ?_, Or.inl rfl⟩
        · rw [ek]
          by_cases w1 : nI k < 1
          · rw [if_pos w1]
          · rw [if_neg w1, if_neg (z1.resolve_left w1)]
        · rw [hbk] at z2
          rw [bs (isIn_0 z2), if_pos rfl]
    · have h77' : ¬ (g_tape g).1.2 0 = 77 := fun e => h77 ((By77 (hby 0)).mpr e)
      exact ⟨0, _, a1, by rw [if_neg h77], by rw [if_neg h77'], Or.inl rfl⟩
-- IN: rooms for the PARTS
theorem nbv {x : Int32} (h : x = 0 ∨ x = 1) : vp_nar .boolean x = x := by
  rcases h with h | h
  · rw [h]; exact nb0
  · rw [h]; exact nb1
theorem C_copy_L {n : Nat} {y : St_Room} (hy : y.1 = n) (hn : n ≤ 512) (hb : ∀ j, y.2 j = 0 ∨ y.2 j = 1) : ∀ (d fuel i : Nat) (f : Nat → Int32), i + d = n → d < fuel → (∀ j, j < i → f j = y.2 j) → ∃ f', m_Room_copyFrom_L7 y fuel (n, f) (nI i) = some (n, f') ∧ ∀ j, j < n → f' j = y.2 j := by
  intro d
  induction d with
  | zero =>
    intro fuel i f hi hf h
    obtain ⟨fu, rfl, -⟩ := fu1 hf
    refine ⟨f, ?_, fun j hj => h j (by omega)⟩
    rw [m_Room_copyFrom_L7, if_pos (nI_le (by show n ≤ i; omega) (by omega))]
  | succ d ih =>
    intro fuel i f hi hf h
    obtain ⟨fu, rfl, hfu⟩ := fu1 hf
    have ci : (nI i).toNatClampNeg = i := nI_clamp (by omega)
    have i0 : ¬ (nI i < 0 ∨ n ≤ i) := by
      have := nI_in (c := i) (N := n) (by omega) (by omega)
      rw [ci] at this
      exact this
    have hge : ¬ nI n ≤ nI i := nI_ge (by omega) (by omega)
    obtain ⟨f', a1, a2⟩ := ih fu (i + 1) (upd f i (y.2 i)) (by omega) (by omega) (fun j hj => by
      unfold upd
      by_cases e : j = i
      · rw [if_pos e, e]
      · rw [if_neg e]; exact h j (by omega))
    refine ⟨f', ?_, a2⟩
    rw [m_Room_copyFrom_L7]
    refine Eq.trans (if_neg hge) ?_
    rw [hy, ci, nbv (hb i), nI_1]
    refine Eq.trans (if_neg hge) ?_
    refine Eq.trans (if_neg i0) ?_
    refine Eq.trans (if_neg i0) ?_
    exact a1
theorem C_copy {n : Nat} {x y : St_Room} (hx : x.1 = n) (hy : y.1 = n) (hn : n ≤ 512) (hb : ∀ j, y.2 j = 0 ∨ y.2 j = 1) : ∃ f', m_Room_copyFrom x y = some (n, f') ∧ ∀ j, j < n → f' j = y.2 j := by
  obtain ⟨f', a1, a2⟩ := C_copy_L hy hn hb n FU 0 x.2 (by omega) (FU_lt (by omega)) (fun j hj => absurd hj (by omega))
  have hx2 : x = (n, x.2) := Prod.ext hx rfl
  refine ⟨f', ?_, a2⟩
  unfold m_Room_copyFrom
  rw [hx2]
  exact a1
theorem setF_step (f : Nat → Int32) (a d : Nat) (v : Int32) : setF (upd f a v) (a + 1) d v = setF f a (d + 1) v := by
  funext j
  unfold setF upd
  by_cases h : j = a
  · rw [if_pos h, if_neg (by omega), if_pos (by omega)]
  · rw [if_neg h]
    by_cases h2 : a + 1 ≤ j ∧ j < a + 1 + d
    · rw [if_pos h2, if_pos (by omega)]
    · rw [if_neg h2, if_neg (by omega)]
theorem setF_0 (f : Nat → Int32) (a : Nat) (v : Int32) : setF f a 0 v = f := by
  funext j
  unfold setF
  rw [if_neg (by omega)]
theorem ext_Ref {a b : St_Ref} (h0 : g_Rmedium a = g_Rmedium b) (h1 : g_Rrows a = g_Rrows b) (h2 : g_Ropen a = g_Ropen b) (h3 : g_RcutIn a = g_RcutIn b) (h4 : g_Rwritten a = g_Rwritten b) (h5 : g_Rtape a = g_Rtape b) (h6 : g_Rtaped a = g_Rtaped b) (h7 : g_RpNumber a = g_RpNumber b) (h8 : g_RpGroup a = g_RpGroup b) (h9 : g_RpPosition a = g_RpPosition b) (h10 : g_RpLength a = g_RpLength b) (h11 : g_RpRow a = g_RpRow b) (h12 : g_Rparts a = g_Rparts b) (h13 : g_RmNumber a = g_RmNumber b) (h14 : g_RmRow a = g_RmRow b) (h15 : g_RmCount a = g_RmCount b) (h16 : g_RmDigest a = g_RmDigest b) (h17 : g_RmPart a = g_RmPart b) (h18 : g_RmPartRow a = g_RmPartRow b) (h19 : g_RmPartDigest a = g_RmPartDigest b) (h20 : g_Rmarks a = g_Rmarks b) (h21 : g_Rowners a = g_Rowners b) (h22 : g_Rserial a = g_Rserial b) (h23 : g_RlastPart a = g_RlastPart b) (h24 : g_RlastMark a = g_RlastMark b) (h25 : g_Rused a = g_Rused b) (h26 : g_Rdraft a = g_Rdraft b) (h27 : g_Rspoint a = g_Rspoint b) (h28 : g_Rplaces a = g_Rplaces b) : a = b := Prod.ext h0 (Prod.ext h1 (Prod.ext h2 (Prod.ext h3 (Prod.ext h4 (Prod.ext h5 (Prod.ext h6 (Prod.ext h7 (Prod.ext h8 (Prod.ext h9 (Prod.ext h10 (Prod.ext h11 (Prod.ext h12 (Prod.ext h13 (Prod.ext h14 (Prod.ext h15 (Prod.ext h16 (Prod.ext h17 (Prod.ext h18 (Prod.ext h19 (Prod.ext h20 (Prod.ext h21 (Prod.ext h22 (Prod.ext h23 (Prod.ext h24 (Prod.ext h25 (Prod.ext h26 (Prod.ext h27 (h28))))))))))))))))))))))))))))
theorem sr_up (r : St_Ref) (a b p : AI) : s_Rused (s_Rplaces (s_Rused r a) p) b = s_Rplaces (s_Rused r b) p := ext_Ref (by simp only [qR_medium]) (by simp only [qR_rows]) (by simp only [qR_open]) (by simp only [qR_cutIn]) (by simp only [qR_written]) (by simp only [qR_tape]) (by simp only [qR_taped]) (by simp only [qR_pNumber]) (by simp only [qR_pGroup]) (by simp only [qR_pPosition]) (by simp only [qR_pLength]) (by simp only [qR_pRow]) (by simp only [qR_parts]) (by simp only [qR_mNumber]) (by simp only [qR_mRow]) (by simp only [qR_mCount]) (by simp only [qR_mDigest]) (by simp only [qR_mPart]) (by simp only [qR_mPartRow]) (by simp only [qR_mPartDigest]) (by simp only [qR_marks]) (by simp only [qR_owners]) (by simp only [qR_serial]) (by simp only [qR_lastPart]) (by simp only [qR_lastMark]) (by simp only [qR_used]) (by simp only [qR_draft]) (by simp only [qR_spoint]) (by simp only [qR_places])
theorem sr_pl (r : St_Ref) (a b : AI) : s_Rplaces (s_Rplaces r a) b = s_Rplaces r b := rfl
theorem R_i135 {r : St_Ref} {pl : AI} (kk : St_Ref → Int32 → Int32 → Int32 → Int32 → Option (Int32 × St_Ref)) (v2 v3 v4 : Int32) {len w : Nat} (hl : len ≤ 155) (hw : w + (1 + bod len) ≤ 512) : ∀ (d fuel j : Nat) (u : Nat → Int32), j + d = 1 + bod len → d < fuel → m_RRef_in__L135 kk fuel (s_Rplaces (s_Rused r (512, u)) pl) v2 v3 v4 (nI len) (nI w) (nI j) = kk (s_Rplaces (s_Rused r (512, setF u (w + j) d 1)) pl) v2 v3 v4 (nI len) := by
  intro d
  induction d with
  | zero =>
    intro fuel j u hj hf
    obtain ⟨fu, rfl, -⟩ := fu1 hf
    rw [m_RRef_in__L135, bs (R_bodies (by omega)), if_pos (nI_lt (by omega) (by omega)), setF_0]
  | succ d ih =>
    intro fuel j u hj hf
    obtain ⟨fu, rfl, hfu⟩ := fu1 hf
    have ci : (nI (w + j)).toNatClampNeg = w + j := nI_clamp (by omega)
    have i0 : ¬ (nI (w + j) < 0 ∨ 512 ≤ w + j) := by
      have := nI_in (c := w + j) (N := 512) (by omega) (by omega)
      rw [ci] at this
      exact this
    have k := ih fu (j + 1) (upd u (w + j) 1) (by omega) (by omega)
    rw [← Nat.add_assoc, setF_step] at k
    rw [m_RRef_in__L135, bs (R_bodies (by omega)), if_neg (nI_nlt (by omega) (by omega)), nI_add, ci, nb1, nI_1]
    simp only [qR_used]
    rw [if_neg i0, sr_up]
    exact k
/-- the rows that d PARTS get, one behind the other -/
def Pl (n : Nat) (f : Nat → Int32) : Nat → Nat → (Nat → Int32) → (Nat → Nat) → Prop
  | 0, _, _, _ => True
  | d + 1, p, b, ws => runF b (1 + bod (tl f p)) (n - 2) 0 2 = some (ws 0) ∧ Pl n f d (p + 11 + tl f p) (setF b (ws 0) (1 + bod (tl f p)) 1) (fun i => ws (i + 1))
theorem ss_trial (g : St_Log) (a b : St_Room) : s_trial (s_trial g a) b = s_trial g b := rfl
theorem SPk_ge {f : Nat → Int32} {ts : Nat} : ∀ (d p : Nat), SPk f ts d p → p + 8 ≤ ts := by
  intro d
  induction d with
  | zero => intro p h; exact Nat.le_of_eq h
  | succ d ih =>
    intro p h
    have := ih _ h.2.2.2
    omega
theorem rm_L {n c ts : Nat} {g : St_Log} {r0 : St_Ref} (hn : 4 ≤ n ∧ n ≤ 512) (hb : BB 2000 (g_tape g) ts) (hrt : (g_Rtape r0).1 = 2000) (he : ∀ j, j < ts → (g_tape g).1.2 j = (g_Rtape r0).2 j) (hrw : g_Rrows r0 = nI n) (hc : c ≤ 12) : ∀ (d k p fuel fuel' : Nat) (b u pf : Nat → Int32), k + d = c → d < fuel → d < fuel' → SPk (g_tape g).1.2 ts d p → (∀ j, 2 ≤ j → j < n → (u j = 0 ↔ b j = 0)) → (∃ b' u' pf', m_Log_isRoomForSavepoint_L51 fuel (s_trial g (n, b)) (nI c) (nI p) (nI k) = some (0, s_trial g (n, b')) ∧ m_RRef_in__L80 fuel' (s_Rplaces (s_Rused r0 (512, u)) (12, pf)) (nI c) (nI p) (nI k) = some ((-4), s_Rplaces (s_Rused r0 (512, u')) (12, pf'))) ∨ (∃ (b' u' pf' : Nat → Int32) (ws : Nat → Nat), m_Log_isRoomForSavepoint_L51 fuel (s_trial g (n, b)) (nI c) (nI p) (nI k) = some (1, s_trial g (n, b')) ∧ m_RRef_in__L80 fuel' (s_Rplaces (s_Rused r0 (512, u)) (12, pf)) (nI c) (nI p) (nI k) = m_RRef_in__L181 FU (s_Rplaces (s_Rused r0 (512, u')) (12, pf')) (nI c) 2 0 ∧ Pl n (g_tape g).1.2 d p b ws ∧ (∀ i, i < d → pf' (k + i) = nI (ws i)) ∧ ∀ j, j < k → pf' j = pf j) := by
  have hts := hb.2.2.1
  have qt : ∀ x, g_tape (s_trial g x) = g_tape g := fun x => by simp only [q_tape]
  have hbT : ∀ x, BB 2000 (g_tape (s_trial g x)) ts := fun x => by rw [qt]; exact hb
  intro d
  induction d with
  | zero =>
    intro k p fuel fuel' b u pf hk hf hf' hS hub
    obtain ⟨fu, rfl, -⟩ := fu1 hf
    obtain ⟨fv, rfl, -⟩ := fu1 hf'
    right
    refine ⟨b, u, pf, fun _ => 0, ?_, ?_, trivial, fun i hi => absurd hi (by omega), fun j _ => rfl⟩
    · rw [m_Log_isRoomForSavepoint_L51, if_pos (nI_le (by omega) (by omega))]
    · rw [m_RRef_in__L80, if_pos (nI_le (by omega) (by omega))]
  | succ d ih =>
    intro k p fuel fuel' b u pf hk hf hf' hS hub
    obtain ⟨fu, rfl, hfu⟩ := fu1 hf
    obtain ⟨fv, rfl, hfv⟩ := fu1 hf'
    obtain ⟨S1, S2, S3, S4⟩ := hS
    have hl := C_len (hbT (n, b)) (p := p) (by omega)
    rw [qt] at hl
    obtain ⟨l, hld⟩ : ∃ l, l = tl (g_tape g).1.2 p := ⟨_, rfl⟩
    rw [← hld] at S1 S2 S4 hl
    have hrc : 1 ≤ 1 + bod l ∧ 1 + bod l ≤ 1000 := by unfold bod; omega
    have e1 : numF (g_Rtape r0).2 (p + 9) 2 = numF (g_tape g).1.2 (p + 9) 2 := numF_congr (fun i _ h2 => (he i (by omega)).symm)
    have b1 := r_number (x := g_Rtape r0) (a := p + 9) (K := 2) (by rw [hrt]; omega) (by rw [hrt]; omega) (by omega)
    rw [e1] at b1
    have c9 : nI p + 9 = nI (p + 9) := by rw [n9, nI_add]
    have c2 : (2 : Int32) = nI 2 := n2
    have e1b : (1 : Int32) + nI (bod l) = nI (1 + bod l) := by rw [n1, nI_add]
    have el : (numF (g_tape g).1.2 (p + 9) 2).toInt32 = nI l := by rw [hld]; exact (tl_s _ p).1
    have hT : g_trial (s_trial g (n, b)) = (n, b) := by simp only [q_trial]
    have k1 := C_firstRun (x := (n, b)) (n := n) rfl hn hrc
    have k2 := R_room (g := s_Rplaces (s_Rused r0 (512, u)) (12, pf)) (f := u) (n := n) (by simp only [qR_used]) (by simp only [qR_rows]; exact hrw) hn hrc
    rw [runF_congr (b := u) (b' := b) (1 + bod l) (n - 2) 0 2 (fun j j1 j2 => hub j j1 (by omega))] at k2
    have ck : (nI k).toNatClampNeg = k := nI_clamp (by omega)
    have k0 : ¬ (nI k < 0 ∨ 12 ≤ k) := by
      have := nI_in (c := k) (N := 12) (by omega) (by omega)
      rw [ck] at this
      exact this
    have hrtp : g_Rtape (s_Rplaces (s_Rused r0 (512, u)) (12, pf)) = g_Rtape r0 := by simp only [qR_tape]
    have hrpl : g_Rplaces (s_Rplaces (s_Rused r0 (512, u)) (12, pf)) = (12, pf) := by simp only [qR_places]
    have runC : m_Log_isRoomForSavepoint_L51 (fu + 1) (s_trial g (n, b)) (nI c) (nI p) (nI k) = if rv (runF b (1 + bod l) (n - 2) 0 2) = (-1) then some (0, s_trial g (n, b)) else ((m_Room_take (n, b) (rv (runF b (1 + bod l) (n - 2) 0 2)) (nI (1 + bod l))).bind fun q11 => (m_Log_behindPart (s_trial (s_trial g (n, b)) q11) (nI p)).bind fun q12 => m_Log_isRoomForSavepoint_L51 fu (s_trial (s_trial g (n, b)) q11) (nI c) q12 (nI (k + 1))) := by
      rw [m_Log_isRoomForSavepoint_L51, if_neg (nI_ge (by omega) (by omega)), bs hl, bs (C_rowsOfPart (by omega)), hT, bs k1, nI_1]
    have runR : m_RRef_in__L80 (fv + 1) (s_Rplaces (s_Rused r0 (512, u)) (12, pf)) (nI c) (nI p) (nI k) = if rv (runF b (1 + bod l) (n - 2) 0 2) = (-1) then some ((-4), s_Rplaces (s_Rused r0 (512, u)) (12, pf)) else m_RRef_in__L135 (fun (g28 : St_Ref) (v2_29 : Int32) (v3_30 : Int32) (v4_31 : Int32) (v5_32 : Int32) => m_RRef_in__L80 fv g28 v2_29 (v3_30 + (11 + v5_32)) (v4_31 + 1)) FU (s_Rplaces (s_Rused r0 (512, u)) (12, upd pf k (rv (runF b (1 + bod l) (n - 2) 0 2)))) (nI c) (nI p) (nI k) (nI l) (rv (runF b (1 + bod l) (n - 2) 0 2)) 0 := by
      rw [m_RRef_in__L80, if_neg (nI_ge (by omega) (by omega)), hrtp, c9, c2, bs b1, el, bs (R_bodies (by omega)), e1b, bs k2, hrpl, ck, if_neg k0, sr_pl]
    rw [runC, runR]
    cases hrun : runF b (1 + bod l) (n - 2) 0 2 with
    | none =>
      left
      refine ⟨b, u, pf, ?_, ?_⟩
      · rw [if_pos (rv_none rfl)]
      · rw [if_pos (rv_none rfl)]
    | some w =>
      obtain ⟨s1, s2, s3⟩ := runF_spec (n - 2) 0 2 w (by omega) (fun j j1 j2 => absurd j2 (by omega)) hrun
      have hrv : rv (some w) = nI w := rfl
      have hne : ¬ rv (some w) = (-1) := nI_m1 (by omega)
      have hbe := C_behind (hbT (n, setF b w (1 + bod l) 1)) (p := p) (by omega)
      rw [qt, ← hld] at hbe
      have hi := R_i135 (r := r0) (pl := (12, upd pf k (nI w))) (fun (g28 : St_Ref) (v2_29 : Int32) (v3_30 : Int32) (v4_31 : Int32) (v5_32 : Int32) => m_RRef_in__L80 fv g28 v2_29 (v3_30 + (11 + v5_32)) (v4_31 + 1)) (nI c) (nI p) (nI k) (len := l) (w := w) S2 (by omega) (1 + bod l) FU 0 u (by omega) (FU_lt (by omega))
      rw [Nat.add_zero] at hi
      have runC2 : (if rv (some w) = (-1) then some (0, s_trial g (n, b)) else ((m_Room_take (n, b) (rv (some w)) (nI (1 + bod l))).bind fun q11 => (m_Log_behindPart (s_trial (s_trial g (n, b)) q11) (nI p)).bind fun q12 => m_Log_isRoomForSavepoint_L51 fu (s_trial (s_trial g (n, b)) q11) (nI c) q12 (nI (k + 1)))) = m_Log_isRoomForSavepoint_L51 fu (s_trial g (n, setF b w (1 + bod l) 1)) (nI c) (nI (p + 11 + l)) (nI (k + 1)) := by
        rw [if_neg hne, hrv, bs (C_take (x := (n, b)) rfl hn.2 (by omega))]
        refine Eq.trans (bs (show m_Log_behindPart (s_trial (s_trial g (n, b)) (n, setF b w (1 + bod l) 1)) (nI p) = _ from hbe)) ?_
        rw [ss_trial]
      have runR2 : (if rv (some w) = (-1) then some ((-4), s_Rplaces (s_Rused r0 (512, u)) (12, pf)) else m_RRef_in__L135 (fun (g28 : St_Ref) (v2_29 : Int32) (v3_30 : Int32) (v4_31 : Int32) (v5_32 : Int32) => m_RRef_in__L80 fv g28 v2_29 (v3_30 + (11 + v5_32)) (v4_31 + 1)) FU (s_Rplaces (s_Rused r0 (512, u)) (12, upd pf k (rv (some w)))) (nI c) (nI p) (nI k) (nI l) (rv (some w)) 0) = m_RRef_in__L80 fv (s_Rplaces (s_Rused r0 (512, setF u w (1 + bod l) 1)) (12, upd pf k (nI w))) (nI c) (nI (p + 11 + l)) (nI (k + 1)) := by
        rw [if_neg hne, hrv]
        refine Eq.trans hi ?_
        show m_RRef_in__L80 fv _ (nI c) (nI p + (11 + nI l)) (nI k + 1) = _
        rw [n11, nI_add, nI_add, ← Nat.add_assoc, nI_1]
      rw [runC2, runR2]
      rw [hld] at S4
      rcases ih (k + 1) (p + 11 + l) fu fv (setF b w (1 + bod l) 1) (setF u w (1 + bod l) 1) (upd pf k (nI w)) (by omega) (by omega) (by omega) (by rw [hld]; exact S4) (fun j j1 j2 => by
        unfold setF
        by_cases hj : w ≤ j ∧ j < w + (1 + bod l)
        · rw [if_pos hj, if_pos hj]
        · rw [if_neg hj, if_neg hj]; exact hub j j1 j2) with ⟨b', u', pf', y1, y2⟩ | ⟨b', u', pf', ws, y1, y2, y3, y4, y5⟩
      · left
        exact ⟨b', u', pf', y1, y2⟩
      · right
        refine ⟨b', u', pf', fun i => Nat.casesOn (motive := fun _ => Nat) i w (fun i => ws i), y1, y2, ⟨?_, ?_⟩, fun i hi2 => ?_, fun j hj => ?_⟩
        · rw [← hld]; exact hrun
        · rw [← hld]; exact y3
        · cases i with
          | zero =>
            show pf' (k + 0) = nI w
            rw [Nat.add_zero, y5 k (by omega)]
            exact if_pos rfl
          | succ i =>
            show pf' (k + (i + 1)) = nI (ws i)
            rw [← y4 i (by omega), show k + (i + 1) = k + 1 + i by omega]
        · rw [y5 j (by omega)]
          exact if_neg (by omega)
-- IN: the PARTS are written
theorem nI_m5 {w : Nat} (h : w < 2 ^ 31) : ¬ nI w = (-5) := by
  intro e
  have : ¬ nI w < 0 := nI_pos h
  rw [e] at this
  exact this (by decide)
theorem lst_snoc {α : Type} {f f' : Nat → α} {P : Nat} {q : α} (h : lst f' (P + 1) = lst f P ++ [q]) : (∀ j, j < P → f' j = f j) ∧ f' P = q := by
  rw [lst_succ] at h
  obtain ⟨h1, h2⟩ := List.append_inj' h rfl
  refine ⟨fun j hj => ?_, (List.cons.inj h2).1⟩
  have : (lst f' P).getD j (f j) = (lst f P).getD j (f j) := by rw [h1]
  rw [lst_getD f' hj, lst_getD f hj] at this
  exact this
theorem PC_pw {n : Nat} {x : St_Parts} {lp : List PQ} (h : PC n x lp) : lp.Pairwise (fun a b => a.1 < b.1) := by
  rw [← h.2]
  exact lst_pw lp.length (fun i j hi hj => h.1.2.2.2.2 i j hi hj)
theorem add_last {n : Nat} {x x' : St_Parts} {lp lp' : List PQ} {q : PQ} (h : PC n x lp) (h' : PC n x' lp') (hp : lp'.Perm (q :: lp)) (hlt : ∀ z, z ∈ lp → z.1 < q.1) : lp'.length = lp.length + 1 ∧ (∀ j, j < lp.length → crow x' j = crow x j) ∧ crow x' lp.length = q := by
  have pw := PC_pw h
  have pw' := PC_pw h'
  have pw2 : (lp ++ [q]).Pairwise (fun a b => a.1 < b.1) := by
    rw [List.pairwise_append]
    refine ⟨pw, List.pairwise_singleton _ _, fun a ha b hb => ?_⟩
    rw [List.mem_singleton] at hb
    rw [hb]
    exact hlt a ha
  have hp2 : lp'.Perm (lp ++ [q]) := hp.trans (List.perm_append_singleton q lp).symm
  have e : lp' = lp ++ [q] := List.Perm.eq_of_pairwise (le := fun (a b : PQ) => a.1 < b.1) (fun a b _ _ h1 h2 => absurd h1 (Int32.lt_asymm h2)) pw' pw2 hp2
  have hlen : lp'.length = lp.length + 1 := by rw [e, List.length_append]; rfl
  have e2 : lst (crow x') (lp.length + 1) = lst (crow x) lp.length ++ [q] := by
    rw [← hlen, h'.2, h.2, e]
  obtain ⟨k1, k2⟩ := lst_snoc e2
  exact ⟨hlen, k1, k2⟩
theorem MR_mp {n : Nat} {r : St_Ref} {L : List MKQ} (hM : MR r L) {F' : Nat → Int32} (f3 : ∀ j, j < 12 * L.length → F' j = (g_RmPart r).2 j) : MR (s_RmPart r (3240, F')) L := by
  have er : ∀ k, k < L.length → qrow (s_RmPart r (3240, F')) k = qrow r k := by
    intro k hk
    obtain ⟨ck, -, hck, ek⟩ := hM.2.2.2 _ (MR_mem hM hk)
    have ek' : (g_RmCount r).2 k = nI ck := ek
    unfold qrow
    simp only [qR_mNumber, qR_mCount, qR_mRow, qR_mDigest, qR_mPart]
    refine Prod.ext rfl (Prod.ext rfl (Prod.ext rfl (Prod.ext rfl ?_)))
    refine mls_congr (fun i hi => ?_)
    rw [ek', nI_clamp (by omega)] at hi
    exact f3 _ (by omega)
  refine ⟨by simp only [qR_marks]; exact hM.1, hM.2.1, ?_, hM.2.2.2⟩
  rw [lst_congr er]; exact hM.2.2.1
theorem in_W {n c ts GM : Nat} {f pf : Nat → Int32} {lk lm L : List MKQ} (hn : 4 ≤ n ∧ n ≤ 512) (hc : 1 ≤ c ∧ c ≤ 12) (hlm : lm.length < 6) (hG : GM < 1000000000) (hL : L.Perm (lk ++ lm)) : ∀ (d k p fuel fuel' : Nat) (b : Nat → Int32) (ws : Nat → Nat) (g : St_Log) (r : St_Ref) (lp : List PQ) (GP : Nat), k + d = c → d < fuel → d < fuel' → Cr0 n g r → g_isOpen g = 1 → TabC n g lp lk lm → TabR r lp L → Abs n lp lk lm GP GM → Nums g r GP GM → Hds g r → GP + d ≤ 1000000000 → BB 2000 (g_tape g) ts → (g_tape g).1.2 = f → (∀ j, j < ts → f j = (g_Rtape r).2 j) → g_Rplaces r = (12, pf) → SPk f ts d p → Pl n f d p b ws → (∀ j, 2 ≤ j → j < n → (b j = 0 ↔ (g_room g).2 j = 0)) → (∀ i, i < d → pf (k + i) = nI (ws i)) → k ≤ lp.length → (∀ i, i < k → (g_RmPart r).2 (12 * L.length + i) = (crow (g_parts g) (lp.length - k + i)).1) → ∃ a g' r', m_Log_writeSavepoint_L4 fuel g (nI c) (nI p) (nI k) = some (a, g') ∧ m_RRef_in__L181 fuel' r (nI c) (nI p) (nI k) = some (a, r') ∧ Cr0 n g' r' ∧ g_tape g' = g_tape g ∧ fTap r' = fTap r ∧ (g_isOpen g' = 1 → Tab n g' r') := by
  intro d
  induction d with
  | zero =>
    intro k p fuel fuel' b ws g r lp GP hk hf hf' h0 ho hTC hTR hA hN hH hGP hb hfd he hpl hS hPl hbb hpf hkl hmp
    obtain ⟨fu, rfl, -⟩ := fu1 hf
    obtain ⟨fv, rfl, -⟩ := fu1 hf'
    have hkc : k = c := by omega
    subst hkc
    obtain ⟨x', r', lm', L', w1, w2, w3, w4, w5, w6, w7, w8, w9, w10, w11, w12, w13⟩ := w_mark h0.2.1 h0.2.2.1 hn hTC hTR hL hA hN hG hc hkl hlm hmp
    refine ⟨nI (GM + 1), _, r', ?_, ?_, ⟨hn, w3, w4, ?_, ?_⟩, ?_, w6, fun _ => ⟨lp, lk, lm', L', GP, GM + 1, w9, w10, w11, w12, w13, ?_⟩⟩
    · rw [m_Log_writeSavepoint_L4, if_pos (nI_le (by omega) (by omega)), ho, if_neg e10, bs w1]
    · rw [m_RRef_in__L181, if_pos (nI_le (by omega) (by omega)), bs w2]
    · simp only [q_medium]
      rw [rtri_fr w5]
      exact h0.2.2.2.1
    · simp only [q_isOpen]
      rw [e_open w5]
      exact h0.2.2.2.2
    · simp only [q_tape]
    · exact Hds_fr (by simp only [q_owners]) (by simp only [q_serial]) w8 hH
  | succ d ih =>
    intro k p fuel fuel' b ws g r lp GP hk hf hf' h0 ho hTC hTR hA hN hH hGP hb hfd he hpl hS hPl hbb hpf hkl hmp
    obtain ⟨fu, rfl, hfu⟩ := fu1 hf
    obtain ⟨fv, rfl, hfv⟩ := fu1 hf'
    obtain ⟨S1, S2, ⟨bb, S3, S3'⟩, S4⟩ := hS
    obtain ⟨P1, P2⟩ := hPl
    have hts := hb.2.2.1
    have hR := h0.2.2.1
    have hl := C_len hb (p := p) (by omega)
    rw [hfd] at hl
    obtain ⟨l, hld⟩ : ∃ l, l = tl f p := ⟨_, rfl⟩
    obtain ⟨w, hwd⟩ : ∃ w, w = ws 0 := ⟨_, rfl⟩
    rw [← hld] at S1 S2 S4 hl P1 P2
    rw [← hwd] at P1 P2
    have hrc : 1 ≤ 1 + bod l ∧ 1 + bod l ≤ 1000 := by unfold bod; omega
    have hfr : runF (g_room g).2 (1 + bod l) (n - 2) 0 2 = some w := by
      rw [← runF_congr (b := b) (b' := (g_room g).2) (1 + bod l) (n - 2) 0 2 (fun j j1 j2 => hbb j j1 (by omega))]
      exact P1
    obtain ⟨s1, s2, s3⟩ := runF_spec (n - 2) 0 2 w (by omega) (fun j j1 j2 => absurd j2 (by omega)) hfr
    have k1 := C_firstRun (x := g_room g) hTC.2.2.2.1 hn hrc
    rw [hfr] at k1
    have k1' : m_Room_firstRun (g_room g) (nI (1 + bod l)) = some (nI w) := k1
    have a1 := B_at hb (by omega) (i := p) (by omega)
    rw [hfd, S3'] at a1
    have a2 := B_num hb (by omega) (i := p + 1) (K := 8) (by omega)
    rw [hfd] at a2
    have hrt : (g_Rtape r).1 = 2000 := (ri_tape hR).1
    obtain ⟨pos, hpos⟩ : ∃ pos, pos = numF f (p + 1) 8 := ⟨_, rfl⟩
    rw [← hpos] at a2
    have e1 : numF (g_Rtape r).2 (p + 9) 2 = numF f (p + 9) 2 := numF_congr (fun i _ h2 => (he i (by omega)).symm)
    have e2 : numF (g_Rtape r).2 (p + 1) 8 = pos := by rw [hpos]; exact numF_congr (fun i _ h2 => (he i (by omega)).symm)
    have b1 := r_number (x := g_Rtape r) (a := p + 9) (K := 2) (by rw [hrt]; omega) (by rw [hrt]; omega) (by omega)
    have b2 := r_number (x := g_Rtape r) (a := p + 1) (K := 8) (by rw [hrt]; omega) (by rw [hrt]; omega) (by omega)
    rw [e1] at b1
    rw [e2] at b2
    have el : (numF f (p + 9) 2).toInt32 = nI l := by rw [hld]; exact (tl_s _ p).1
    have c9 : nI p + 9 = nI (p + 9) := by rw [n9, nI_add]
    have c1 : nI p + 1 = nI (p + 1) := nI_1 p
    have c11 : nI p + 11 = nI (p + 11) := by rw [n11, nI_add]
    have cp : (nI p).toNatClampNeg = p := nI_clamp (by omega)
    have p0 : ¬ (nI p < 0 ∨ 2000 ≤ p) := by
      have := nI_in (c := p) (N := 2000) (by omega) (by omega)
      rw [cp] at this
      exact this
    have ck : (nI k).toNatClampNeg = k := nI_clamp (by omega)
    have k0 : ¬ (nI k < 0 ∨ 12 ≤ k) := by
      have := nI_in (c := k) (N := 12) (by omega) (by omega)
      rw [ck] at this
      exact this
    have ebr : (g_Rtape r).2 p &&& 255 = nI bb := by rw [← he p (by omega)]; exact S3'
    have epl : ((12, pf) : AI).2 k = nI w := by
      show pf k = nI w
      have := hpf 0 (by omega)
      rw [Nat.add_zero, ← hwd] at this
      exact this
    obtain ⟨g', r', c0, ct, ct2, -, hcase⟩ := w_part h0 ho hTC hTR hA hN (by omega) (fr := p + 11) (len := l) (row := w) (b := bb) pos S3 S2 (by omega) (fun i hi => by rw [hfd]; exact he _ (by omega)) (by omega) (by omega) (fun j j1 j2 => (hTC.2.2.2.2 j (by omega) (by omega)).mp (s3 j j1 j2))
    have hb' : BB 2000 (g_tape g') ts := by rw [ct]; exact hb
    have hbe := C_behind hb' (p := p) (by omega)
    rw [ct, hfd, ← hld] at hbe
    have runC : m_Log_writeSavepoint_L4 (fu + 1) g (nI c) (nI p) (nI k) = ((m_Log_writePart g (nI w) (nI bb) pos (nI (p + 11)) (nI l)).bind fun q12 => (m_Log_behindPart q12.2 (nI p)).bind fun q13 => m_Log_writeSavepoint_L4 fu q12.2 (nI c) q13 (nI (k + 1))) := by
      rw [m_Log_writeSavepoint_L4, if_neg (nI_ge (by omega) (by omega)), ho, if_neg e10, bs hl, bs (C_rowsOfPart (by omega)), bs k1', bs a1, c1, n8, bs a2, c11, nI_1]
    have runR : m_RRef_in__L181 (fv + 1) r (nI c) (nI p) (nI k) = ((m_RRef_writePart_tape r (nI bb) pos (nI (p + 11)) (nI l) (nI w)).bind fun q17 => if q17.1 = (-5) then (some ((-5), q17.2)) else (if ((12 * (g_Rmarks q17.2)) + nI k) < 0 ∨ (g_RmPart q17.2).1 ≤ (((12 * (g_Rmarks q17.2)) + nI k)).toNatClampNeg then none else m_RRef_in__L181 fv (s_RmPart q17.2 ((g_RmPart q17.2).1, upd (g_RmPart q17.2).2 (((12 * (g_Rmarks q17.2)) + nI k)).toNatClampNeg q17.1)) (nI c) (nI (p + 11 + l)) (nI (k + 1)))) := by
      rw [m_RRef_in__L181, if_neg (nI_ge (by omega) (by omega)), c9, n2, bs b1, hrt, cp, if_neg p0, c1, n8, bs b2, hpl, ck, if_neg k0, ebr, el, c11, epl, n11, nI_add, nI_add, ← Nat.add_assoc, nI_1]
    rw [runC, runR]
    rcases hcase with ⟨m1, m2, m3, m4, m5, m6, m7, m8, m9, m10, m11, lp', m12, m13, m14, m15⟩ | ⟨m1, m2, m3⟩
    · obtain ⟨z1, z2, z3⟩ := add_last hTC.1 m13.1 m12 (fun z hz => by
        obtain ⟨y, y1, y2, y3⟩ := (hA.1 z hz).2
        show z.1 < nI (GP + 1)
        rw [y3]
        exact nI_lt (by omega) (by omega))
      have hroom := Abs_room hA hn.2
      have hLl : L.length = lk.length + lm.length := by rw [hL.length_eq, List.length_append]
      have hmk : g_Rmarks r' = nI L.length := m14.2.1
      have h3240 : (g_RmPart r').1 = 3240 := ri_mPart c0.2.2.1
      have ex : (12 : Int32) * nI L.length + nI k = nI (12 * L.length + k) := by rw [n12, pk_mul, nI_add]
      have cx : (nI (12 * L.length + k)).toNatClampNeg = 12 * L.length + k := nI_clamp (by omega)
      have x0 : ¬ (nI (12 * L.length + k) < 0 ∨ 3240 ≤ 12 * L.length + k) := by
        have := nI_in (c := 12 * L.length + k) (N := 3240) (by omega) (by omega)
        rw [cx] at this
        exact this
      obtain ⟨F', hF'⟩ : ∃ F', F' = upd (g_RmPart r').2 (12 * L.length + k) (nI (GP + 1)) := ⟨_, rfl⟩
      have hm5 := nI_m5 (w := GP + 1) (by omega)
      have stepC : ((m_Log_writePart g (nI w) (nI bb) pos (nI (p + 11)) (nI l)).bind fun q12 => (m_Log_behindPart q12.2 (nI p)).bind fun q13 => m_Log_writeSavepoint_L4 fu q12.2 (nI c) q13 (nI (k + 1))) = m_Log_writeSavepoint_L4 fu g' (nI c) (nI (p + 11 + l)) (nI (k + 1)) := by
        refine Eq.trans (bs m1) ?_
        exact bs hbe
      have stepR : ((m_RRef_writePart_tape r (nI bb) pos (nI (p + 11)) (nI l) (nI w)).bind fun q17 => if q17.1 = (-5) then (some ((-5), q17.2)) else (if ((12 * (g_Rmarks q17.2)) + nI k) < 0 ∨ (g_RmPart q17.2).1 ≤ (((12 * (g_Rmarks q17.2)) + nI k)).toNatClampNeg then none else m_RRef_in__L181 fv (s_RmPart q17.2 ((g_RmPart q17.2).1, upd (g_RmPart q17.2).2 (((12 * (g_Rmarks q17.2)) + nI k)).toNatClampNeg q17.1)) (nI c) (nI (p + 11 + l)) (nI (k + 1)))) = m_RRef_in__L181 fv (s_RmPart r' (3240, F')) (nI c) (nI (p + 11 + l)) (nI (k + 1)) := by
        refine Eq.trans (bs m2) ?_
        refine Eq.trans (if_neg hm5) ?_
        simp only
        rw [hmk, ex, cx, h3240, if_neg x0, hF']
      rw [stepC, stepR]
      have hmpr : g_RmPart r' = g_RmPart r := e_mPart m4
      have hR2 : RI n (s_RmPart r' (3240, F')) := rs_mPart (v := (3240, F')) c0.2.2.1 rfl
      have c0' : Cr0 n g' (s_RmPart r' (3240, F')) := ⟨hn, c0.2.1, hR2, by simp only [rtri, qR_medium, qR_cutIn, qR_written]; exact c0.2.2.2.1, by simp only [qR_open]; exact c0.2.2.2.2⟩
      have hTR2 : TabR (s_RmPart r' (3240, F')) lp' L := ⟨PR_fr (by simp only [qf_Par]) m14.1, MR_mp (n := n) m14.2 (fun j hj => by rw [hF']; exact if_neg (by omega))⟩
      have hbits : ∀ j, 2 ≤ j → j < n → (setF b w (1 + bod l) 1 j = 0 ↔ (g_room g').2 j = 0) := by
        intro j j1 j2
        have hpI : pIv (nI (GP + 1), nI bb, nI l, nI w, pos) = (w, 1 + bod l) := by
          unfold pIv
          simp only
          rw [nI_clamp (by omega), nI_clamp (by omega)]
        have hcv : cov (ivs lp' lk) j = (if w ≤ j ∧ j < w + (1 + bod l) then 1 else 0) + cov (ivs lp lk) j := by
          rw [cov_perm (ivs_perm m12 (List.Perm.refl lk)) j]
          show cov (pIv (nI (GP + 1), nI bb, nI l, nI w, pos) :: ivs lp lk) j = _
          rw [hpI, cov_cons]
        rw [m13.2.2.2.2 j j1 j2, hcv]
        unfold setF
        by_cases hj : w ≤ j ∧ j < w + (1 + bod l)
        · rw [if_pos hj, if_pos hj]
          exact ⟨fun e => absurd e (by decide), fun e => absurd e (by omega)⟩
        · rw [if_neg hj, if_neg hj, Nat.zero_add, hbb j j1 j2]
          exact hTC.2.2.2.2 j j1 j2
      obtain ⟨a, g2, r2, y1, y2, y3, y4, y5, y6⟩ := ih (k + 1) (p + 11 + l) fu fv (setF b w (1 + bod l) 1) (fun i => ws (i + 1)) g' (s_RmPart r' (3240, F')) lp' (GP + 1) (by omega) (by omega) (by omega) c0' m3 m13 hTR2 m15 (Nums_fr rfl rfl (by simp only [qf_Ls]) m11) (Hds_fr m9 m10 (by simp only [qf_Hd]; exact m5) hH) (by omega) hb' (by rw [ct]; exact hfd) (fun j hj => by simp only [qR_tape]; rw [e_tape ct2]; exact he j hj) (by simp only [qR_places]; rw [m6]; exact hpl) (by rw [hld] at S4 ⊢; exact S4) (by rw [hld] at P2 ⊢; exact P2) hbits (fun i hi => by rw [show k + 1 + i = k + (i + 1) by omega]; exact hpf (i + 1) (by omega)) (by omega) (fun i hi => by
        simp only [qR_mPart]
        rw [hF', hmpr]
        unfold upd
        by_cases hik : i = k
        · rw [if_pos (by omega), hik, show lp'.length - (k + 1) + k = lp.length by omega, z3]
        · rw [if_neg (by omega), hmp i (by omega), show lp'.length - (k + 1) + i = lp.length - k + i by omega, z2 _ (by omega)])
      refine ⟨a, g2, r2, y1, y2, y3, y4.trans ct, ?_, y6⟩
      rw [y5]
      simp only [qf_Tap]
      exact ct2
    · obtain ⟨fw, rfl, -⟩ := fu1 (k := 0) (fuel := fu) (by omega)
      refine ⟨-5, g', r', ?_, ?_, c0, ct, ct2, fun e => ?_⟩
      · refine Eq.trans (bs m1) ?_
        refine Eq.trans (bs hbe) ?_
        show m_Log_writeSavepoint_L4 (fw + 1) g' (nI c) (nI (p + 11 + l)) (nI (k + 1)) = _
        rw [m_Log_writeSavepoint_L4, m3]
        by_cases hcc : nI c ≤ nI (k + 1)
        · rw [if_pos hcc, if_pos rfl]
        · rw [if_neg hcc, if_pos rfl, if_pos rfl]
      · refine Eq.trans (bs m2) ?_
        exact if_pos rfl
      · rw [m3] at e
        exact absurd e (by decide)
theorem st_in {n : Nat} {g : St_Log} {r : St_Ref} (h : Rel n g r) : ∃ a g' r', m_Log_in_ g = some (a, g') ∧ m_RRef_in_ r = some (a, r') ∧ Rel n g' r' := by
  obtain ⟨⟨hn, hC, hR, ht, ho, ts, hb, t1, t2⟩, hT⟩ := id h
  have hts := hb.2.2.1
  have hcl : ∀ G : St_Log, g_tape G = g_tape g → m_Bytes_clear (g_tape G) = some ((2000, fun _ => 0), 0) := fun G e => by rw [e]; exact B_clear hb (by omega)
  have hrt : (g_Rtape r).1 = 2000 := (ri_tape hR).1
  have hrt0 : (g_Rtape (s_Rtaped r 0)).1 = 2000 := by simp only [qR_tape]; exact hrt
  have t20 : ∀ j, j < ts → (g_tape g).1.2 j = (g_Rtape (s_Rtaped r 0)).2 j := fun j hj => by simp only [qR_tape]; exact t2 j hj
  obtain ⟨a, q, b0, b1, b2, b3⟩ := sp_both (r := s_Rtaped r 0) hb hrt0 (ci_tape hC).2 t20
  unfold m_Log_in_ m_RRef_in_
  rw [bs b0]
  by_cases hop : g_isOpen g = 0
  · have hop' : g_Ropen r = 0 := by rw [← ho]; exact hop
    refine ⟨-3, _, _, ?_, ?_, Rel_wipe h⟩
    · rw [if_pos hop, bs (hcl g rfl)]
    · rw [if_pos hop']
  · have ho1 := open_1 hC hop
    have hop' : ¬ g_Ropen r = 0 := by rw [← ho]; exact hop
    rw [if_neg hop, if_neg hop', bs b1, t1, bs b2]
    rcases b3 with ha | ⟨ha, c, hc1, hc2, hq, hrc, hS⟩
    · refine ⟨-2, _, _, ?_, ?_, Rel_wipe h⟩
      · rw [if_pos ha, bs (hcl g rfl)]
      · rw [if_pos ha]
    · have ha0 : ¬ a = 0 := by rw [ha]; decide
      have hrc' : (g_Rtape r).2 1 = nI c := by
        simp only [qR_tape] at hrc
        exact hrc
      have i1 : ¬ ((1 : Int32) < 0 ∨ 2000 ≤ 1) := by decide
      obtain ⟨lp, lk, lm, L, GP, GM, hTC, hTR, hL, hA, hN, hH⟩ := hT ho1
      have hR0 : RI n (s_Rtaped r 0) := rs_taped hR ⟨0, by omega, n0⟩
      have hTR0 : TabR (s_Rtaped r 0) lp L := TabR_fr (by simp only [qf_Par]) (by simp only [qf_Mrk]) hTR
      have cnt := (R_count hR0 hn.2 hTR0.2 hL hA).1
      have hsm : m_Marks_size (g_made g) = some (nI lm.length) := by unfold m_Marks_size; rw [hTC.2.2.1.1.1.2.1]
      have hlm : lm.length ≤ 6 := hTC.2.2.1.1.1.2.2.1
      have hGP := hA.2.2.2.2.2.1
      have hGM := hA.2.2.2.2.2.2
      rw [if_neg ha0, if_neg ha0, hrt, tn1, if_neg i1, bs cnt, hq, hrc', hN.2.1, hN.2.2.2]
      have full : ∀ (X : Option (Int32 × St_Log)), X = some (0, g) → (X.bind fun q5 => if q5.1 = 0 then ((m_Bytes_clear (g_tape q5.2)).bind fun q9 => some ((-4), (s_tape q5.2 q9))) else ((m_Log_writeSavepoint q5.2 (nI c)).bind fun q7 => (m_Bytes_clear (g_tape q7.2)).bind fun q8 => some (q7.1, (s_tape q7.2 q8)))) = some ((-4), s_tape g ((2000, fun _ => 0), 0)) := by
        intro X hX
        rw [bs hX]
        refine Eq.trans (if_pos rfl) ?_
        exact bs (hcl g rfl)
      unfold m_Log_isRoomForSavepoint
      rw [bs hsm, hN.1, hN.2.2.1, n6, nMO]
      by_cases h6 : lm.length = 6
      · refine ⟨-4, _, _, full _ ?_, ?_, Rel_wipe h⟩
        · rw [if_pos (nI_le (by omega) (by omega))]
        · rw [if_pos (by rw [h6])]
      · have h6' : ¬ nI lm.length = nI 6 := fun e => h6 ((nI_eq (by omega) (by omega)).mp e)
        rw [if_neg (nI_ge (by omega) (by omega)), if_neg h6']
        by_cases h7 : GM < 1000000000
        · have h7' : ¬ nI GM = nI 1000000000 := fun e => absurd ((nI_eq (by omega) (by omega)).mp e) (by omega)
          rw [if_pos (nI_lt h7 (by omega)), if_neg h7', pk_sub (by omega), nI_add]
          by_cases h8 : GP + c ≤ 1000000000
          · rw [if_pos (nI_le (by omega) (by omega)), if_pos (nI_le h8 (by omega))]
            obtain ⟨u, u1, u2⟩ := used_bits hR0 hn.2 hA hTC.2.2.2 hTR0.1 hTR0.2 hL
            obtain ⟨f', v1, v2⟩ := C_copy (x := g_trial g) (y := g_room g) (ci_trial hC) (ci_room hC).1 hn.2 (ci_room hC).2
            rw [bs v1, bs u1]
            have hr0 : s_Rused (s_Rtaped r 0) (512, u) = s_Rplaces (s_Rused (s_Rtaped r 0) (512, u)) (12, (g_Rplaces r).2) := by
              have q1 : (12, (g_Rplaces r).2) = g_Rplaces (s_Rused (s_Rtaped r 0) (512, u)) := by
                simp only [qR_places]
                exact Prod.ext (ri_places hR).symm rfl
              rw [q1]; rfl
            rw [hr0]
            have kRMS := rm_L (n := n) (c := c) (ts := ts) (g := g) (r0 := s_Rtaped r 0) hn hb hrt0 t20 (by simp only [qR_rows]; exact ri_rows hR) hc2 c 0 2 FU FU f' u (g_Rplaces r).2 (by omega) (FU_lt (by omega)) (FU_lt (by omega)) hS (fun j j1 j2 => by rw [u2 j j1 j2, v2 j j2])
            have c0 : ∀ (x : St_Room) (u' pf' : Nat → Int32), x.1 = n → Cr0 n (s_trial g x) (s_Rplaces (s_Rused (s_Rtaped r 0) (512, u')) (12, pf')) := fun x u' pf' hx => by
              refine ⟨hn, cs_trial (v := x) hC hx, rs_places (v := (12, pf')) (rs_used (v := (512, u')) hR0 rfl) rfl, ?_, ?_⟩
              · simp only [q_medium, rtri, qR_medium, qR_cutIn, qR_written]; exact ht
              · simp only [q_isOpen, qR_open]; exact ho
            rcases kRMS with ⟨b', u', pf', y1, y2⟩ | ⟨b', u', pf', ws, y1, y2, y3, y4, -⟩
            · refine ⟨-4, s_tape (s_trial g (n, b')) ((2000, fun _ => 0), 0), _, ?_, y2, ?_⟩
              · refine Eq.trans (bs (show m_Log_isRoomForSavepoint_L51 FU (s_trial g (n, f')) (nI c) 2 0 = _ from y1)) ?_
                refine Eq.trans (if_pos rfl) ?_
                exact bs (hcl (s_trial g (n, b')) (by simp only [q_tape]))
              · refine Rel_fr (Rel_wipe h) (Cor_fin (c0 (n, b') u' pf' rfl) (by simp only [qR_taped])) (fun e => e) rfl rfl rfl rfl rfl rfl rfl rfl (by simp only [qf_Par]) (by simp only [qf_Mrk]) (by simp only [qf_Ls]) (by simp only [qf_Hd])
            · have hTC1 : TabC n (s_trial g (n, b')) lp lk lm := TabC_fr (by simp only [q_parts]) (by simp only [q_kept]) (by simp only [q_made]) (by simp only [q_room]) hTC
              have hTR1 : TabR (s_Rplaces (s_Rused (s_Rtaped r 0) (512, u')) (12, pf')) lp L := TabR_fr (by simp only [qf_Par]) (by simp only [qf_Mrk]) hTR
              have hN1 : Nums (s_trial g (n, b')) (s_Rplaces (s_Rused (s_Rtaped r 0) (512, u')) (12, pf')) GP GM := Nums_fr (by simp only [q_greatestPart]) (by simp only [q_greatestMark]) (by simp only [qf_Ls]) hN
              have hH1 : Hds (s_trial g (n, b')) (s_Rplaces (s_Rused (s_Rtaped r 0) (512, u')) (12, pf')) := Hds_fr (by simp only [q_owners]) (by simp only [q_serial]) (by simp only [qf_Hd]) hH
              obtain ⟨a', g', r', z1, z2, z3, z4, z5, z6⟩ := in_W (n := n) (c := c) (ts := ts) (GM := GM) (f := (g_tape g).1.2) (pf := pf') hn ⟨hc1, hc2⟩ (by omega) h7 hL c 0 2 FU FU f' ws (s_trial g (n, b')) (s_Rplaces (s_Rused (s_Rtaped r 0) (512, u')) (12, pf')) lp GP (by omega) (FU_lt (by omega)) (FU_lt (by omega)) (c0 (n, b') u' pf' rfl) (by simp only [q_isOpen]; exact ho1) hTC1 hTR1 hA hN1 hH1 (by omega) (by simp only [q_tape]; exact hb) (by simp only [q_tape]) (fun j hj => by simp only [qR_tape]; exact t2 j hj) (by simp only [qR_places]) hS y3 (fun j j1 j2 => by simp only [q_room]; rw [v2 j j2]) (fun i hi => y4 i hi) (by omega) (fun i hi => absurd hi (by omega))
              have z4' : g_tape g' = g_tape g := by rw [z4]; simp only [q_tape]
              refine ⟨a', s_tape g' ((2000, fun _ => 0), 0), r', ?_, ?_, Cor_fin z3 ?_, fun e => ?_⟩
              · refine Eq.trans (bs (show m_Log_isRoomForSavepoint_L51 FU (s_trial g (n, f')) (nI c) 2 0 = _ from y1)) ?_
                refine Eq.trans (if_neg e10) ?_
                refine Eq.trans (bs (show m_Log_writeSavepoint (s_trial g (n, b')) (nI c) = _ from z1)) ?_
                exact bs (hcl g' z4')
              · refine Eq.trans (show m_RRef_in__L80 FU _ (nI c) 2 0 = _ from y2) ?_
                exact z2
              · rw [e_taped z5]; simp only [qR_taped]
              · simp only [q_isOpen] at e
                exact Tab_fr (by simp only [q_parts]) (by simp only [q_kept]) (by simp only [q_made]) (by simp only [q_room]) (by simp only [q_greatestPart]) (by simp only [q_greatestMark]) (by simp only [q_owners]) (by simp only [q_serial]) rfl rfl rfl rfl (z6 e)
          · refine ⟨-4, _, _, full _ ?_, ?_, Rel_wipe h⟩
            · rw [if_neg (nI_ge (by omega) (by omega))]
            · rw [if_neg (nI_ge (by omega) (by omega))]
        · have hGe : GM = 1000000000 := by omega
          refine ⟨-4, _, _, full _ ?_, ?_, Rel_wipe h⟩
          · rw [if_neg (nI_nlt (by omega) (by omega))]
          · rw [if_pos (by rw [hGe])]
-- THE START, THE LAW'S STEPS
theorem Rel_0 {n : Nat} (h4 : 4 ≤ n) (h5 : n ≤ 512) : Rel n (G0 n) (R0 n) := by
  have b0 : ∀ N, BBe N ((N, fun _ => 0), 0) := fun N => ⟨0, rfl, n0, Nat.zero_le _, fun _ _ => rfl⟩
  have hPL : PS n ((n, fun _ => 0), (n, fun _ => 0), (n, fun _ => 0), (n, fun _ => 0), (n, fun _ => 0), 0) 0 := ⟨⟨rfl, rfl, rfl, rfl, rfl⟩, n0, Nat.zero_le _, h5, fun i j _ hj => absurd hj (by omega)⟩
  have hMS : ∀ N : Nat, N ≤ 256 → MS N ((N, fun _ => 0), (N, fun _ => 0), (N, fun _ => 0), (N * 12, fun _ => 0), (N, fun _ => 0), 0) 0 := fun N hN => ⟨⟨⟨rfl, rfl, rfl, rfl, rfl⟩, n0, Nat.zero_le _, hN, fun k _ => ⟨0, by omega, n0⟩⟩, fun i j _ hj => absurd hj (by omega)⟩
  have pw : Pw (-1) := Pw_of (by decide) (by decide)
  have hC : CI n (G0 n) := ⟨⟨⟨rfl, rfl, h4, h5⟩, pw, fun _ => By0⟩, ⟨b0 2000, fun _ => By0⟩, b0 224, b0 2002, b0 2002, ⟨rfl, fun _ => Or.inl rfl⟩, rfl, ⟨0, hPL.l⟩, ⟨0, (hMS (n / 2) (by omega)).1⟩, ⟨0, (hMS 6 (by omega)).1⟩, ⟨rfl, fun _ _ => rfl⟩, Or.inr rfl⟩
  have hR : RI n (R0 n) := ⟨⟨rfl, fun _ => By0⟩, rfl, Or.inr rfl, pw, ⟨rfl, fun _ => By0⟩, ⟨0, by omega, n0⟩, rfl, rfl, rfl, rfl, rfl, ⟨0, by omega, n0⟩, rfl, rfl, rfl, rfl, rfl, rfl, rfl, ⟨0, by omega, n0⟩, ⟨rfl, fun _ _ => rfl⟩, rfl, ⟨rfl, fun _ _ => rfl⟩, rfl, rfl⟩
  refine ⟨⟨⟨h4, h5⟩, hC, hR, rfl, rfl, 0, BB0, n0, fun j hj => absurd hj (by omega)⟩, fun _ => ⟨[], [], [], [], 0, 0, ⟨⟨hPL, rfl⟩, ⟨hMS (n / 2) (by omega), rfl⟩, ⟨hMS 6 (by omega), rfl⟩, rfl, fun j _ _ => ⟨fun _ => rfl, fun _ => rfl⟩⟩, ⟨⟨⟨⟨rfl, rfl, rfl, rfl, rfl⟩, n0, by show 0 ≤ 520; omega⟩, fun q => ⟨fun hq => (by cases hq), fun ⟨k, hk, _⟩ => absurd hk (Nat.not_lt_zero _)⟩, fun i j hi => absurd hi (Nat.not_lt_zero _)⟩, n0, by show 0 ≤ 270; omega, rfl, fun m hm => (by cases hm)⟩, List.Perm.refl _, ?_, ⟨n0, n0, n0, n0⟩, ?_⟩⟩
  · refine ⟨fun q hq => (by cases hq), fun q hq => (by cases hq), fun q hq => (by cases hq), ⟨fun i hi => (by cases hi), List.Pairwise.nil⟩, List.Pairwise.nil, by omega, by omega⟩
  · exact ⟨fun _ => 0, 0, rfl, rfl, n0, n0, by omega, fun j _ => ⟨0, by omega, n0⟩⟩
theorem lw_stop {L i : Nat} (hL : L ≤ 2049) (hi : i ≤ 3000) (h : L ≤ i + 3) : Int32.ofNat L - 4 < nI i := by
  show nI L - 4 < nI i
  rw [n4]
  by_cases h4 : L < 4
  · exact Int32.lt_of_lt_of_le (nsub_neg (by omega) h4) (Int32.not_lt.mp (nI_pos (by omega)))
  · rw [pk_sub (by omega)]
    exact nI_lt (by omega) (by omega)
theorem lw_go {L i : Nat} (hL : L ≤ 2049) (h : i + 4 ≤ L) : ¬ (Int32.ofNat L - 4 < nI i) := by
  show ¬ (nI L - 4 < nI i)
  rw [n4, pk_sub (by omega)]
  exact nI_nlt (by omega) (by omega)
theorem lw_in {L i k : Nat} {v : Int32} (hL : L ≤ 2049) (h : i + k < L) (hv : v = nI k) : ¬ (nI i + v < 0 ∨ L ≤ (nI i + v).toNatClampNeg) := by
  rw [hv, nI_add]
  exact nI_in (by omega) (by omega)
