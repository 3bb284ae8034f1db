-- IN: what lies on the TAPE
theorem n7 : (7 : Int32) = nI 7 := by decide +kernel
theorem n9 : (9 : Int32) = nI 9 := by decide +kernel
theorem n10 : (10 : Int32) = nI 10 := by decide +kernel
theorem n11 : (11 : Int32) = nI 11 := by decide +kernel
theorem tn1 : (1 : Int32).toNatClampNeg = 1 := by decide +kernel
theorem tn0 : (0 : Int32).toNatClampNeg = 0 := by decide +kernel
theorem numS_congr {f f' : Nat → Int32} {a : Nat} : ∀ (d : Nat) (acc : Int64) (j : Nat), (∀ i, j ≤ i → i < j + d → f (a + i) = f' (a + i)) → numS f a d acc j = numS f' a d acc j := by
  intro d
  induction d with
  | zero => intro acc j _; rfl
  | succ d ih =>
    intro acc j h
    unfold numS
    rw [h j (Nat.le_refl _) (by omega)]
    exact ih _ (j + 1) (fun i h1 h2 => h i (by omega) (by omega))
theorem numF_congr {f f' : Nat → Int32} {a k : Nat} (h : ∀ i, a ≤ i → i < a + k → f i = f' i) : numF f a k = numF f' a k := numS_congr k 0 0 (fun i _ h2 => h (a + i) (by omega) (by omega))
theorem digS_congr {f f' : Nat → Int32} : ∀ (d : Nat) (acc : Int64) (j : Nat), (∀ i, j ≤ i → i < j + d → f i = f' i) → digS f d acc j = digS f' d acc j := by
  intro d
  induction d with
  | zero => intro acc j _; rfl
  | succ d ih =>
    intro acc j h
    unfold digS
    rw [h j (Nat.le_refl _) (by omega)]
    exact ih _ (j + 1) (fun i h1 h2 => h i (by omega) (by omega))
theorem digF_congr {f f' : Nat → Int32} {a k : Nat} (h : ∀ i, a ≤ i → i < a + k → f i = f' i) : digF f a k = digF f' a k := digS_congr k 0 a h
/-- how long the PART at p says that it is -/
noncomputable def tl (f : Nat → Int32) (p : Nat) : Nat := (numF f (p + 9) 2).toInt32.toNatClampNeg
theorem tl_s (f : Nat → Int32) (p : Nat) : (numF f (p + 9) 2).toInt32 = nI (tl f p) ∧ tl f p ≤ 65535 := by
  obtain ⟨l, h1, h2⟩ := num2 f (p + 9)
  unfold tl
  rw [h2, lN_i, nI_clamp (by omega)]
  exact ⟨rfl, h1⟩
theorem tl_congr {f f' : Nat → Int32} {p : Nat} (h : ∀ i, p + 9 ≤ i → i < p + 11 → f i = f' i) : tl f p = tl f' p := by
  unfold tl
  rw [numF_congr (fun i h1 h2 => h i h1 (by omega))]
/-- d PARTS from p on, and 8 bytes behind them -/
def SPk (f : Nat → Int32) (ts : Nat) : Nat → Nat → Prop
  | 0, p => p + 8 = ts
  | d + 1, p => p + 11 + tl f p ≤ ts ∧ tl f p ≤ 155 ∧ (∃ b : Nat, b < 8 ∧ f p &&& 255 = nI b) ∧ SPk f ts d (p + 11 + tl f p)
theorem C_len {g : St_Log} {ts p : Nat} (hb : BB 2000 (g_tape g) ts) (hp : p + 11 ≤ 2000) : m_Log_lengthOnTape g (nI p) = some (nI (tl (g_tape g).1.2 p)) := by
  unfold m_Log_lengthOnTape
  rw [n9, nI_add, n2, bs (B_num hb (by omega) (i := p + 9) (K := 2) (by omega)), (tl_s _ p).1]
theorem C_behind {g : St_Log} {ts p : Nat} (hb : BB 2000 (g_tape g) ts) (hp : p + 11 ≤ 2000) : m_Log_behindPart g (nI p) = some (nI (p + 11 + tl (g_tape g).1.2 p)) := by
  unfold m_Log_behindPart
  rw [bs (C_len hb hp), n11, nI_add, nI_add]
theorem C_grp {b : Nat} (hb : b < 256) : m_Log_isGroup (nI b) = some (if b < 8 then 1 else 0) := by
  unfold m_Log_isGroup
  rw [if_neg (nI_pos (by omega)), n8]
  by_cases h : b < 8
  · rw [if_neg (nI_ge h (by omega)), if_pos h]
  · rw [if_pos (nI_le (by omega) (by omega)), if_neg h]
theorem C_isPart0 {g : St_Log} {ts p : Nat} (hb : BB 2000 (g_tape g) ts) (hp : p < 100000) (h : ts < p + 11) : m_Log_isPartOnTape g (nI p) = some 0 := by
  have hsz : m_Bytes_size (g_tape g) = some (nI ts) := by unfold m_Bytes_size; rw [hb.2.1]
  unfold m_Log_isPartOnTape
  rw [bs hsz, n11, nI_add, if_pos (nI_lt h (by omega))]
theorem C_isPart {g : St_Log} {ts p : Nat} (hb : BB 2000 (g_tape g) ts) (h : p + 11 ≤ ts) {b : Nat} (hb2 : b < 256) (eb : (g_tape g).1.2 p &&& 255 = nI b) : m_Log_isPartOnTape g (nI p) = some (if b < 8 then (if 155 < tl (g_tape g).1.2 p then 0 else (if ts < p + 11 + tl (g_tape g).1.2 p then 0 else 1)) else 0) := by
  have hsz : m_Bytes_size (g_tape g) = some (nI ts) := by unfold m_Bytes_size; rw [hb.2.1]
  have hts := hb.2.2.1
  have hl := (tl_s (g_tape g).1.2 p).2
  unfold m_Log_isPartOnTape
  rw [bs hsz, n11, nI_add, if_neg (nI_nlt h (by omega)), bs (B_at hb (by omega) (i := p) (by omega)), eb, bs (C_grp hb2)]
  by_cases h8 : b < 8
  · rw [if_pos h8, if_pos h8, if_neg e10, bs (C_len hb (by omega)), n155]
    by_cases h155 : 155 < tl (g_tape g).1.2 p
    · rw [if_pos (nI_lt h155 (by omega)), if_pos h155]
    · rw [if_neg (nI_nlt (by omega) (by omega)), if_neg h155, bs (C_behind hb (by omega)), bs hsz]
      by_cases h2 : ts < p + 11 + tl (g_tape g).1.2 p
      · rw [if_pos (nI_lt h2 (by omega)), if_pos h2]
      · rw [if_neg (nI_nlt (by omega) (by omega)), if_neg h2]
  · rw [if_neg h8, if_neg h8, if_pos rfl]
theorem sp_L {g : St_Log} {r : St_Ref} {ts c : Nat} (hb : BB 2000 (g_tape g) ts) (hrt : (g_Rtape r).1 = 2000) (he : ∀ j, j < ts → (g_tape g).1.2 j = (g_Rtape r).2 j) (hc : (g_Rtape r).2 1 = nI c) (hc12 : c ≤ 12) : ∀ (d k p fuel fuel' : Nat), k + d = c → d < fuel → d < fuel' → p ≤ 2 + 166 * k → ∃ a, m_Log_isSavepointOnTape_L39 g fuel (nI c) (nI p) (nI k) = some a ∧ m_RRef_isSavepoint_L38 r fuel' (nI ts) (nI p) (nI k) = some a ∧ (a = 0 ∨ (a = 1 ∧ SPk (g_tape g).1.2 ts d p)) := by
  have hsz : m_Bytes_size (g_tape g) = some (nI ts) := by unfold m_Bytes_size; rw [hb.2.1]
  have hts := hb.2.2.1
  have i1 : ¬ ((1 : Int32) < 0 ∨ 2000 ≤ 1) := by decide
  intro d
  induction d with
  | zero =>
    intro k p fuel fuel' hk hf hf' hp
    obtain ⟨fu, rfl, -⟩ := fu1 hf
    obtain ⟨fv, rfl, -⟩ := fu1 hf'
    rw [m_Log_isSavepointOnTape_L39, if_pos (nI_le (by omega) (by omega)), bs hsz, m_RRef_isSavepoint_L38, hrt, tn1, if_neg i1, hc, if_pos (nI_le (by omega) (by omega)), n8, nI_add]
    by_cases h : p + 8 = ts
    · have h' : nI (p + 8) = nI ts := by rw [h]
      have e1 : numF (g_Rtape r).2 p 8 = numF (g_tape g).1.2 p 8 := numF_congr (fun i _ h2 => (he i (by omega)).symm)
      have e2 : digF (g_Rtape r).2 0 p = digF (g_tape g).1.2 0 p := digF_congr (fun i _ h2 => (he i (by omega)).symm)
      have b1 := r_number (x := g_Rtape r) (a := p) (K := 8) (by rw [hrt]; omega) (by rw [hrt]; omega) (by omega)
      have b2 : m_RRef_digest (g_Rtape r) 0 (nI p) = some (digF (g_Rtape r).2 0 p) := r_digest (x := g_Rtape r) (a := 0) (K := p) (by rw [hrt]; omega) (by rw [hrt]; omega) (by omega)
      have b3 : m_Bytes_digest (g_tape g) 0 (nI p) = some (digF (g_tape g).1.2 0 p) := B_dig hb (by omega) (a := 0) (b := p) (by omega) (by omega)
      rw [e1] at b1
      rw [e2] at b2
      rw [if_pos h', if_pos h', bs (B_num hb (by omega) (i := p) (K := 8) (by omega)), bs b3, bs b1, bs b2]
      by_cases hz : lg_cmp (numF (g_tape g).1.2 p 8) (digF (g_tape g).1.2 0 p) = 0
      · exact ⟨1, by rw [if_pos hz], by rw [if_pos hz], Or.inr ⟨rfl, h⟩⟩
      · exact ⟨0, by rw [if_neg hz], by rw [if_neg hz], Or.inl rfl⟩
    · have h' : ¬ nI (p + 8) = nI ts := fun e => h ((nI_eq (by omega) (by omega)).mp e)
      exact ⟨0, by rw [if_neg h'], by rw [if_neg h'], Or.inl rfl⟩
  | succ d ih =>
    intro k p fuel fuel' hk hf hf' hp
    obtain ⟨fu, rfl, hfu⟩ := fu1 hf
    obtain ⟨fv, rfl, hfv⟩ := fu1 hf'
    rw [m_Log_isSavepointOnTape_L39, if_neg (nI_ge (by omega) (by omega)), m_RRef_isSavepoint_L38, hrt, tn1, if_neg i1, hc, if_neg (nI_ge (by omega) (by omega))]
    by_cases h1 : ts < p + 11
    · refine ⟨0, ?_, ?_, Or.inl rfl⟩
      · rw [bs (C_isPart0 hb (by omega) h1), if_pos rfl]
      · rw [n11, nI_add, if_pos (nI_lt h1 (by omega))]
    · obtain ⟨b, hb2, eb⟩ := b255 ((g_tape g).1.2 p)
      have hcp := C_isPart hb (p := p) (by omega) hb2 eb
      have hl := (tl_s (g_tape g).1.2 p).2
      have cp : (nI p).toNatClampNeg = p := nI_clamp (by omega)
      have p0 : ¬ (nI p < 0 ∨ 2000 ≤ p) := by
        have := nI_in (c := p) (N := 2000) (by omega) (by omega)
        rw [cp] at this
        exact this
      have eb' : (g_Rtape r).2 p &&& 255 = nI b := by rw [← he p (by omega)]; exact eb
      have e1 : numF (g_Rtape r).2 (p + 9) 2 = numF (g_tape g).1.2 (p + 9) 2 := numF_congr (fun i _ h2 => (he i (by omega)).symm)
      have b1 := r_number (x := g_Rtape r) (a := p + 9) (K := 2) (by rw [hrt]; omega) (by rw [hrt]; omega) (by omega)
      rw [e1] at b1
      have c9 : nI p + 9 = nI (p + 9) := by rw [n9, nI_add]
      have c11 : nI p + 11 = nI (p + 11) := by rw [n11, nI_add]
      have c2 : (2 : Int32) = nI 2 := n2
      rw [bs hcp, c11, if_neg (nI_nlt (by omega) (by omega)), cp, if_neg p0, eb', n7]
      by_cases h8 : b < 8
      · rw [if_pos h8, if_pos (nI_le (by omega) (by omega)), c9, c2, bs b1, (tl_s (g_tape g).1.2 p).1, n155]
        by_cases h155 : 155 < tl (g_tape g).1.2 p
        · refine ⟨0, ?_, ?_, Or.inl rfl⟩
          · rw [if_pos h155, if_pos rfl]
          · rw [if_pos (nI_lt h155 (by omega))]
        · rw [if_neg h155, if_neg (nI_nlt (by omega) (by omega)), nI_add]
          by_cases h2 : ts < p + 11 + tl (g_tape g).1.2 p
          · refine ⟨0, ?_, ?_, Or.inl rfl⟩
            · rw [if_pos h2, if_pos rfl]
            · rw [if_neg (nI_ge h2 (by omega))]
          · rw [if_neg h2, if_neg e10, bs (C_behind hb (by omega)), if_pos (nI_le (by omega) (by omega)), n11, nI_add, nI_add, nI_1, ← Nat.add_assoc]
            obtain ⟨a, z1, z2, z3⟩ := ih (k + 1) (p + 11 + tl (g_tape g).1.2 p) fu fv (by omega) (by omega) (by omega) (by omega)
            refine ⟨a, z1, z2, ?_⟩
            rcases z3 with z3 | ⟨z3, z4⟩
            · exact Or.inl z3
            · exact Or.inr ⟨z3, by omega, by omega, ⟨b, h8, eb⟩, z4⟩
      · refine ⟨0, ?_, ?_, Or.inl rfl⟩
        · rw [if_neg h8, if_pos rfl]
        · rw [if_neg (nI_ge (by omega) (by omega))]
theorem By.bk {c : Int32} (h : By c) : (c &&& 255).toInt8.toInt32 = c := by
  have := h.back
  rw [nar_b, Int8.toInt8_toInt32] at this
  exact this
theorem By77 {c : Int32} (h : By c) : c &&& 255 = 77 ↔ c = 77 := by
  constructor
  · intro e
    have := h.bk
    rw [e] at this
    rw [← this]
    decide +kernel
  · intro e
    rw [e]; decide
theorem cnt0 : ∀ k, k < 256 → (1 ≤ k ∧ k ≤ 12 ∧ (nI k).toInt8.toInt32 = nI k) ∨ ((nI k < 1 ∨ ¬ nI k ≤ 12) ∧ ((nI k).toInt8.toInt32 < 1 ∨ 12 < (nI k).toInt8.toInt32)) := by decide +kernel
theorem isIn_0 {c a b : Int32} (h : c < a ∨ b < c) : m_RRef_isIn c a b = some 0 := by
  unfold m_RRef_isIn
  by_cases h1 : c < a
  · rw [if_pos h1]
  · rw [if_neg h1, if_pos (h.resolve_left h1)]
theorem sp_both {g : St_Log} {r : St_Ref} {ts : Nat} (hb : BB 2000 (g_tape g) ts) (hrt : (g_Rtape r).1 = 2000) (hby : ∀ j, By ((g_tape g).1.2 j)) (he : ∀ j, j < ts → (g_tape g).1.2 j = (g_Rtape r).2 j) : ∃ a q, m_Bytes_at (g_tape g) 1 = some q ∧ m_Log_isSavepointOnTape g = some a ∧ m_RRef_isSavepoint r (nI ts) = some a ∧ (a = 0 ∨ (a = 1 ∧ ∃ c : Nat, 1 ≤ c ∧ c ≤ 12 ∧ q = nI c ∧ (g_Rtape r).2 1 = nI c ∧ SPk (g_tape g).1.2 ts c 2)) := by
  have hts := hb.2.2.1
  have a1 : m_Bytes_at (g_tape g) 1 = some ((g_tape g).1.2 1 &&& 255) := by
    have := B_at hb (by omega) (i := 1) (by omega)
    rw [← n1] at this
    exact this
  have a0 : m_Bytes_at (g_tape g) 0 = some ((g_tape g).1.2 0 &&& 255) := B_at hb (by omega) (i := 0) (by omega)
  obtain ⟨k, hk, ek⟩ := b255 ((g_tape g).1.2 1)
  have hbk := (hby 1).bk
  rw [ek] at hbk
  unfold m_Log_isSavepointOnTape m_RRef_isSavepoint
  rw [bs a1, bs a0]
  by_cases hlt : ts < 10
  · refine ⟨0, _, a1, ?_, ?_, Or.inl rfl⟩
    · by_cases h77 : (g_tape g).1.2 0 &&& 255 = 77
      · rw [if_pos h77]
        by_cases z1 : (g_tape g).1.2 1 &&& 255 < 1
        · rw [if_pos z1]
        · rw [if_neg z1]
          by_cases z2 : (g_tape g).1.2 1 &&& 255 ≤ 12
          · rw [if_pos z2, ek]
            have hk0 : 0 < k := by
              rcases Nat.eq_zero_or_pos k with e | e
              · rw [ek, e] at z1
                exact absurd (by decide) z1
              · exact e
            obtain ⟨fu, hfu, -⟩ := fu1 (k := 0) (fuel := FU) (FU_lt (by omega))
            rw [hfu, n2]
            have : m_Log_isSavepointOnTape_L39 g (fu + 1) (nI k) (nI 2) (nI 0) = some 0 := by
              rw [m_Log_isSavepointOnTape_L39, if_neg (nI_ge (by omega) (by omega)), bs (C_isPart0 hb (by omega) (by omega)), if_pos rfl]
            exact this
          · rw [if_neg z2]
      · rw [if_neg h77]
    · rw [n10, if_pos (nI_lt hlt (by omega))]
  · have i0 : ¬ ((0 : Int32) < 0 ∨ 2000 ≤ 0) := by decide
    have i1 : ¬ ((1 : Int32) < 0 ∨ 2000 ≤ 1) := by decide
    rw [n10, if_neg (nI_nlt (by omega) (by omega)), hrt, tn0, tn1, if_neg i0, if_neg i1, ← he 0 (by omega), ← he 1 (by omega)]
    by_cases h77 : (g_tape g).1.2 0 &&& 255 = 77
    · rw [if_pos h77, if_pos ((By77 (hby 0)).mp h77)]
      rcases cnt0 k hk with ⟨z1, z2, z3⟩ | ⟨z1, z2⟩
      · have ec : (g_tape g).1.2 1 = nI k := by rw [← hbk]; exact z3
        have in1 : m_RRef_isIn (nI k) 1 12 = some 1 := by
          unfold m_RRef_isIn
          rw [n1, if_neg (nI_nlt z1 (by omega)), n12, if_neg (nI_nlt z2 (by omega))]
        obtain ⟨a, y1, y2, y3⟩ := sp_L hb hrt he (c := k) (by rw [← he 1 (by omega)]; exact ec) z2 k 0 2 FU FU (by omega) (FU_lt (by omega)) (FU_lt (by omega)) (by omega)
        refine ⟨a, _, a1, ?_, ?_, ?_⟩
        · have z1' : ¬ nI k < 1 := by rw [n1]; exact nI_nlt z1 (by omega)
          have z2' : nI k ≤ 12 := by rw [n12]; exact nI_le z2 (by omega)
          rw [ek, if_neg z1', if_pos z2']
          exact y1
        · rw [ec, bs in1, if_neg e10]
          exact y2
        · rcases y3 with y3 | ⟨y3, y4⟩
          · exact Or.inl y3
          · exact Or.inr ⟨y3, k, z1, z2, ek, ec, y4⟩
      · refine ⟨0, _, a1, ?_, ?_, Or.inl rfl⟩
        · rw [ek]
          by_cases w1 : nI k < 1
          · rw [if_pos w1]
          · rw [if_neg w1, if_neg (z1.resolve_left w1)]
        · rw [hbk] at z2
          rw [bs (isIn_0 z2), if_pos rfl]
    · have h77' : ¬ (g_tape g).1.2 0 = 77 := fun e => h77 ((By77 (hby 0)).mpr e)
      exact ⟨0, _, a1, by rw [if_neg h77], by rw [if_neg h77'], Or.inl rfl⟩
