-- THE CLASS ANSWERS: whole, usable, out, equal
def is01 (v : Int32) : Prop := v = 0 ∨ v = 1
theorem wholeP_01 (f : Nat → Int32) (num : Int32) (l w : Nat) : is01 (wholeP f num l w) := by
  unfold wholeP is01
  split
  · split
    · exact Or.inl rfl
    · split
      · split
        · split
          · exact Or.inr rfl
          · exact Or.inl rfl
        · exact Or.inl rfl
      · exact Or.inl rfl
  · exact Or.inl rfl
/-- what the class's tables hold while it is open -/
def CT (n : Nat) (g : St_Log) (lp : List PQ) (lk lm : List MKQ) : Prop := (4 ≤ n ∧ n ≤ 512) ∧ CI n g ∧ PC n (g_parts g) lp ∧ MC (n / 2) (g_kept g) lk ∧ MC 6 (g_made g) lm ∧ (∀ q, q ∈ lp → FitP n q) ∧ (∀ m, m ∈ lk → FitK n m) ∧ ∀ m, m ∈ lm → FitM m
theorem t_find {n : Nat} {g : St_Log} {lp : List PQ} {lk lm : List MKQ} (h : CT n g lp lk lm) (v : Int32) : m_Parts_find (g_parts g) v = some (-1) ∨ ∃ i, i < lp.length ∧ m_Parts_find (g_parts g) v = some (nI i) := by
  rcases P_find h.2.2.1.1 v with ⟨e, -⟩ | ⟨i, hi, e, -⟩
  · exact Or.inl e
  · exact Or.inr ⟨i, hi, e⟩
theorem t_part {n : Nat} {g : St_Log} {lp : List PQ} {lk lm : List MKQ} (h : CT n g lp lk lm) {i : Nat} (hi : i < lp.length) : ∃ v, m_Log_isPartWhole g (nI i) = some v := by
  obtain ⟨hn, hC, hP, hK, hM, f1, f2, f3⟩ := h
  obtain ⟨_, _, l, w, _, _, _, _, _, p6, p7, p8, p9, p10⟩ := f1 _ (PC_mem hP hi)
  exact ⟨_, C_isPartWhole (g_mk3 hC) hn hP hi p6 p7 p8 p10⟩
theorem t_entry {n : Nat} {g : St_Log} {lp : List PQ} {lk lm : List MKQ} (h : CT n g lp lk lm) {w k c i : Nat} (hk : k < c) (hc : c ≤ 12) (hw : w + 1 + ent c ≤ n) (hi : i < lp.length) : ∃ v, m_Log_isEntryRight g (nI w) (nI k) (nI i) = some v := by
  obtain ⟨hn, hC, hP, hK, hM, f1, f2, f3⟩ := h
  obtain ⟨_, _, l, w2, _, _, _, _, _, p6, p7, p8, p9, p10⟩ := f1 _ (PC_mem hP hi)
  have hk2 : k / 2 < ent c := by unfold ent; omega
  have hmd := (ci_medium hC).1
  have a1 : m_Parts_rowAt (g_parts g) (nI i) = some (nI w2) := by rw [P_rowAt hP.1.l hi]; exact congrArg some p8
  have e4 : nI (1 + 14 * (k % 2)) + 4 = nI (1 + 14 * (k % 2) + 4) := by rw [n4, nI_add]
  have e6 : nI (1 + 14 * (k % 2)) + 6 = nI (1 + 14 * (k % 2) + 6) := by rw [n6, nI_add]
  have b1 := c_number hmd (row := w + 1 + k / 2) (i := 1 + 14 * (k % 2) + 4) (K := 2) (by omega) (by omega)
  have b2 := c_number hmd (row := w + 1 + k / 2) (i := 1 + 14 * (k % 2) + 6) (K := 8) (by omega) (by omega)
  have b3 := c_number hmd (row := w2) (i := 16) (K := 8) (by omega) (by omega)
  unfold m_Log_isEntryRight
  rw [bs (C_entryRow (by omega)), bs (C_entryByte (by omega)), bs a1, e4, e6, bs (show m_Medium_number (g_medium g) (nI (w + 1 + k / 2)) (nI (1 + 14 * (k % 2) + 4)) 2 = _ from b1)]
  split
  · rw [bs (show m_Medium_number (g_medium g) (nI (w + 1 + k / 2)) (nI (1 + 14 * (k % 2) + 6)) 8 = _ from b2), bs (show m_Medium_number (g_medium g) (nI w2) 16 8 = _ from b3)]
    split
    · exact ⟨_, rfl⟩
    · exact ⟨_, rfl⟩
  · exact ⟨_, rfl⟩
theorem t_keptL {n : Nat} {g : St_Log} {lp : List PQ} {lk lm : List MKQ} (h : CT n g lp lk lm) {i c w : Nat} (hi : i < lk.length) (hc : (g_kept g).2.1.2 i = nI c) (hc2 : c ≤ 12) (hw : w + 1 + ent c ≤ n) : ∀ (d fuel k : Nat), k + d = c → d < fuel → ∃ v, m_Log_isKeptWhole_L21 g fuel (nI i) (nI w) (nI k) = some v ∧ is01 v := by
  intro d
  induction d with
  | zero =>
    intro fuel k hk hf
    obtain ⟨fu, rfl, -⟩ := fu1 hf
    refine ⟨1, ?_, Or.inr rfl⟩
    rw [m_Log_isKeptWhole_L21, bs (M_countAt h.2.2.2.1.1.1 hi), hc, if_pos (nI_le (by omega) (by omega))]
  | succ d ih =>
    intro fuel k hk hf
    obtain ⟨fu, rfl, hf'⟩ := fu1 hf
    have hpa := M_partAt h.2.2.2.1.1.1 hi hc hc2 (nI k)
    rw [m_Log_isKeptWhole_L21, bs (M_countAt h.2.2.2.1.1.1 hi), hc, if_neg (nI_ge (by omega) (by omega)), bs hpa]
    rcases t_find h (if nI k < 0 ∨ nI c ≤ nI k then (-1) else (g_kept g).2.2.2.1.2 (12 * i + (nI k).toNatClampNeg)) with e | ⟨j, hj, e⟩
    · exact ⟨0, by rw [bs e, if_pos rfl], Or.inl rfl⟩
    · have hlp := h.2.2.1.1.2.2
      obtain ⟨v1, e1⟩ := t_entry h (w := w) (k := k) (c := c) (i := j) (by omega) hc2 hw hj
      obtain ⟨v2, e2⟩ := t_part h hj
      rw [bs e, if_neg (nI_m1 (by omega)), bs e1]
      by_cases z1 : v1 = 0
      · exact ⟨0, by rw [if_pos z1], Or.inl rfl⟩
      · rw [if_neg z1, bs e2]
        by_cases z2 : v2 = 0
        · exact ⟨0, by rw [if_pos z2], Or.inl rfl⟩
        · rw [if_neg z2, nI_1]
          exact ih fu (k + 1) (by omega) (by omega)
theorem t_kept {n : Nat} {g : St_Log} {lp : List PQ} {lk lm : List MKQ} (h : CT n g lp lk lm) {i : Nat} (hi : i < lk.length) : ∃ v, m_Log_isKeptWhole g (nI i) = some v ∧ is01 v := by
  obtain ⟨_, c, w, _, _, _, p4, p5, p6, p7, p8, p9⟩ := h.2.2.2.2.2.2.1 _ (MC_mem h.2.2.2.1 hi)
  have a1 := C_isKeptAsFound (g_mk3 h.2.1) h.1 h.2.2.2.1 hi p4 p6 p7 p9
  have a2 : m_Marks_rowAt (g_kept g) (nI i) = some (nI w) := by rw [M_rowAt h.2.2.2.1.1.1 hi]; exact congrArg some p7
  unfold m_Log_isKeptWhole
  rw [bs a1]
  split
  · exact ⟨0, rfl, Or.inl rfl⟩
  · rw [bs a2]
    exact t_keptL h hi p4 p6 p9 c FU 0 (by omega) (FU_lt (by omega))
theorem t_madeL {n : Nat} {g : St_Log} {lp : List PQ} {lk lm : List MKQ} (h : CT n g lp lk lm) {i c : Nat} (hi : i < lm.length) (hc : (g_made g).2.1.2 i = nI c) (hc2 : c ≤ 12) : ∀ (d fuel k : Nat), k + d = c → d < fuel → ∃ v, m_Log_isMadeWhole_L2 g fuel (nI i) (nI k) = some v := by
  intro d
  induction d with
  | zero =>
    intro fuel k hk hf
    obtain ⟨fu, rfl, -⟩ := fu1 hf
    refine ⟨1, ?_⟩
    rw [m_Log_isMadeWhole_L2, bs (M_countAt h.2.2.2.2.1.1.1 hi), hc, if_pos (nI_le (by omega) (by omega))]
  | succ d ih =>
    intro fuel k hk hf
    obtain ⟨fu, rfl, hf'⟩ := fu1 hf
    have hpa := M_partAt h.2.2.2.2.1.1.1 hi hc hc2 (nI k)
    rw [m_Log_isMadeWhole_L2, bs (M_countAt h.2.2.2.2.1.1.1 hi), hc, if_neg (nI_ge (by omega) (by omega)), bs hpa]
    rcases t_find h (if nI k < 0 ∨ nI c ≤ nI k then (-1) else (g_made g).2.2.2.1.2 (12 * i + (nI k).toNatClampNeg)) with e | ⟨j, hj, e⟩
    · exact ⟨0, by rw [bs e, if_pos rfl]⟩
    · have hlp := h.2.2.1.1.2.2
      obtain ⟨v2, e2⟩ := t_part h hj
      rw [bs e, if_neg (nI_m1 (by omega)), bs e2]
      by_cases z2 : v2 = 0
      · exact ⟨0, by rw [if_pos z2]⟩
      · rw [if_neg z2, nI_1]
        exact ih fu (k + 1) (by omega) (by omega)
theorem t_made {n : Nat} {g : St_Log} {lp : List PQ} {lk lm : List MKQ} (h : CT n g lp lk lm) {i : Nat} (hi : i < lm.length) : ∃ v, m_Log_isMadeWhole g (nI i) = some v := by
  obtain ⟨_, c, _, _, _, p4, p5, p6, _⟩ := h.2.2.2.2.2.2.2 _ (MC_mem h.2.2.2.2.1 hi)
  exact t_madeL h hi p4 p6 c FU 0 (by omega) (FU_lt (by omega))
theorem t_markWhole {n : Nat} {g : St_Log} {lp : List PQ} {lk lm : List MKQ} (h : CT n g lp lk lm) (v : Int32) : ∃ b, m_Log_isMarkWhole g v = some b := by
  have h1 := h.2.2.2.1.1.1.2.2
  have h2 := h.2.2.2.2.1.1.1.2.2
  unfold m_Log_isMarkWhole
  rcases C_findM h.2.2.2.1 v with ⟨e, -⟩ | ⟨i, hi, e, -⟩
  · rw [bs e, if_pos rfl]
    rcases C_findM h.2.2.2.2.1 v with ⟨e2, -⟩ | ⟨j, hj, e2, -⟩
    · exact ⟨0, by rw [bs e2, if_pos rfl]⟩
    · obtain ⟨b, hb⟩ := t_made h hj
      rw [bs e2, if_neg (nI_m1 (by omega)), bs hb]
      split
      · exact ⟨_, rfl⟩
      · exact ⟨_, rfl⟩
  · obtain ⟨b, hb, h01⟩ := t_kept h hi
    rw [bs e, if_neg (nI_m1 (by omega)), bs hb]
    exact ⟨b, if_neg (fun z => z h01)⟩
theorem t_tableOf {n : Nat} {g : St_Log} {lp : List PQ} {lk lm : List MKQ} (h : CT n g lp lk lm) (v : Int32) : ∃ a, m_Log_tableOf g v = some a ∧ (a = 0 ∨ a = 1 ∨ a = 2) := by
  obtain ⟨a, ha⟩ : ∃ a, m_Marks_find (g_kept g) v = some a := by
    rcases C_findM h.2.2.2.1 v with ⟨e, -⟩ | ⟨i, hi, e, -⟩
    · exact ⟨_, e⟩
    · exact ⟨_, e⟩
  obtain ⟨b, hb⟩ : ∃ b, m_Marks_find (g_made g) v = some b := by
    rcases C_findM h.2.2.2.2.1 v with ⟨e, -⟩ | ⟨i, hi, e, -⟩
    · exact ⟨_, e⟩
    · exact ⟨_, e⟩
  refine ⟨_, C_tableOf v a b ha hb, ?_⟩
  split
  · split
    · exact Or.inl rfl
    · exact Or.inr (Or.inr rfl)
  · exact Or.inr (Or.inl rfl)
theorem t_usL {n : Nat} {g : St_Log} {lp : List PQ} {lk lm : List MKQ} (h : CT n g lp lk lm) : ∀ (d fuel : Nat) (v1 : Int32), d ≤ lk.length → ((d = 0 ∧ v1 < 0) ∨ (1 ≤ d ∧ v1 = nI (d - 1))) → d < fuel → ∃ b, m_Log_usable_L20 g fuel v1 = some b := by
  have h1 := h.2.2.2.1.1.1.2.2
  intro d
  induction d with
  | zero =>
    intro fuel v1 hd hv hf
    obtain ⟨fu, rfl, -⟩ := fu1 hf
    refine ⟨-1, ?_⟩
    rw [m_Log_usable_L20]
    exact if_pos (hv.resolve_right (fun e => absurd e.1 (by omega))).2
  | succ d ih =>
    intro fuel v1 hd hv hf
    obtain ⟨fu, rfl, hf'⟩ := fu1 hf
    have hv1 : v1 = nI d := (hv.resolve_left (fun e => absurd e.1 (by omega))).2
    subst hv1
    obtain ⟨b, hb, -⟩ := t_kept h (i := d) (by omega)
    rw [m_Log_usable_L20, if_neg (nI_pos (by omega)), bs hb]
    by_cases z : b = 0
    · rw [if_pos z]
      refine ih fu (nI d + (-1)) (by omega) ?_ (by omega)
      by_cases h0 : d = 0
      · left
        subst h0
        exact ⟨rfl, by decide⟩
      · right
        exact ⟨by omega, sb_m1 (by omega)⟩
    · exact ⟨_, by rw [if_neg z, bs (M_numberAt h.2.2.2.1.1.1 (show d < lk.length by omega))]⟩
theorem B_add {N s K : Nat} {x : St_Bytes} (h : BB N x s) (hN : N < 2 ^ 31) (hK : 1 ≤ K ∧ K ≤ 8) (hs : s + K ≤ N) (v : Int64) : ∃ x', m_Bytes_add x v (nI K) = some x' ∧ BB N x' (s + K) := by
  obtain ⟨x', h1, -, h3⟩ := B_put h hN hK hs v
  rw [show max s (s + K) = s + K by omega] at h3
  refine ⟨x', ?_, h3⟩
  unfold m_Bytes_add
  rw [h.2.1]
  exact bs h1
theorem P_groupAt0 {N P : Nat} {x : St_Parts} (h : PL N x P) {v : Int32} (hv : v < 0 ∨ nI P ≤ v) : m_Parts_groupAt x v = some (-1) := by
  unfold m_Parts_groupAt
  rw [bs (P_has0 h hv), if_pos rfl]
theorem P_lengthAt0 {N P : Nat} {x : St_Parts} (h : PL N x P) {v : Int32} (hv : v < 0 ∨ nI P ≤ v) : m_Parts_lengthAt x v = some 0 := by
  unfold m_Parts_lengthAt
  rw [bs (P_has0 h hv), if_pos rfl]
theorem P_positionAt0 {N P : Nat} {x : St_Parts} (h : PL N x P) {v : Int32} (hv : v < 0 ∨ nI P ≤ v) : m_Parts_positionAt x v = some (-1) := by
  unfold m_Parts_positionAt
  rw [bs (P_has0 h hv), if_pos rfl]
