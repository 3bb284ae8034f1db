-- THE CLASS ANSWERS: whole, usable, out, equal
def is01 (v : Int32) : Prop := v = 0 ∨ v = 1
theorem wholeP_01 (f : Nat → Int32) (num : Int32) (l w : Nat) : is01 (wholeP f num l w) := by
  unfold wholeP is01
  split
  · split
    · exact Or.inl rfl
    · split
      · split
        · split
          · exact Or.inr rfl
          · exact Or.inl rfl
        · exact Or.inl rfl
      · exact Or.inl rfl
  · exact Or.inl rfl
/-- what the class's tables hold while it is open -/
def CT (n : Nat) (g : St_Log) (lp : List PQ) (lk lm : List MKQ) : Prop := (4 ≤ n ∧ n ≤ 512) ∧ CI n g ∧ PC n (g_parts g) lp ∧ MC (n / 2) (g_kept g) lk ∧ MC 6 (g_made g) lm ∧ (∀ q, q ∈ lp → FitP n q) ∧ (∀ m, m ∈ lk → FitK n m) ∧ ∀ m, m ∈ lm → FitM m
theorem t_find {n : Nat} {g : St_Log} {lp : List PQ} {lk lm : List MKQ} (h : CT n g lp lk lm) (v : Int32) : m_Parts_find (g_parts g) v = some (-1) ∨ ∃ i, i < lp.length ∧ m_Parts_find (g_parts g) v = some (nI i) := by
  rcases P_find h.2.2.1.1 v with ⟨e, -⟩ | ⟨i, hi, e, -⟩
  · exact Or.inl e
  · exact Or.inr ⟨i, hi, e⟩
theorem t_part {n : Nat} {g : St_Log} {lp : List PQ} {lk lm : List MKQ} (h : CT n g lp lk lm) {i : Nat} (hi : i < lp.length) : ∃ v, m_Log_isPartWhole g (nI i) = some v := by
  obtain ⟨hn, hC, hP, hK, hM, f1, f2, f3⟩ := h
  obtain ⟨_, _, l, w, _, _, _, _, _, p6, p7, p8, p9, p10⟩ := f1 _ (PC_mem hP hi)
  exact ⟨_, C_isPartWhole (g_mk3 hC) hn hP hi p6 p7 p8 p10⟩
theorem t_entry {n : Nat} {g : St_Log} {lp : List PQ} {lk lm : List MKQ} (h : CT n g lp lk lm) {w k c i : Nat} (hk : k < c) (hc : c ≤ 12) (hw : w + 1 + ent c ≤ n) (hi : i < lp.length) : ∃ v, m_Log_isEntryRight g (nI w) (nI k) (nI i) = some v := by
  obtain ⟨hn, hC, hP, hK, hM, f1, f2, f3⟩ := h
  obtain ⟨_, _, l, w2, _, _, _, _, _, p6, p7, p8, p9, p10⟩ := f1 _ (PC_mem hP hi)
  have hk2 : k / 2 < ent c := by unfold ent; omega
  have hmd := (ci_medium hC).1
  have a1 : m_Parts_rowAt (g_parts g) (nI i) = some (nI w2) := by rw [P_rowAt hP.1.l hi]; exact congrArg some p8
  have e4 : nI (1 + 14 * (k % 2)) + 4 = nI (1 + 14 * (k % 2) + 4) := by rw [n4, nI_add]
  have e6 : nI (1 + 14 * (k % 2)) + 6 = nI (1 + 14 * (k % 2) + 6) := by rw [n6, nI_add]
  have b1 := c_number hmd (row := w + 1 + k / 2) (i := 1 + 14 * (k % 2) + 4) (K := 2) (by omega) (by omega)
  have b2 := c_number hmd (row := w + 1 + k / 2) (i := 1 + 14 * (k % 2) + 6) (K := 8) (by omega) (by omega)
  have b3 := c_number hmd (row := w2) (i := 16) (K := 8) (by omega) (by omega)
  unfold m_Log_isEntryRight
  rw [bs (C_entryRow (by omega)), bs (C_entryByte (by omega)), bs a1, e4, e6, bs (show m_Medium_number (g_medium g) (nI (w + 1 + k / 2)) (nI (1 + 14 * (k % 2) + 4)) 2 = _ from b1)]
  split
  · rw [bs (show m_Medium_number (g_medium g) (nI (w + 1 + k / 2)) (nI (1 + 14 * (k % 2) + 6)) 8 = _ from b2), bs (show m_Medium_number (g_medium g) (nI w2) 16 8 = _ from b3)]
    split
    · exact ⟨_, rfl⟩
    · exact ⟨_, rfl⟩
  · exact ⟨_, rfl⟩
theorem t_keptL {n : Nat} {g : St_Log} {lp : List PQ} {lk lm : List MKQ} (h : CT n g lp lk lm) {i c w : Nat} (hi : i < lk.length) (hc : (g_kept g).2.1.2 i = nI c) (hc2 : c ≤ 12) (hw : w + 1 + ent c ≤ n) : ∀ (d fuel k : Nat), k + d = c → d < fuel → ∃ v, m_Log_isKeptWhole_L21 g fuel (nI i) (nI w) (nI k) = some v ∧ is01 v := by
  intro d
  induction d with
  | zero =>
    intro fuel k hk hf
    obtain ⟨fu, rfl, -⟩ := fu1 hf
    refine ⟨1, ?_, Or.inr rfl⟩
    rw [m_Log_isKeptWhole_L21, bs (M_countAt h.2.2.2.1.1.1 hi), hc, if_pos (nI_le (by omega) (by omega))]
  | succ d ih =>
    intro fuel k hk hf
    obtain ⟨fu, rfl, hf'⟩ := fu1 hf
    have hpa := M_partAt h.2.2.2.1.1.1 hi hc hc2 (nI k)
    rw [m_Log_isKeptWhole_L21, bs (M_countAt h.2.2.2.1.1.1 hi), hc, if_neg (nI_ge (by omega) (by omega)), bs hpa]
    rcases t_find h (if nI k < 0 ∨ nI c ≤ nI k then (-1) else (g_kept g).2.2.2.1.2 (12 * i + (nI k).toNatClampNeg)) with e | ⟨j, hj, e⟩
    · exact ⟨0, by rw [bs e, if_pos rfl], Or.inl rfl⟩
    · have hlp := h.2.2.1.1.2.2
      obtain ⟨v1, e1⟩ := t_entry h (w := w) (k := k) (c := c) (i := j) (by omega) hc2 hw hj
      obtain ⟨v2, e2⟩ := t_part h hj
      rw [bs e, if_neg (nI_m1 (by omega)), bs e1]
      by_cases z1 : v1 = 0
      · exact ⟨0, by rw [if_pos z1], Or.inl rfl⟩
      · rw [if_neg z1, bs e2]
        by_cases z2 : v2 = 0
        · exact ⟨0, by rw [if_pos z2], Or.inl rfl⟩
        · rw [if_neg z2, nI_1]
          exact ih fu (k + 1) (by omega) (by omega)
theorem t_kept {n : Nat} {g : St_Log} {lp : List PQ} {lk lm : List MKQ} (h : CT n g lp lk lm) {i : Nat} (hi : i < lk.length) : ∃ v, m_Log_isKeptWhole g (nI i) = some v ∧ is01 v := by
  obtain ⟨_, c, w, _, _, _, p4, p5, p6, p7, p8, p9⟩ := h.2.2.2.2.2.2.1 _ (MC_mem h.2.2.2.1 hi)
  have a1 := C_isKeptAsFound (g_mk3 h.2.1) h.1 h.2.2.2.1 hi p4 p6 p7 p9
  have a2 : m_Marks_rowAt (g_kept g) (nI i) = some (nI w) := by rw [M_rowAt h.2.2.2.1.1.1 hi]; exact congrArg some p7
  unfold m_Log_isKeptWhole
  rw [bs a1]
  split
  · exact ⟨0, rfl, Or.inl rfl⟩
  · rw [bs a2]
    exact t_keptL h hi p4 p6 p9 c FU 0 (by omega) (FU_lt (by omega))
theorem t_madeL {n : Nat} {g : St_Log} {lp : List PQ} {lk lm : List MKQ} (h : CT n g lp lk lm) {i c : Nat} (hi : i < lm.length) (hc : (g_made g).2.1.2 i = nI c) (hc2 : c ≤ 12) : ∀ (d fuel k : Nat), k + d = c → d < fuel → ∃ v, m_Log_isMadeWhole_L2 g fuel (nI i) (nI k) = some v := by
  intro d
  induction d with
  | zero =>
    intro fuel k hk hf
    obtain ⟨fu, rfl, -⟩ := fu1 hf
    refine ⟨1, ?_⟩
    rw [m_Log_isMadeWhole_L2, bs (M_countAt h.2.2.2.2.1.1.1 hi), hc, if_pos (nI_le (by omega) (by omega))]
  | succ d ih =>
    intro fuel k hk hf
    obtain ⟨fu, rfl, hf'⟩ := fu1 hf
    have hpa := M_partAt h.2.2.2.2.1.1.1 hi hc hc2 (nI k)
    rw [m_Log_isMadeWhole_L2, bs (M_countAt h.2.2.2.2.1.1.1 hi), hc, if_neg (nI_ge (by omega) (by omega)), bs hpa]
    rcases t_find h (if nI k < 0 ∨ nI c ≤ nI k then (-1) else (g_made g).2.2.2.1.2 (12 * i + (nI k).toNatClampNeg)) with e | ⟨j, hj, e⟩
    · exact ⟨0, by rw [bs e, if_pos rfl]⟩
    · have hlp := h.2.2.1.1.2.2
      obtain ⟨v2, e2⟩ := t_part h hj
      rw [bs e, if_neg (nI_m1 (by omega)), bs e2]
      by_cases z2 : v2 = 0
      · exact ⟨0, by rw [if_pos z2]⟩
      · rw [if_neg z2, nI_1]
        exact ih fu (k + 1) (by omega) (by omega)
theorem t_made {n : Nat} {g : St_Log} {lp : List PQ} {lk lm : List MKQ} (h : CT n g lp lk lm) {i : Nat} (hi : i < lm.length) : ∃ v, m_Log_isMadeWhole g (nI i) = some v := by
  obtain ⟨_, c, _, _, _, p4, p5, p6, _⟩ := h.2.2.2.2.2.2.2 _ (MC_mem h.2.2.2.2.1 hi)
  exact t_madeL h hi p4 p6 c FU 0 (by omega) (FU_lt (by omega))
theorem t_markWhole {n : Nat} {g : St_Log} {lp : List PQ} {lk lm : List MKQ} (h : CT n g lp lk lm) (v : Int32) : ∃ b, m_Log_isMarkWhole g v = some b := by
  have h1 := h.2.2.2.1.1.1.2.2
  have h2 := h.2.2.2.2.1.1.1.2.2
  unfold m_Log_isMarkWhole
  rcases C_findM h.2.2.2.1 v with ⟨e, -⟩ | ⟨i, hi, e, -⟩
  · rw [bs e, if_pos rfl]
    rcases C_findM h.2.2.2.2.1 v with ⟨e2, -⟩ | ⟨j, hj, e2, -⟩
    · exact ⟨0, by rw [bs e2, if_pos rfl]⟩
    · obtain ⟨b, hb⟩ := t_made h hj
      rw [bs e2, if_neg (nI_m1 (by omega)), bs hb]
      split
      · exact ⟨_, rfl⟩
      · exact ⟨_, rfl⟩
  · obtain ⟨b, hb, h01⟩ := t_kept h hi
    rw [bs e, if_neg (nI_m1 (by omega)), bs hb]
    exact ⟨b, if_neg (fun z => z h01)⟩
theorem t_tableOf {n : Nat} {g : St_Log} {lp : List PQ} {lk lm : List MKQ} (h : CT n g lp lk lm) (v : Int32) : ∃ a, m_Log_tableOf g v = some a ∧ (a = 0 ∨ a = 1 ∨ a = 2) := by
  obtain ⟨a, ha⟩ : ∃ a, m_Marks_find (g_kept g) v = some a := by
    rcases C_findM h.2.2.2.1 v with ⟨e, -⟩ | ⟨i, hi, e, -⟩
    · exact ⟨_, e⟩
    · exact ⟨_, e⟩
  obtain ⟨b, hb⟩ : ∃ b, m_Marks_find (g_made g) v = some b := by
    rcases C_findM h.2.2.2.2.1 v with ⟨e, -⟩ | ⟨i, hi, e, -⟩
    · exact ⟨_, e⟩
    · exact ⟨_, e⟩
  refine ⟨_, C_tableOf v a b ha hb, ?_⟩
  split
  · split
    · exact Or.inl rfl
    · exact Or.inr (Or.inr rfl)
  · exact Or.inr (Or.inl rfl)
theorem t_usL {n : Nat} {g : St_Log} {lp : List PQ} {lk lm : List MKQ} (h : CT n g lp lk lm) : ∀ (d fuel : Nat) (v1 : Int32), d ≤ lk.length → ((d = 0 ∧ v1 < 0) ∨ (1 ≤ d ∧ v1 = nI (d - 1))) → d < fuel → ∃ b, m_Log_usable_L20 g fuel v1 = some b := by
  have h1 := h.2.2.2.1.1.1.2.2
  intro d
  induction d with
  | zero =>
    intro fuel v1 hd hv hf
    obtain ⟨fu, rfl, -⟩ := fu1 hf
    refine ⟨-1, ?_⟩
    rw [m_Log_usable_L20]
    exact if_pos (hv.resolve_right (fun e => absurd e.1 (by omega))).2
  | succ d ih =>
    intro fuel v1 hd hv hf
    obtain ⟨fu, rfl, hf'⟩ := fu1 hf
    have hv1 : v1 = nI d := (hv.resolve_left (fun e => absurd e.1 (by omega))).2
    subst hv1
    obtain ⟨b, hb, -⟩ := t_kept h (i := d) (by omega)
    rw [m_Log_usable_L20, if_neg (nI_pos (by omega)), bs hb]
    by_cases z : b = 0
    · rw [if_pos z]
      refine ih fu (nI d + (-1)) (by omega) ?_ (by omega)
      by_cases h0 : d = 0
      · left
        subst h0
        exact ⟨rfl, by decide⟩
      · right
        exact ⟨by omega, sb_m1 (by omega)⟩
    · exact ⟨_, by rw [if_neg z, bs (M_numberAt h.2.2.2.1.1.1 (show d < lk.length by omega))]⟩
theorem B_add {N s K : Nat} {x : St_Bytes} (h : BB N x s) (hN : N < 2 ^ 31) (hK : 1 ≤ K ∧ K ≤ 8) (hs : s + K ≤ N) (v : Int64) : ∃ x', m_Bytes_add x v (nI K) = some x' ∧ BB N x' (s + K) := by
  obtain ⟨x', h1, -, h3⟩ := B_put h hN hK hs v
  rw [show max s (s + K) = s + K by omega] at h3
  refine ⟨x', ?_, h3⟩
  unfold m_Bytes_add
  rw [h.2.1]
  exact bs h1
theorem P_groupAt0 {N P : Nat} {x : St_Parts} (h : PL N x P) {v : Int32} (hv : v < 0 ∨ nI P ≤ v) : m_Parts_groupAt x v = some (-1) := by
  unfold m_Parts_groupAt
  rw [bs (P_has0 h hv), if_pos rfl]
theorem P_lengthAt0 {N P : Nat} {x : St_Parts} (h : PL N x P) {v : Int32} (hv : v < 0 ∨ nI P ≤ v) : m_Parts_lengthAt x v = some 0 := by
  unfold m_Parts_lengthAt
  rw [bs (P_has0 h hv), if_pos rfl]
theorem P_positionAt0 {N P : Nat} {x : St_Parts} (h : PL N x P) {v : Int32} (hv : v < 0 ∨ nI P ≤ v) : m_Parts_positionAt x v = some (-1) := by
  unfold m_Parts_positionAt
  rw [bs (P_has0 h hv), if_pos rfl]
theorem ss_savepoint (g : St_Log) (a b : St_Bytes) : s_savepoint (s_savepoint g a) b = s_savepoint g b := rfl
theorem CT_savepoint {n : Nat} {g : St_Log} {lp : List PQ} {lk lm : List MKQ} (h : CT n g lp lk lm) {x : St_Bytes} (hx : BBe 2002 x) : CT n (s_savepoint g x) lp lk lm := by
  obtain ⟨hn, hC, hP, hK, hM, f1, f2, f3⟩ := h
  refine ⟨hn, cs_savepoint hC hx, ?_, ?_, ?_, f1, f2, f3⟩
  · simp only [q_parts]; exact hP
  · simp only [q_kept]; exact hK
  · simp only [q_made]; exact hM
theorem t_pO47_savepoint {n : Nat} {g : St_Log} {lp : List PQ} {lk lm : List MKQ} (h : CT n g lp lk lm) {i l w : Nat} (hi : i < lp.length) (hl : l ≤ 155) (hw : (crow (g_parts g) i).2.2.2.1 = nI w) (hw2 : w + 1 + bod l ≤ n) : ∀ (d fuel k s : Nat) (x : St_Bytes), BB 2002 x s → s + d ≤ 2002 → k + d = l → d < fuel → ∃ x', m_Log_drawPartOut_savepoint_L47 fuel (s_savepoint g x) (nI i) (nI l) (nI k) = some (s_savepoint g x') ∧ BB 2002 x' (s + d) := by
  intro d
  induction d with
  | zero =>
    intro fuel k s x hx hs hk hf
    obtain ⟨fu, rfl, -⟩ := fu1 hf
    refine ⟨x, ?_, hx⟩
    rw [m_Log_drawPartOut_savepoint_L47, if_pos (nI_le (by omega) (by omega))]
  | succ d ih =>
    intro fuel k s x hx hs hk hf
    obtain ⟨fu, rfl, hf'⟩ := fu1 hf
    have hb := C_byteOfPart (g := s_savepoint g x) (t := tri (g_medium g)) (lp := lp) (n := n) (by simp only [q_medium]; exact g_mk3 h.2.1) h.1 (by simp only [q_parts]; exact h.2.2.1) hi hl (by simp only [q_parts]; exact hw) hw2 (k := k) (by omega)
    obtain ⟨x1, a1, a2⟩ := B_add hx (by omega) (K := 1) (by omega) (by omega) ((tri (g_medium g)).1 (32 * (w + 1 + k / 31) + (1 + k % 31)) &&& 255).toInt64
    obtain ⟨x', b1, b2⟩ := ih fu (k + 1) (s + 1) x1 a2 (by omega) (by omega) (by omega)
    refine ⟨x', ?_, by rw [show s + (d + 1) = s + 1 + d by omega]; exact b2⟩
    rw [m_Log_drawPartOut_savepoint_L47, if_neg (nI_ge (by omega) (by omega)), bs hb]
    simp only [q_savepoint]
    refine Eq.trans (bs (show m_Bytes_add x _ 1 = some x1 from a1)) ?_
    rw [ss_savepoint, nI_1]
    exact b1
theorem t_pOut_savepoint {n : Nat} {g : St_Log} {lp : List PQ} {lk lm : List MKQ} (h : CT n g lp lk lm) {v : Int32} (hv : v = (-1) ∨ ∃ i, i < lp.length ∧ v = nI i) {s : Nat} {x : St_Bytes} (hx : BB 2002 x s) (hs : s + 166 ≤ 2002) : ∃ x' s', m_Log_drawPartOut_savepoint (s_savepoint g x) v = some (s_savepoint g x') ∧ BB 2002 x' s' ∧ s' ≤ s + 166 := by
  have hPL := h.2.2.1.1.l
  rcases hv with rfl | ⟨i, hi, rfl⟩
  · obtain ⟨x1, a1, a2⟩ := B_add hx (by omega) (K := 1) (by omega) (by omega) (-1 : Int32).toInt64
    obtain ⟨x2, b1, b2⟩ := B_add a2 (by omega) (K := 8) (by omega) (by omega) (-1)
    obtain ⟨x3, c1, c2⟩ := B_add b2 (by omega) (K := 2) (by omega) (by omega) (0 : Int32).toInt64
    refine ⟨x3, s + 1 + 8 + 2, ?_, c2, by omega⟩
    unfold m_Log_drawPartOut_savepoint
    simp only [q_parts, q_savepoint]
    refine Eq.trans (bs (P_lengthAt0 hPL (Or.inl (by decide)))) ?_
    refine Eq.trans (bs (P_groupAt0 hPL (Or.inl (by decide)))) ?_
    refine Eq.trans (bs (show m_Bytes_add x _ 1 = some x1 from a1)) ?_
    refine Eq.trans (bs (P_positionAt0 hPL (Or.inl (by decide)))) ?_
    refine Eq.trans (bs (show m_Bytes_add x1 _ 8 = some x2 from b1)) ?_
    refine Eq.trans (bs (show m_Bytes_add x2 _ 2 = some x3 from c1)) ?_
    obtain ⟨fv, hfv, -⟩ := fu1 (k := 1) (fuel := FU) (FU_lt (by omega))
    rw [ss_savepoint, ss_savepoint, ss_savepoint, hfv, m_Log_drawPartOut_savepoint_L47, if_pos (by decide)]
  · obtain ⟨_, _, l, w, _, _, _, _, _, p6, p7, p8, p9, p10⟩ := h.2.2.2.2.2.1 _ (PC_mem h.2.2.1 hi)
    have e1 : m_Parts_lengthAt (g_parts g) (nI i) = some (nI l) := by rw [P_lengthAt hPL hi]; exact congrArg some p6
    obtain ⟨x1, a1, a2⟩ := B_add hx (by omega) (K := 1) (by omega) (by omega) ((g_parts g).2.1.2 i).toInt64
    obtain ⟨x2, b1, b2⟩ := B_add a2 (by omega) (K := 8) (by omega) (by omega) ((g_parts g).2.2.2.2.1.2 i)
    obtain ⟨x3, c1, c2⟩ := B_add b2 (by omega) (K := 2) (by omega) (by omega) (nI l).toInt64
    obtain ⟨x4, d1, d2⟩ := t_pO47_savepoint h hi p7 p8 p10 l FU 0 (s + 1 + 8 + 2) x3 c2 (by omega) (by omega) (FU_lt (by omega))
    refine ⟨x4, s + 1 + 8 + 2 + l, ?_, d2, by omega⟩
    unfold m_Log_drawPartOut_savepoint
    simp only [q_parts, q_savepoint]
    refine Eq.trans (bs e1) ?_
    refine Eq.trans (bs (P_groupAt hPL hi)) ?_
    refine Eq.trans (bs (show m_Bytes_add x _ 1 = some x1 from a1)) ?_
    refine Eq.trans (bs (P_positionAt hPL hi)) ?_
    refine Eq.trans (bs (show m_Bytes_add x1 _ 8 = some x2 from b1)) ?_
    refine Eq.trans (bs (show m_Bytes_add x2 _ 2 = some x3 from c1)) ?_
    rw [ss_savepoint, ss_savepoint, ss_savepoint]
    exact d1
theorem t_dS49_savepoint {n : Nat} {g : St_Log} {lp : List PQ} {lk lm : List MKQ} (h : CT n g lp lk lm) {i c : Nat} (hi : i < lk.length) (hc : (g_kept g).2.1.2 i = nI c) (hc2 : c ≤ 12) : ∀ (d fuel k s : Nat) (x : St_Bytes), BB 2002 x s → s + 166 * d ≤ 1994 → k + d = c → d < fuel → ∃ x', m_Log_drawSavepoint_savepoint_L49 fuel (s_savepoint g x) (nI i) (nI c) (nI k) = some (s_savepoint g x') ∧ BBe 2002 x' := by
  intro d
  induction d with
  | zero =>
    intro fuel k s x hx hs hk hf
    obtain ⟨fu, rfl, -⟩ := fu1 hf
    obtain ⟨x1, a1, a2⟩ := B_add hx (by omega) (K := 8) (by omega) (by omega) (digF x.1.2 0 (s - 0))
    refine ⟨x1, ?_, _, a2⟩
    have hsz : m_Bytes_size x = some (nI s) := by unfold m_Bytes_size; rw [hx.2.1]
    rw [m_Log_drawSavepoint_savepoint_L49, if_pos (nI_le (by omega) (by omega))]
    simp only [q_savepoint]
    refine Eq.trans (bs hsz) ?_
    refine Eq.trans (bs (show m_Bytes_digest x 0 (nI s) = _ from B_dig hx (by omega) (a := 0) (b := s) (by omega) (by omega))) ?_
    refine Eq.trans (bs (show m_Bytes_add x _ 8 = some x1 from a1)) ?_
    rw [ss_savepoint]
  | succ d ih =>
    intro fuel k s x hx hs hk hf
    obtain ⟨fu, rfl, hf'⟩ := fu1 hf
    have hpa := M_partAt h.2.2.2.1.1.1 hi hc hc2 (nI k)
    obtain ⟨v, hv1, hv2⟩ : ∃ v, m_Parts_find (g_parts g) (if nI k < 0 ∨ nI c ≤ nI k then (-1) else (g_kept g).2.2.2.1.2 (12 * i + (nI k).toNatClampNeg)) = some v ∧ (v = (-1) ∨ ∃ j, j < lp.length ∧ v = nI j) := by
      rcases t_find h (if nI k < 0 ∨ nI c ≤ nI k then (-1) else (g_kept g).2.2.2.1.2 (12 * i + (nI k).toNatClampNeg)) with e | ⟨j, hj, e⟩
      · exact ⟨_, e, Or.inl rfl⟩
      · exact ⟨_, e, Or.inr ⟨j, hj, rfl⟩⟩
    obtain ⟨x1, s1, a1, a2, a3⟩ := t_pOut_savepoint h hv2 hx (by omega)
    obtain ⟨x', b1, b2⟩ := ih fu (k + 1) s1 x1 a2 (by omega) (by omega) (by omega)
    refine ⟨x', ?_, b2⟩
    rw [m_Log_drawSavepoint_savepoint_L49, if_neg (nI_ge (by omega) (by omega))]
    simp only [q_kept, q_parts]
    refine Eq.trans (bs hpa) ?_
    refine Eq.trans (bs hv1) ?_
    refine Eq.trans (bs a1) ?_
    rw [nI_1]
    exact b1
theorem t_dS49a_savepoint {n : Nat} {g : St_Log} {lp : List PQ} {lk lm : List MKQ} (h : CT n g lp lk lm) {i c : Nat} (hi : i < lm.length) (hc : (g_made g).2.1.2 i = nI c) (hc2 : c ≤ 12) : ∀ (d fuel k s : Nat) (x : St_Bytes), BB 2002 x s → s + 166 * d ≤ 1994 → k + d = c → d < fuel → ∃ x', m_Log_drawSavepoint_savepoint_L49a fuel (s_savepoint g x) (nI i) (nI c) (nI k) = some (s_savepoint g x') ∧ BBe 2002 x' := by
  intro d
  induction d with
  | zero =>
    intro fuel k s x hx hs hk hf
    obtain ⟨fu, rfl, -⟩ := fu1 hf
    obtain ⟨x1, a1, a2⟩ := B_add hx (by omega) (K := 8) (by omega) (by omega) (digF x.1.2 0 (s - 0))
    refine ⟨x1, ?_, _, a2⟩
    have hsz : m_Bytes_size x = some (nI s) := by unfold m_Bytes_size; rw [hx.2.1]
    rw [m_Log_drawSavepoint_savepoint_L49a, if_pos (nI_le (by omega) (by omega))]
    simp only [q_savepoint]
    refine Eq.trans (bs hsz) ?_
    refine Eq.trans (bs (show m_Bytes_digest x 0 (nI s) = _ from B_dig hx (by omega) (a := 0) (b := s) (by omega) (by omega))) ?_
    refine Eq.trans (bs (show m_Bytes_add x _ 8 = some x1 from a1)) ?_
    rw [ss_savepoint]
  | succ d ih =>
    intro fuel k s x hx hs hk hf
    obtain ⟨fu, rfl, hf'⟩ := fu1 hf
    have hpa := M_partAt h.2.2.2.2.1.1.1 hi hc hc2 (nI k)
    obtain ⟨v, hv1, hv2⟩ : ∃ v, m_Parts_find (g_parts g) (if nI k < 0 ∨ nI c ≤ nI k then (-1) else (g_made g).2.2.2.1.2 (12 * i + (nI k).toNatClampNeg)) = some v ∧ (v = (-1) ∨ ∃ j, j < lp.length ∧ v = nI j) := by
      rcases t_find h (if nI k < 0 ∨ nI c ≤ nI k then (-1) else (g_made g).2.2.2.1.2 (12 * i + (nI k).toNatClampNeg)) with e | ⟨j, hj, e⟩
      · exact ⟨_, e, Or.inl rfl⟩
      · exact ⟨_, e, Or.inr ⟨j, hj, rfl⟩⟩
    obtain ⟨x1, s1, a1, a2, a3⟩ := t_pOut_savepoint h hv2 hx (by omega)
    obtain ⟨x', b1, b2⟩ := ih fu (k + 1) s1 x1 a2 (by omega) (by omega) (by omega)
    refine ⟨x', ?_, b2⟩
    rw [m_Log_drawSavepoint_savepoint_L49a, if_neg (nI_ge (by omega) (by omega))]
    simp only [q_made, q_parts]
    refine Eq.trans (bs hpa) ?_
    refine Eq.trans (bs hv1) ?_
    refine Eq.trans (bs a1) ?_
    rw [nI_1]
    exact b1
theorem t_draw_savepoint {n : Nat} {g : St_Log} {lp : List PQ} {lk lm : List MKQ} (h : CT n g lp lk lm) (v : Int32) : ∃ x', m_Log_drawSavepoint_savepoint g v = some (s_savepoint g x') ∧ BBe 2002 x' := by
  obtain ⟨s0, hs0⟩ := ci_savepoint h.2.1
  have hcl := B_clear hs0 (by omega)
  have h0 : BB 2002 ((2002, fun _ => 0), 0) 0 := ⟨rfl, rfl, by omega, fun _ _ => rfl⟩
  obtain ⟨x1, a1, a2⟩ := B_add h0 (by omega) (K := 1) (by omega) (by omega) 77
  have h1 := h.2.2.2.1.1.1.2.2
  have h2 := h.2.2.2.2.1.1.1.2.2
  have htb : ∀ a b, m_Marks_find (g_kept g) v = some a → m_Marks_find (g_made g) v = some b → m_Log_tableOf (s_savepoint g ((2002, fun _ => 0), 0)) v = some (if a = (-1) then (if b = (-1) then 0 else 2) else 1) := fun a b ea eb => C_tableOf v a b (by simp only [q_kept]; exact ea) (by simp only [q_made]; exact eb)
  unfold m_Log_drawSavepoint_savepoint
  refine (fun (z : ∃ x', _ ∧ _) => ?_ : (∃ x', ((m_Log_tableOf (s_savepoint g ((2002, fun _ => 0), 0)) v).bind fun q2 => if q2 = 1 then
    ((m_Marks_find (g_kept g) v).bind fun q4 => (m_Marks_countAt (g_kept g) q4).bind fun q5 => (m_Bytes_add ((2002, fun _ => 0), 0) 77 1).bind fun q6 => (m_Bytes_add q6 ((q5).toInt64) 1).bind fun q7 => m_Log_drawSavepoint_savepoint_L49 FU (s_savepoint (s_savepoint (s_savepoint g ((2002, fun _ => 0), 0)) q6) q7) q4 q5 0)
    else if q2 = 2 then
    ((m_Marks_find (g_made g) v).bind fun q16 => (m_Marks_countAt (g_made g) q16).bind fun q17 => (m_Bytes_add ((2002, fun _ => 0), 0) 77 1).bind fun q18 => (m_Bytes_add q18 ((q17).toInt64) 1).bind fun q19 => m_Log_drawSavepoint_savepoint_L49a FU (s_savepoint (s_savepoint (s_savepoint g ((2002, fun _ => 0), 0)) q18) q19) q16 q17 0)
    else some (s_savepoint g ((2002, fun _ => 0), 0))) = some (s_savepoint g x') ∧ BBe 2002 x') → _) ?_
  · obtain ⟨x', z1, z2⟩ := z
    exact ⟨x', (bs hcl).trans z1, z2⟩
  · rcases C_findM h.2.2.2.1 v with ⟨e, -⟩ | ⟨i, hi, e, -⟩
    · rcases C_findM h.2.2.2.2.1 v with ⟨e2, -⟩ | ⟨j, hj, e2, -⟩
      · refine ⟨((2002, fun _ => 0), 0), ?_, 0, h0⟩
        rw [bs (htb _ _ e e2)]
        rfl
      · obtain ⟨_, c, _, _, _, p4, p5, p6, _⟩ := h.2.2.2.2.2.2.2 _ (MC_mem h.2.2.2.2.1 hj)
        have p4' : (g_made g).2.1.2 j = nI c := p4
        obtain ⟨x2, b1, b2⟩ := B_add a2 (by omega) (K := 1) (by omega) (by omega) (nI c).toInt64
        obtain ⟨x3, c1, c2⟩ := t_dS49a_savepoint h hj p4' p6 c FU 0 (0 + 1 + 1) x2 b2 (by omega) (by omega) (FU_lt (by omega))
        refine ⟨x3, ?_, c2⟩
        have hca := M_countAt h.2.2.2.2.1.1.1 hj
        rw [p4'] at hca
        rw [bs (htb _ _ e e2), if_pos rfl, if_neg (nI_m1 (by omega)), if_neg (by decide), if_pos rfl, bs e2, bs hca]
        refine Eq.trans (bs (show m_Bytes_add ((2002, fun _ => 0), 0) 77 1 = some x1 from a1)) ?_
        refine Eq.trans (bs (show m_Bytes_add x1 _ 1 = some x2 from b1)) ?_
        rw [ss_savepoint, ss_savepoint]
        exact c1
    · obtain ⟨_, c, w, _, _, _, p4, p5, p6, _⟩ := h.2.2.2.2.2.2.1 _ (MC_mem h.2.2.2.1 hi)
      have p4' : (g_kept g).2.1.2 i = nI c := p4
      obtain ⟨b, hb⟩ : ∃ b, m_Marks_find (g_made g) v = some b := by
        rcases C_findM h.2.2.2.2.1 v with ⟨e2, -⟩ | ⟨j, hj, e2, -⟩
        · exact ⟨_, e2⟩
        · exact ⟨_, e2⟩
      obtain ⟨x2, b1, b2⟩ := B_add a2 (by omega) (K := 1) (by omega) (by omega) (nI c).toInt64
      obtain ⟨x3, c1, c2⟩ := t_dS49_savepoint h hi p4' p6 c FU 0 (0 + 1 + 1) x2 b2 (by omega) (by omega) (FU_lt (by omega))
      refine ⟨x3, ?_, c2⟩
      have hca := M_countAt h.2.2.2.1.1.1 hi
      rw [p4'] at hca
      rw [bs (htb _ _ e hb), if_neg (nI_m1 (by omega)), if_pos rfl, bs e, bs hca]
      refine Eq.trans (bs (show m_Bytes_add ((2002, fun _ => 0), 0) 77 1 = some x1 from a1)) ?_
      refine Eq.trans (bs (show m_Bytes_add x1 _ 1 = some x2 from b1)) ?_
      rw [ss_savepoint, ss_savepoint]
      exact c1
theorem ss_otherSavepoint (g : St_Log) (a b : St_Bytes) : s_otherSavepoint (s_otherSavepoint g a) b = s_otherSavepoint g b := rfl
theorem CT_otherSavepoint {n : Nat} {g : St_Log} {lp : List PQ} {lk lm : List MKQ} (h : CT n g lp lk lm) {x : St_Bytes} (hx : BBe 2002 x) : CT n (s_otherSavepoint g x) lp lk lm := by
  obtain ⟨hn, hC, hP, hK, hM, f1, f2, f3⟩ := h
  refine ⟨hn, cs_otherSavepoint hC hx, ?_, ?_, ?_, f1, f2, f3⟩
  · simp only [q_parts]; exact hP
  · simp only [q_kept]; exact hK
  · simp only [q_made]; exact hM
theorem t_pO47_otherSavepoint {n : Nat} {g : St_Log} {lp : List PQ} {lk lm : List MKQ} (h : CT n g lp lk lm) {i l w : Nat} (hi : i < lp.length) (hl : l ≤ 155) (hw : (crow (g_parts g) i).2.2.2.1 = nI w) (hw2 : w + 1 + bod l ≤ n) : ∀ (d fuel k s : Nat) (x : St_Bytes), BB 2002 x s → s + d ≤ 2002 → k + d = l → d < fuel → ∃ x', m_Log_drawPartOut_otherSavepoint_L47 fuel (s_otherSavepoint g x) (nI i) (nI l) (nI k) = some (s_otherSavepoint g x') ∧ BB 2002 x' (s + d) := by
  intro d
  induction d with
  | zero =>
    intro fuel k s x hx hs hk hf
    obtain ⟨fu, rfl, -⟩ := fu1 hf
    refine ⟨x, ?_, hx⟩
    rw [m_Log_drawPartOut_otherSavepoint_L47, if_pos (nI_le (by omega) (by omega))]
  | succ d ih =>
    intro fuel k s x hx hs hk hf
    obtain ⟨fu, rfl, hf'⟩ := fu1 hf
    have hb := C_byteOfPart (g := s_otherSavepoint g x) (t := tri (g_medium g)) (lp := lp) (n := n) (by simp only [q_medium]; exact g_mk3 h.2.1) h.1 (by simp only [q_parts]; exact h.2.2.1) hi hl (by simp only [q_parts]; exact hw) hw2 (k := k) (by omega)
    obtain ⟨x1, a1, a2⟩ := B_add hx (by omega) (K := 1) (by omega) (by omega) ((tri (g_medium g)).1 (32 * (w + 1 + k / 31) + (1 + k % 31)) &&& 255).toInt64
    obtain ⟨x', b1, b2⟩ := ih fu (k + 1) (s + 1) x1 a2 (by omega) (by omega) (by omega)
    refine ⟨x', ?_, by rw [show s + (d + 1) = s + 1 + d by omega]; exact b2⟩
    rw [m_Log_drawPartOut_otherSavepoint_L47, if_neg (nI_ge (by omega) (by omega)), bs hb]
    simp only [q_otherSavepoint]
    refine Eq.trans (bs (show m_Bytes_add x _ 1 = some x1 from a1)) ?_
    rw [ss_otherSavepoint, nI_1]
    exact b1
theorem t_pOut_otherSavepoint {n : Nat} {g : St_Log} {lp : List PQ} {lk lm : List MKQ} (h : CT n g lp lk lm) {v : Int32} (hv : v = (-1) ∨ ∃ i, i < lp.length ∧ v = nI i) {s : Nat} {x : St_Bytes} (hx : BB 2002 x s) (hs : s + 166 ≤ 2002) : ∃ x' s', m_Log_drawPartOut_otherSavepoint (s_otherSavepoint g x) v = some (s_otherSavepoint g x') ∧ BB 2002 x' s' ∧ s' ≤ s + 166 := by
  have hPL := h.2.2.1.1.l
  rcases hv with rfl | ⟨i, hi, rfl⟩
  · obtain ⟨x1, a1, a2⟩ := B_add hx (by omega) (K := 1) (by omega) (by omega) (-1 : Int32).toInt64
    obtain ⟨x2, b1, b2⟩ := B_add a2 (by omega) (K := 8) (by omega) (by omega) (-1)
    obtain ⟨x3, c1, c2⟩ := B_add b2 (by omega) (K := 2) (by omega) (by omega) (0 : Int32).toInt64
    refine ⟨x3, s + 1 + 8 + 2, ?_, c2, by omega⟩
    unfold m_Log_drawPartOut_otherSavepoint
    simp only [q_parts, q_otherSavepoint]
    refine Eq.trans (bs (P_lengthAt0 hPL (Or.inl (by decide)))) ?_
    refine Eq.trans (bs (P_groupAt0 hPL (Or.inl (by decide)))) ?_
    refine Eq.trans (bs (show m_Bytes_add x _ 1 = some x1 from a1)) ?_
    refine Eq.trans (bs (P_positionAt0 hPL (Or.inl (by decide)))) ?_
    refine Eq.trans (bs (show m_Bytes_add x1 _ 8 = some x2 from b1)) ?_
    refine Eq.trans (bs (show m_Bytes_add x2 _ 2 = some x3 from c1)) ?_
    obtain ⟨fv, hfv, -⟩ := fu1 (k := 1) (fuel := FU) (FU_lt (by omega))
    rw [ss_otherSavepoint, ss_otherSavepoint, ss_otherSavepoint, hfv, m_Log_drawPartOut_otherSavepoint_L47, if_pos (by decide)]
  · obtain ⟨_, _, l, w, _, _, _, _, _, p6, p7, p8, p9, p10⟩ := h.2.2.2.2.2.1 _ (PC_mem h.2.2.1 hi)
    have e1 : m_Parts_lengthAt (g_parts g) (nI i) = some (nI l) := by rw [P_lengthAt hPL hi]; exact congrArg some p6
    obtain ⟨x1, a1, a2⟩ := B_add hx (by omega) (K := 1) (by omega) (by omega) ((g_parts g).2.1.2 i).toInt64
    obtain ⟨x2, b1, b2⟩ := B_add a2 (by omega) (K := 8) (by omega) (by omega) ((g_parts g).2.2.2.2.1.2 i)
    obtain ⟨x3, c1, c2⟩ := B_add b2 (by omega) (K := 2) (by omega) (by omega) (nI l).toInt64
    obtain ⟨x4, d1, d2⟩ := t_pO47_otherSavepoint h hi p7 p8 p10 l FU 0 (s + 1 + 8 + 2) x3 c2 (by omega) (by omega) (FU_lt (by omega))
    refine ⟨x4, s + 1 + 8 + 2 + l, ?_, d2, by omega⟩
    unfold m_Log_drawPartOut_otherSavepoint
    simp only [q_parts, q_otherSavepoint]
    refine Eq.trans (bs e1) ?_
    refine Eq.trans (bs (P_groupAt hPL hi)) ?_
    refine Eq.trans (bs (show m_Bytes_add x _ 1 = some x1 from a1)) ?_
    refine Eq.trans (bs (P_positionAt hPL hi)) ?_
    refine Eq.trans (bs (show m_Bytes_add x1 _ 8 = some x2 from b1)) ?_
    refine Eq.trans (bs (show m_Bytes_add x2 _ 2 = some x3 from c1)) ?_
    rw [ss_otherSavepoint, ss_otherSavepoint, ss_otherSavepoint]
    exact d1
theorem t_dS49_otherSavepoint {n : Nat} {g : St_Log} {lp : List PQ} {lk lm : List MKQ} (h : CT n g lp lk lm) {i c : Nat} (hi : i < lk.length) (hc : (g_kept g).2.1.2 i = nI c) (hc2 : c ≤ 12) : ∀ (d fuel k s : Nat) (x : St_Bytes), BB 2002 x s → s + 166 * d ≤ 1994 → k + d = c → d < fuel → ∃ x', m_Log_drawSavepoint_otherSavepoint_L49 fuel (s_otherSavepoint g x) (nI i) (nI c) (nI k) = some (s_otherSavepoint g x') ∧ BBe 2002 x' := by
  intro d
  induction d with
  | zero =>
    intro fuel k s x hx hs hk hf
    obtain ⟨fu, rfl, -⟩ := fu1 hf
    obtain ⟨x1, a1, a2⟩ := B_add hx (by omega) (K := 8) (by omega) (by omega) (digF x.1.2 0 (s - 0))
    refine ⟨x1, ?_, _, a2⟩
    have hsz : m_Bytes_size x = some (nI s) := by unfold m_Bytes_size; rw [hx.2.1]
    rw [m_Log_drawSavepoint_otherSavepoint_L49, if_pos (nI_le (by omega) (by omega))]
    simp only [q_otherSavepoint]
    refine Eq.trans (bs hsz) ?_
    refine Eq.trans (bs (show m_Bytes_digest x 0 (nI s) = _ from B_dig hx (by omega) (a := 0) (b := s) (by omega) (by omega))) ?_
    refine Eq.trans (bs (show m_Bytes_add x _ 8 = some x1 from a1)) ?_
    rw [ss_otherSavepoint]
  | succ d ih =>
    intro fuel k s x hx hs hk hf
    obtain ⟨fu, rfl, hf'⟩ := fu1 hf
    have hpa := M_partAt h.2.2.2.1.1.1 hi hc hc2 (nI k)
    obtain ⟨v, hv1, hv2⟩ : ∃ v, m_Parts_find (g_parts g) (if nI k < 0 ∨ nI c ≤ nI k then (-1) else (g_kept g).2.2.2.1.2 (12 * i + (nI k).toNatClampNeg)) = some v ∧ (v = (-1) ∨ ∃ j, j < lp.length ∧ v = nI j) := by
      rcases t_find h (if nI k < 0 ∨ nI c ≤ nI k then (-1) else (g_kept g).2.2.2.1.2 (12 * i + (nI k).toNatClampNeg)) with e | ⟨j, hj, e⟩
      · exact ⟨_, e, Or.inl rfl⟩
      · exact ⟨_, e, Or.inr ⟨j, hj, rfl⟩⟩
    obtain ⟨x1, s1, a1, a2, a3⟩ := t_pOut_otherSavepoint h hv2 hx (by omega)
    obtain ⟨x', b1, b2⟩ := ih fu (k + 1) s1 x1 a2 (by omega) (by omega) (by omega)
    refine ⟨x', ?_, b2⟩
    rw [m_Log_drawSavepoint_otherSavepoint_L49, if_neg (nI_ge (by omega) (by omega))]
    simp only [q_kept, q_parts]
    refine Eq.trans (bs hpa) ?_
    refine Eq.trans (bs hv1) ?_
    refine Eq.trans (bs a1) ?_
    rw [nI_1]
    exact b1
theorem t_dS49a_otherSavepoint {n : Nat} {g : St_Log} {lp : List PQ} {lk lm : List MKQ} (h : CT n g lp lk lm) {i c : Nat} (hi : i < lm.length) (hc : (g_made g).2.1.2 i = nI c) (hc2 : c ≤ 12) : ∀ (d fuel k s : Nat) (x : St_Bytes), BB 2002 x s → s + 166 * d ≤ 1994 → k + d = c → d < fuel → ∃ x', m_Log_drawSavepoint_otherSavepoint_L49a fuel (s_otherSavepoint g x) (nI i) (nI c) (nI k) = some (s_otherSavepoint g x') ∧ BBe 2002 x' := by
  intro d
  induction d with
  | zero =>
    intro fuel k s x hx hs hk hf
    obtain ⟨fu, rfl, -⟩ := fu1 hf
    obtain ⟨x1, a1, a2⟩ := B_add hx (by omega) (K := 8) (by omega) (by omega) (digF x.1.2 0 (s - 0))
    refine ⟨x1, ?_, _, a2⟩
    have hsz : m_Bytes_size x = some (nI s) := by unfold m_Bytes_size; rw [hx.2.1]
    rw [m_Log_drawSavepoint_otherSavepoint_L49a, if_pos (nI_le (by omega) (by omega))]
    simp only [q_otherSavepoint]
    refine Eq.trans (bs hsz) ?_
    refine Eq.trans (bs (show m_Bytes_digest x 0 (nI s) = _ from B_dig hx (by omega) (a := 0) (b := s) (by omega) (by omega))) ?_
    refine Eq.trans (bs (show m_Bytes_add x _ 8 = some x1 from a1)) ?_
    rw [ss_otherSavepoint]
  | succ d ih =>
    intro fuel k s x hx hs hk hf
    obtain ⟨fu, rfl, hf'⟩ := fu1 hf
    have hpa := M_partAt h.2.2.2.2.1.1.1 hi hc hc2 (nI k)
    obtain ⟨v, hv1, hv2⟩ : ∃ v, m_Parts_find (g_parts g) (if nI k < 0 ∨ nI c ≤ nI k then (-1) else (g_made g).2.2.2.1.2 (12 * i + (nI k).toNatClampNeg)) = some v ∧ (v = (-1) ∨ ∃ j, j < lp.length ∧ v = nI j) := by
      rcases t_find h (if nI k < 0 ∨ nI c ≤ nI k then (-1) else (g_made g).2.2.2.1.2 (12 * i + (nI k).toNatClampNeg)) with e | ⟨j, hj, e⟩
      · exact ⟨_, e, Or.inl rfl⟩
      · exact ⟨_, e, Or.inr ⟨j, hj, rfl⟩⟩
    obtain ⟨x1, s1, a1, a2, a3⟩ := t_pOut_otherSavepoint h hv2 hx (by omega)
    obtain ⟨x', b1, b2⟩ := ih fu (k + 1) s1 x1 a2 (by omega) (by omega) (by omega)
    refine ⟨x', ?_, b2⟩
    rw [m_Log_drawSavepoint_otherSavepoint_L49a, if_neg (nI_ge (by omega) (by omega))]
    simp only [q_made, q_parts]
    refine Eq.trans (bs hpa) ?_
    refine Eq.trans (bs hv1) ?_
    refine Eq.trans (bs a1) ?_
    rw [nI_1]
    exact b1
theorem t_draw_otherSavepoint {n : Nat} {g : St_Log} {lp : List PQ} {lk lm : List MKQ} (h : CT n g lp lk lm) (v : Int32) : ∃ x', m_Log_drawSavepoint_otherSavepoint g v = some (s_otherSavepoint g x') ∧ BBe 2002 x' := by
  obtain ⟨s0, hs0⟩ := ci_otherSavepoint h.2.1
  have hcl := B_clear hs0 (by omega)
  have h0 : BB 2002 ((2002, fun _ => 0), 0) 0 := ⟨rfl, rfl, by omega, fun _ _ => rfl⟩
  obtain ⟨x1, a1, a2⟩ := B_add h0 (by omega) (K := 1) (by omega) (by omega) 77
  have h1 := h.2.2.2.1.1.1.2.2
  have h2 := h.2.2.2.2.1.1.1.2.2
  have htb : ∀ a b, m_Marks_find (g_kept g) v = some a → m_Marks_find (g_made g) v = some b → m_Log_tableOf (s_otherSavepoint g ((2002, fun _ => 0), 0)) v = some (if a = (-1) then (if b = (-1) then 0 else 2) else 1) := fun a b ea eb => C_tableOf v a b (by simp only [q_kept]; exact ea) (by simp only [q_made]; exact eb)
  unfold m_Log_drawSavepoint_otherSavepoint
  refine (fun (z : ∃ x', _ ∧ _) => ?_ : (∃ x', ((m_Log_tableOf (s_otherSavepoint g ((2002, fun _ => 0), 0)) v).bind fun q2 => if q2 = 1 then
    ((m_Marks_find (g_kept g) v).bind fun q4 => (m_Marks_countAt (g_kept g) q4).bind fun q5 => (m_Bytes_add ((2002, fun _ => 0), 0) 77 1).bind fun q6 => (m_Bytes_add q6 ((q5).toInt64) 1).bind fun q7 => m_Log_drawSavepoint_otherSavepoint_L49 FU (s_otherSavepoint (s_otherSavepoint (s_otherSavepoint g ((2002, fun _ => 0), 0)) q6) q7) q4 q5 0)
    else if q2 = 2 then
    ((m_Marks_find (g_made g) v).bind fun q16 => (m_Marks_countAt (g_made g) q16).bind fun q17 => (m_Bytes_add ((2002, fun _ => 0), 0) 77 1).bind fun q18 => (m_Bytes_add q18 ((q17).toInt64) 1).bind fun q19 => m_Log_drawSavepoint_otherSavepoint_L49a FU (s_otherSavepoint (s_otherSavepoint (s_otherSavepoint g ((2002, fun _ => 0), 0)) q18) q19) q16 q17 0)
    else some (s_otherSavepoint g ((2002, fun _ => 0), 0))) = some (s_otherSavepoint g x') ∧ BBe 2002 x') → _) ?_
  · obtain ⟨x', z1, z2⟩ := z
    exact ⟨x', (bs hcl).trans z1, z2⟩
  · rcases C_findM h.2.2.2.1 v with ⟨e, -⟩ | ⟨i, hi, e, -⟩
    · rcases C_findM h.2.2.2.2.1 v with ⟨e2, -⟩ | ⟨j, hj, e2, -⟩
      · refine ⟨((2002, fun _ => 0), 0), ?_, 0, h0⟩
        rw [bs (htb _ _ e e2)]
        rfl
      · obtain ⟨_, c, _, _, _, p4, p5, p6, _⟩ := h.2.2.2.2.2.2.2 _ (MC_mem h.2.2.2.2.1 hj)
        have p4' : (g_made g).2.1.2 j = nI c := p4
        obtain ⟨x2, b1, b2⟩ := B_add a2 (by omega) (K := 1) (by omega) (by omega) (nI c).toInt64
        obtain ⟨x3, c1, c2⟩ := t_dS49a_otherSavepoint h hj p4' p6 c FU 0 (0 + 1 + 1) x2 b2 (by omega) (by omega) (FU_lt (by omega))
        refine ⟨x3, ?_, c2⟩
        have hca := M_countAt h.2.2.2.2.1.1.1 hj
        rw [p4'] at hca
        rw [bs (htb _ _ e e2), if_pos rfl, if_neg (nI_m1 (by omega)), if_neg (by decide), if_pos rfl, bs e2, bs hca]
        refine Eq.trans (bs (show m_Bytes_add ((2002, fun _ => 0), 0) 77 1 = some x1 from a1)) ?_
        refine Eq.trans (bs (show m_Bytes_add x1 _ 1 = some x2 from b1)) ?_
        rw [ss_otherSavepoint, ss_otherSavepoint]
        exact c1
    · obtain ⟨_, c, w, _, _, _, p4, p5, p6, _⟩ := h.2.2.2.2.2.2.1 _ (MC_mem h.2.2.2.1 hi)
      have p4' : (g_kept g).2.1.2 i = nI c := p4
      obtain ⟨b, hb⟩ : ∃ b, m_Marks_find (g_made g) v = some b := by
        rcases C_findM h.2.2.2.2.1 v with ⟨e2, -⟩ | ⟨j, hj, e2, -⟩
        · exact ⟨_, e2⟩
        · exact ⟨_, e2⟩
      obtain ⟨x2, b1, b2⟩ := B_add a2 (by omega) (K := 1) (by omega) (by omega) (nI c).toInt64
      obtain ⟨x3, c1, c2⟩ := t_dS49_otherSavepoint h hi p4' p6 c FU 0 (0 + 1 + 1) x2 b2 (by omega) (by omega) (FU_lt (by omega))
      refine ⟨x3, ?_, c2⟩
      have hca := M_countAt h.2.2.2.1.1.1 hi
      rw [p4'] at hca
      rw [bs (htb _ _ e hb), if_neg (nI_m1 (by omega)), if_pos rfl, bs e, bs hca]
      refine Eq.trans (bs (show m_Bytes_add ((2002, fun _ => 0), 0) 77 1 = some x1 from a1)) ?_
      refine Eq.trans (bs (show m_Bytes_add x1 _ 1 = some x2 from b1)) ?_
      rw [ss_otherSavepoint, ss_otherSavepoint]
      exact c1
-- THE REFERENCE ANSWERS: whole, usable, out, equal
def RT (n : Nat) (r : St_Ref) (lp : List PQ) (L : List MKQ) : Prop := (4 ≤ n ∧ n ≤ 512) ∧ RI n r ∧ PR r lp ∧ MR r L ∧ (∀ q, q ∈ lp → FitP n q) ∧ ∀ m, m ∈ L → FitK n m ∨ FitM m
theorem u_part {n : Nat} {r : St_Ref} {lp : List PQ} {L : List MKQ} (h : RT n r lp L) {k : Nat} (hk : k < lp.length) : ∃ v, m_RRef_isWholePart r (nI k) = some v := by
  obtain ⟨hn, hR, hP, hM, f1, f2⟩ := h
  obtain ⟨_, _, l, w, _, _, _, _, _, p6, p7, p8, p9, p10⟩ := f1 _ (PR_mem hP hk)
  exact ⟨_, R_isWholePart hR rfl hn.2 hP hk p6 p7 p8 p10⟩
theorem u_wM_L {n : Nat} {r : St_Ref} {lp : List PQ} {L : List MKQ} (h : RT n r lp L) {k c : Nat} (hk : k < 270) (hc : (g_RmCount r).2 k = nI c) (hc2 : c ≤ 12) (v2 : Int32) : ∀ (d fuel i : Nat) (v3 : Int32), is01 v3 → i + d = c → d < fuel → ∃ v, m_RRef_isWholeMark_L37 r fuel (nI k) v2 v3 (nI i) = some v ∧ is01 v ∧ (v = 1 → v3 = 1 ∧ ∀ j, i ≤ j → j < c → ∃ q, q ∈ lp ∧ q.1 = (g_RmPart r).2 (12 * k + j)) := by
  obtain ⟨hn, hR, hP, hM, f1, f2⟩ := id h
  have hlp := hP.1.2.2
  have l1 : (g_RmCount r).1 = 270 := ri_mCount hR
  have l2 : (g_RmPart r).1 = 3240 := ri_mPart hR
  have l3 : (g_RmPartRow r).1 = 3240 := ri_mPartRow hR
  have l4 : (g_RmPartDigest r).1 = 3240 := ri_mPartDigest hR
  have l5 : (g_RpRow r).1 = 520 := ri_pRow hR
  have l6 : (g_Rmedium r).1 = 16384 := (ri_medium hR).1
  have ck : (nI k).toNatClampNeg = k := nI_clamp (by omega)
  have k0 : ¬ (nI k < 0 ∨ 270 ≤ k) := by
    have := nI_in (c := k) (N := 270) (by omega) (by omega)
    rw [ck] at this
    exact this
  intro d
  induction d with
  | zero =>
    intro fuel i v3 h3 hi hf
    obtain ⟨fu, rfl, -⟩ := fu1 hf
    refine ⟨v3, ?_, h3, fun e => ⟨e, fun j h1 h2 => absurd h2 (by omega)⟩⟩
    rw [m_RRef_isWholeMark_L37, l1, ck, if_neg k0, hc, if_pos (nI_le (by omega) (by omega)), if_neg (fun z => z h3)]
  | succ d ih =>
    intro fuel i v3 h3 hi hf
    obtain ⟨fu, rfl, hf'⟩ := fu1 hf
    have e0 : (12 : Int32) * nI k + nI i = nI (12 * k + i) := by rw [n12, pk_mul, nI_add]
    have c1 : (nI (12 * k + i)).toNatClampNeg = 12 * k + i := nI_clamp (by omega)
    have i1 : ¬ (nI (12 * k + i) < 0 ∨ 3240 ≤ 12 * k + i) := by
      have := nI_in (c := 12 * k + i) (N := 3240) (by omega) (by omega)
      rw [c1] at this
      exact this
    rw [m_RRef_isWholeMark_L37, l1, l2, l3, l4, l5, ck, if_neg k0, hc, if_neg (nI_ge (by omega) (by omega)), e0, c1, nI_1]
    by_cases hz : v3 = 0
    · exact ⟨v3, by rw [if_pos hz, if_neg (fun z => z h3)], h3, fun e => absurd e (by rw [hz]; decide)⟩
    · have hv3 : v3 = 1 := h3.resolve_left hz
      rw [if_neg hz, if_neg i1]
      have go : ∀ (v : Int32), is01 v → (∃ q, q ∈ lp ∧ q.1 = (g_RmPart r).2 (12 * k + i)) ∨ v = 0 → ∃ v', m_RRef_isWholeMark_L37 r fu (nI k) v2 v (nI (i + 1)) = some v' ∧ is01 v' ∧ (v' = 1 → v3 = 1 ∧ ∀ j, i ≤ j → j < c → ∃ q, q ∈ lp ∧ q.1 = (g_RmPart r).2 (12 * k + j)) := by
        intro v hv hq
        obtain ⟨v', a1, a2, a3⟩ := ih fu (i + 1) v hv (by omega) (by omega)
        refine ⟨v', a1, a2, fun e => ⟨hv3, fun j j1 j2 => ?_⟩⟩
        obtain ⟨b1, b2⟩ := a3 e
        by_cases hj : j = i
        · rw [hj]
          exact hq.resolve_right (fun z => absurd b1 (by rw [z]; decide))
        · exact b2 j (by omega) j2
      rcases R_findPart hP.1 ((g_RmPart r).2 (12 * k + i)) with ⟨e, -⟩ | ⟨b, hb, e, eb⟩
      · rw [bs e, if_pos rfl]
        exact go 0 (Or.inl rfl) (Or.inr rfl)
      · have hq : ∃ q, q ∈ lp ∧ q.1 = (g_RmPart r).2 (12 * k + i) := ⟨_, PR_mem hP hb, eb⟩
        obtain ⟨u, hu⟩ := u_part h hb
        have cb : (nI b).toNatClampNeg = b := nI_clamp (by omega)
        have b0 : ¬ (nI b < 0 ∨ 520 ≤ b) := by
          have := nI_in (c := b) (N := 520) (by omega) (by omega)
          rw [cb] at this
          exact this
        rw [bs e, if_neg (nI_m1 (by omega)), bs hu, cb]
        by_cases z1 : u = 0
        · rw [if_pos z1]
          exact go 0 (Or.inl rfl) (Or.inr rfl)
        · rw [if_neg z1]
          by_cases z2 : v2 = 0
          · rw [if_pos z2]
            exact go 1 (Or.inr rfl) (Or.inl hq)
          · rw [if_neg z2, if_neg b0, if_neg i1]
            by_cases z3 : (g_RpRow r).2 b = (g_RmPartRow r).2 (12 * k + i)
            · obtain ⟨_, _, l, w, _, _, _, _, _, p6, p7, p8, p9, p10⟩ := f1 _ (PR_mem hP hb)
              have er : (g_RpRow r).2 b = nI w := p8
              have hnum : m_RRef_number (g_Rmedium r) (32 * (g_RpRow r).2 b + 16) 8 = some (numF (g_Rmedium r).2 (32 * w + 16) 8) := by
                rw [er, n32, pk_mul, n16, nI_add, n8]
                exact r_number (by rw [l6]; omega) (by rw [l6]; omega) (by omega)
              rw [if_pos z3, if_neg b0, bs hnum, if_neg i1]
              by_cases z4 : lg_cmp (numF (g_Rmedium r).2 (32 * w + 16) 8) ((g_RmPartDigest r).2 (12 * k + i)) = 0
              · rw [if_pos z4]
                exact go 1 (Or.inr rfl) (Or.inl hq)
              · rw [if_neg z4]
                exact go 0 (Or.inl rfl) (Or.inr rfl)
            · rw [if_neg z3]
              exact go 0 (Or.inl rfl) (Or.inr rfl)
theorem u_cnt {n : Nat} {r : St_Ref} {lp : List PQ} {L : List MKQ} (h : RT n r lp L) {k : Nat} (hk : k < L.length) : ∃ c : Nat, 1 ≤ c ∧ c ≤ 12 ∧ (g_RmCount r).2 k = nI c := by
  obtain ⟨c, c1, c2, e⟩ := h.2.2.2.1.2.2.2 _ (MR_mem h.2.2.2.1 hk)
  exact ⟨c, c1, c2, e⟩
theorem u_wM {n : Nat} {r : St_Ref} {lp : List PQ} {L : List MKQ} (h : RT n r lp L) {k c : Nat} (hk : k < L.length) (hc : (g_RmCount r).2 k = nI c) (hc2 : c ≤ 12) : ∃ v, m_RRef_isWholeMark r (nI k) = some v ∧ is01 v ∧ (v = 1 → ∀ j, j < c → ∃ q, q ∈ lp ∧ q.1 = (g_RmPart r).2 (12 * k + j)) := by
  obtain ⟨hn, hR, hP, hM, f1, f2⟩ := id h
  have hL := hM.2.1
  have ck : (nI k).toNatClampNeg = k := nI_clamp (by omega)
  have k0 : ¬ (nI k < 0 ∨ 270 ≤ k) := by
    have := nI_in (c := k) (N := 270) (by omega) (by omega)
    rw [ck] at this
    exact this
  have fin : ∀ v2 v3 : Int32, is01 v3 → ∃ v, m_RRef_isWholeMark_L37 r FU (nI k) v2 v3 0 = some v ∧ is01 v ∧ (v = 1 → ∀ j, j < c → ∃ q, q ∈ lp ∧ q.1 = (g_RmPart r).2 (12 * k + j)) := by
    intro v2 v3 h3
    obtain ⟨v, a1, a2, a3⟩ := u_wM_L h (k := k) (by omega) hc hc2 v2 c FU 0 v3 h3 (by omega) (FU_lt (by omega))
    exact ⟨v, a1, a2, fun e j hj => (a3 e).2 j (by omega) hj⟩
  unfold m_RRef_isWholeMark
  rw [show (g_RmRow r).1 = 270 from ri_mRow hR, ck, if_neg k0]
  rcases f2 _ (MR_mem hM hk) with ⟨_, c', w, _, _, _, p4, p5, p6, p7, p8, p9⟩ | ⟨_, _, _, _, _, _, _, _, p7, _⟩
  · have er : (g_RmRow r).2 k = nI w := p7
    rw [er, if_neg (nI_m1 (by omega)), bs (R_isAsFound hR rfl hn.2 (k := k) (by omega) p4 p6 p7 p9)]
    split
    · exact fin 1 0 (Or.inl rfl)
    · exact fin 1 1 (Or.inr rfl)
  · have er : (g_RmRow r).2 k = (-1) := p7
    rw [er, if_pos rfl]
    exact fin 0 1 (Or.inr rfl)
theorem u_us_L {n : Nat} {r : St_Ref} {lp : List PQ} {L : List MKQ} (h : RT n r lp L) : ∀ (d fuel k : Nat) (v : Int32), k + d = L.length → d < fuel → ∃ b, m_RRef_usable_L14 r fuel v (nI k) = some b := by
  obtain ⟨hn, hR, hP, hM, f1, f2⟩ := id h
  have hL := hM.2.1
  intro d
  induction d with
  | zero =>
    intro fuel k v hk hf
    obtain ⟨fu, rfl, -⟩ := fu1 hf
    exact ⟨v, by rw [m_RRef_usable_L14, hM.1, if_pos (nI_le (by omega) (by omega))]⟩
  | succ d ih =>
    intro fuel k v hk hf
    obtain ⟨fu, rfl, hf'⟩ := fu1 hf
    have ck : (nI k).toNatClampNeg = k := nI_clamp (by omega)
    have k0 : ¬ (nI k < 0 ∨ 270 ≤ k) := by
      have := nI_in (c := k) (N := 270) (by omega) (by omega)
      rw [ck] at this
      exact this
    obtain ⟨c, c1, c2, hc⟩ := u_cnt h (k := k) (by omega)
    obtain ⟨u, hu, -⟩ := u_wM h (k := k) (by omega) hc c2
    rw [m_RRef_usable_L14, hM.1, if_neg (nI_ge (by omega) (by omega)), show (g_RmRow r).1 = 270 from ri_mRow hR, show (g_RmNumber r).1 = 270 from ri_mNumber hR, ck, if_neg k0, nI_1]
    have go := fun v => ih fu (k + 1) v (by omega) (by omega)
    by_cases z1 : (g_RmRow r).2 k = (-1)
    · rw [if_pos z1]; exact go _
    · rw [if_neg z1, if_neg k0]
      by_cases z2 : (g_RmNumber r).2 k ≤ v
      · rw [if_pos z2]; exact go _
      · rw [if_neg z2, bs hu]
        by_cases z3 : u = 0
        · rw [if_pos z3]; exact go _
        · rw [if_neg z3, if_neg k0]; exact go _
theorem sr_spoint (r : St_Ref) (a b : AI) : s_Rspoint (s_Rspoint r a) b = s_Rspoint r b := rfl
theorem u_byte {n : Nat} {r : St_Ref} {lp : List PQ} {L : List MKQ} (h : RT n r lp L) {X : AI} {b l w k : Nat} (hb : b < lp.length) (hl : l ≤ 155) (hw : (rrow r b).2.2.2.1 = nI w) (hw2 : w + 1 + bod l ≤ n) (hk : k < l) (hX : X.1 = 2010) : ∃ v, m_RRef_byteOf (s_Rspoint r X) (nI b) (nI k) = some v := by
  have hlp := h.2.2.1.1.2.2
  refine ⟨_, R_byteOf (n := n) (r := s_Rspoint r X) (f := (g_Rmedium r).2) (rs_spoint (v := X) h.2.1 hX) (by simp only [qR_medium]) h.1.2 (by omega) hl (w := w) ?_ hw2 hk⟩
  show (g_RpRow (s_Rspoint r X)).2 b = nI w
  simp only [qR_pRow]
  exact hw
theorem u_s111 {n : Nat} {r : St_Ref} {lp : List PQ} {L : List MKQ} (h : RT n r lp L) (kk : St_Ref → Int32 → Int32 → Int32 → Option (Int32 × St_Ref)) (v1 v3 : Int32) {b l w : Nat} (hb : b < lp.length) (hl0 : (rrow r b).2.2.1 = nI l) (hl : l ≤ 155) (hw : (rrow r b).2.2.2.1 = nI w) (hw2 : w + 1 + bod l ≤ n) : ∀ (d fuel j s : Nat) (f : Nat → Int32), s + d ≤ 2010 → j + d = l → d < fuel → ∃ f', m_RRef_savepoint_L111 kk fuel (s_Rspoint r (2010, f)) v1 (nI s) v3 (nI b) (nI j) = kk (s_Rspoint r (2010, f')) v1 (nI (s + d)) v3 := by
  have hlp := h.2.2.1.1.2.2
  have ll : (g_RpLength r).1 = 520 := ri_pLength h.2.1
  have el : (g_RpLength r).2 b = nI l := hl0
  intro d
  induction d with
  | zero =>
    intro fuel j s f hs hj hf
    obtain ⟨fu, rfl, -⟩ := fu1 hf
    refine ⟨f, ?_⟩
    rw [m_RRef_savepoint_L111]
    simp only [qR_pLength]
    rw [ll, if_neg (nI_in (by omega) (by omega)), nI_clamp (by omega), el, if_pos (nI_le (by omega) (by omega))]; rfl
  | succ d ih =>
    intro fuel j s f hs hj hf
    obtain ⟨fu, rfl, hf'⟩ := fu1 hf
    obtain ⟨v, hv⟩ := u_byte h (X := (2010, f)) hb hl hw hw2 (k := j) (by omega) rfl
    obtain ⟨f', a1⟩ := ih fu (j + 1) (s + 1) (upd f s (vp_nar .byte (v.toInt8.toInt32))) (by omega) (by omega) (by omega)
    refine ⟨f', ?_⟩
    rw [m_RRef_savepoint_L111]
    simp only [qR_pLength, qR_spoint]
    rw [ll, if_neg (nI_in (by omega) (by omega)), nI_clamp (show b < 2 ^ 31 by omega), el, if_neg (nI_ge (by omega) (by omega)), bs hv, if_neg (nI_in (show s < 2010 by omega) (by omega)), nI_clamp (show s < 2 ^ 31 by omega), nI_1 s, nI_1 j, sr_spoint, show s + (d + 1) = s + 1 + d by omega]
    exact a1
theorem u_s25 {n : Nat} {r : St_Ref} {lp : List PQ} {L : List MKQ} (h : RT n r lp L) {k c : Nat} (hk : k < 270) (hc : (g_RmCount r).2 k = nI c) (hc2 : c ≤ 12) (hq : ∀ j, j < c → ∃ q, q ∈ lp ∧ q.1 = (g_RmPart r).2 (12 * k + j)) : ∀ (d fuel i s : Nat) (f : Nat → Int32), s + 166 * d ≤ 1994 → i + d = c → d < fuel → ∃ s' X, m_RRef_savepoint_L25 fuel (s_Rspoint r (2010, f)) (nI k) (nI s) (nI i) = some (nI s', s_Rspoint r X) ∧ X.1 = 2010 ∧ s' ≤ 2002 := by
  obtain ⟨hn, hR, hP, hM, f1, f2⟩ := id h
  have hlp := hP.1.2.2
  have l1 : (g_RmCount r).1 = 270 := ri_mCount hR
  have l2 : (g_RmPart r).1 = 3240 := ri_mPart hR
  have l3 : (g_RpGroup r).1 = 520 := ri_pGroup hR
  have l4 : (g_RpPosition r).1 = 520 := ri_pPosition hR
  have l5 : (g_RpLength r).1 = 520 := ri_pLength hR
  have ck : (nI k).toNatClampNeg = k := nI_clamp (by omega)
  have k0 : ¬ (nI k < 0 ∨ 270 ≤ k) := by
    have := nI_in (c := k) (N := 270) (by omega) (by omega)
    rw [ck] at this
    exact this
  intro d
  induction d with
  | zero =>
    intro fuel i s f hs hi hf
    obtain ⟨fu, rfl, -⟩ := fu1 hf
    have a1 : m_RRef_digest (2010, f) 0 (nI s) = some (digF f 0 s) := r_digest (x := (2010, f)) (a := 0) (K := s) (by show 0 + s ≤ 2010; omega) (by show 2010 < 2 ^ 31; omega) (by omega)
    have a2 : m_RRef_put (2010, f) (nI s) 8 (digF f 0 s) = some (2010, pF f s 8 (digF f 0 s)) := R_put (x := (2010, f)) (i := s) (K := 8) (by show 2010 < 2 ^ 31; omega) (by omega) (by show s + 8 ≤ 2010; omega) _
    refine ⟨s + 8, (2010, pF f s 8 (digF f 0 s)), ?_, rfl, by omega⟩
    rw [m_RRef_savepoint_L25]
    simp only [qR_mCount, qR_spoint]
    rw [l1, ck, if_neg k0, hc, if_pos (nI_le (by omega) (by omega)), bs a1, bs a2, sr_spoint, n8, nI_add]
  | succ d ih =>
    intro fuel i s f hs hi hf
    obtain ⟨fu, rfl, hf'⟩ := fu1 hf
    obtain ⟨q, hq1, hq2⟩ := hq i (by omega)
    obtain ⟨b, hb, fb, eb⟩ : ∃ b, b < lp.length ∧ m_RRef_findPart (s_Rspoint r (2010, f)) ((g_RmPart r).2 (12 * k + i)) = some (nI b) ∧ rrow r b ∈ lp := by
      have hP2 : PR (s_Rspoint r (2010, f)) lp := PR_fr (by simp only [qf_Par]) hP
      rcases R_findPart hP2.1 ((g_RmPart r).2 (12 * k + i)) with ⟨e1, e2⟩ | ⟨b, hb, e1, e2⟩
      · obtain ⟨j, hj, e⟩ := (hP2.2.1 q).mp hq1
        exact absurd (by rw [e]; exact hq2) (e2 j hj)
      · exact ⟨b, hb, e1, PR_mem hP hb⟩
    obtain ⟨_, _, l, w, _, _, _, _, _, p6, p7, p8, p9, p10⟩ := f1 _ eb
    have cb : (nI b).toNatClampNeg = b := nI_clamp (by omega)
    have b0 : ¬ (nI b < 0 ∨ 520 ≤ b) := by
      have := nI_in (c := b) (N := 520) (by omega) (by omega)
      rw [cb] at this
      exact this
    have e0 : (12 : Int32) * nI k + nI i = nI (12 * k + i) := by rw [n12, pk_mul, nI_add]
    have c1 : (nI (12 * k + i)).toNatClampNeg = 12 * k + i := nI_clamp (by omega)
    have i1 : ¬ (nI (12 * k + i) < 0 ∨ 3240 ≤ 12 * k + i) := by
      have := nI_in (c := 12 * k + i) (N := 3240) (by omega) (by omega)
      rw [c1] at this
      exact this
    have cs : (nI s).toNatClampNeg = s := nI_clamp (by omega)
    have s0 : ¬ (nI s < 0 ∨ 2010 ≤ s) := by
      have := nI_in (c := s) (N := 2010) (by omega) (by omega)
      rw [cs] at this
      exact this
    have es1 : nI s + 1 = nI (s + 1) := nI_1 s
    have es9 : nI s + 9 = nI (s + 9) := by rw [show (9 : Int32) = nI 9 by decide +kernel, nI_add]
    have es11 : nI s + 11 = nI (s + 11) := by rw [show (11 : Int32) = nI 11 by decide +kernel, nI_add]
    have el : (g_RpLength r).2 b = nI l := p6
    obtain ⟨F1, hF1⟩ : ∃ F1, F1 = upd f s (vp_nar .byte ((((g_RpGroup r).2 b)).toInt8.toInt32)) := ⟨_, rfl⟩
    have u1 : m_RRef_put (2010, F1) (nI (s + 1)) 8 ((g_RpPosition r).2 b) = some (2010, pF F1 (s + 1) 8 ((g_RpPosition r).2 b)) := R_put (x := (2010, F1)) (i := s + 1) (K := 8) (by show 2010 < 2 ^ 31; omega) (by omega) (by show s + 1 + 8 ≤ 2010; omega) _
    obtain ⟨F2, hF2⟩ : ∃ F2, F2 = pF F1 (s + 1) 8 ((g_RpPosition r).2 b) := ⟨_, rfl⟩
    have u2 : m_RRef_put (2010, F2) (nI (s + 9)) 2 (nI l).toInt64 = some (2010, pF F2 (s + 9) 2 (nI l).toInt64) := R_put (x := (2010, F2)) (i := s + 9) (K := 2) (by show 2010 < 2 ^ 31; omega) (by omega) (by show s + 9 + 2 ≤ 2010; omega) _
    rw [← hF2] at u1
    obtain ⟨F4, a1⟩ := u_s111 h (fun (g20 : St_Ref) (v1_21 : Int32) (v2_22 : Int32) (v3_23 : Int32) => m_RRef_savepoint_L25 fu g20 v1_21 v2_22 (v3_23 + 1)) (nI k) (nI i) hb p6 p7 p8 p10 l FU 0 (s + 11) (pF F2 (s + 9) 2 (nI l).toInt64) (by omega) (by omega) (FU_lt (by omega))
    obtain ⟨s', X, z1, z2, z3⟩ := ih fu (i + 1) (s + 11 + l) F4 (by omega) (by omega) (by omega)
    refine ⟨s', X, ?_, z2, z3⟩
    rw [m_RRef_savepoint_L25]
    simp only [qR_mCount, qR_spoint, qR_mPart, qR_pGroup, qR_pPosition, qR_pLength]
    rw [l1, ck, if_neg k0, hc, if_neg (nI_ge (by omega) (by omega)), e0, l2, c1, if_neg i1]
    refine Eq.trans (bs fb) ?_
    rw [cb, cs, es1, es9, es11, l3, l4, l5, el, ← hF1]
    refine Eq.trans (if_neg b0) ?_
    refine Eq.trans (if_neg s0) ?_
    refine Eq.trans (if_neg b0) ?_
    refine Eq.trans (bs u1) ?_
    refine Eq.trans (if_neg b0) ?_
    refine Eq.trans (bs u2) ?_
    rw [sr_spoint, sr_spoint, sr_spoint]
    refine Eq.trans a1 ?_
    show m_RRef_savepoint_L25 fu (s_Rspoint r (2010, F4)) (nI k) (nI (s + 11 + l)) (nI i + 1) = _
    rw [nI_1]
    exact z1
theorem u_savepoint {n : Nat} {r : St_Ref} {lp : List PQ} {L : List MKQ} (h : RT n r lp L) {k c : Nat} (hk : k < L.length) (hc : (g_RmCount r).2 k = nI c) (hc2 : c ≤ 12) (hq : ∀ j, j < c → ∃ q, q ∈ lp ∧ q.1 = (g_RmPart r).2 (12 * k + j)) : ∃ s' X, m_RRef_savepoint r (nI k) = some (nI s', s_Rspoint r X) ∧ X.1 = 2010 ∧ s' ≤ 2002 := by
  have hL := h.2.2.2.1.2.1
  have ls : g_Rspoint r = (2010, (g_Rspoint r).2) := Prod.ext (ri_spoint h.2.1) rfl
  obtain ⟨s', X, z1, z2, z3⟩ := u_s25 h (k := k) (by omega) hc hc2 hq c FU 0 2 (upd (upd (g_Rspoint r).2 (0 : Int32).toNatClampNeg (vp_nar .byte 77)) (1 : Int32).toNatClampNeg (vp_nar .byte ((nI c).toInt8.toInt32))) (by omega) (by omega) (FU_lt (by omega))
  refine ⟨s', X, ?_, z2, z3⟩
  unfold m_RRef_savepoint
  rw [ls, show (g_RmCount r).1 = 270 from ri_mCount h.2.1, if_neg (show ¬ ((0 : Int32) < 0 ∨ (2010, (g_Rspoint r).2).1 ≤ (0 : Int32).toNatClampNeg) from (show ¬ ((0 : Int32) < 0 ∨ 2010 ≤ (0 : Int32).toNatClampNeg) by decide)), if_neg (nI_in (by omega) (by omega)), nI_clamp (by omega), hc]
  refine Eq.trans (if_neg (show ¬ ((1 : Int32) < 0 ∨ 2010 ≤ (1 : Int32).toNatClampNeg) by decide)) ?_
  rw [sr_spoint]
  exact z1
theorem u_e197 {n : Nat} {r : St_Ref} {lp : List PQ} {L : List MKQ} (h : RT n r lp L) (kk : Int32 → Int32 → Int32 → Int32 → Option Int32) (v3 v4 v6 : Int32) {b1 b2 l1 w1 l2 w2 : Nat} (hb1 : b1 < lp.length) (hb2 : b2 < lp.length) (e1 : (rrow r b1).2.2.1 = nI l1) (x1 : l1 ≤ 155) (y1 : (rrow r b1).2.2.2.1 = nI w1) (z1 : w1 + 1 + bod l1 ≤ n) (x2 : l2 ≤ 155) (y2 : (rrow r b2).2.2.2.1 = nI w2) (z2 : w2 + 1 + bod l2 ≤ n) : ∀ (d fuel j : Nat) (v5 : Int32), is01 v5 → (v5 = 1 → l1 = l2) → j + d = l1 → d < fuel → ∃ v5', is01 v5' ∧ (v5' = 1 → v5 = 1) ∧ m_RRef_equal_L197 r kk fuel v3 v4 v5 v6 (nI b1) (nI b2) (nI j) = kk v3 v4 v5' v6 := by
  have hlp := h.2.2.1.1.2.2
  have ll : (g_RpLength r).1 = 520 := ri_pLength h.2.1
  have el : (g_RpLength r).2 b1 = nI l1 := e1
  intro d
  induction d with
  | zero =>
    intro fuel j v5 h5 he hj hf
    obtain ⟨fu, rfl, -⟩ := fu1 hf
    refine ⟨v5, h5, fun e => e, ?_⟩
    rw [m_RRef_equal_L197, ll, if_neg (nI_in (by omega) (by omega)), nI_clamp (by omega), el, if_pos (nI_le (by omega) (by omega))]
  | succ d ih =>
    intro fuel j v5 h5 he hj hf
    obtain ⟨fu, rfl, hf'⟩ := fu1 hf
    rw [m_RRef_equal_L197, ll, if_neg (nI_in (by omega) (by omega)), nI_clamp (by omega), el, if_neg (nI_ge (by omega) (by omega)), nI_1]
    by_cases z : v5 = 0
    · exact ⟨v5, h5, fun e => e, by rw [if_pos z]⟩
    · have hv : v5 = 1 := h5.resolve_left z
      have hl := he hv
      rw [if_neg z, bs (R_byteOf h.2.1 rfl h.1.2 (j := b1) (by omega) x1 y1 z1 (k := j) (by omega)), bs (R_byteOf h.2.1 rfl h.1.2 (j := b2) (by omega) x2 y2 z2 (k := j) (by omega))]
      by_cases zz : ((g_Rmedium r).2 (32 * (w1 + 1 + j / 31) + (1 + j % 31)) &&& 255) = ((g_Rmedium r).2 (32 * (w2 + 1 + j / 31) + (1 + j % 31)) &&& 255)
      · rw [if_pos zz]
        obtain ⟨v', a1, a2, a3⟩ := ih fu (j + 1) 1 (Or.inr rfl) (fun _ => hl) (by omega) (by omega)
        exact ⟨v', a1, fun _ => hv, a3⟩
      · rw [if_neg zz]
        obtain ⟨v', a1, a2, a3⟩ := ih fu (j + 1) 0 (Or.inl rfl) (fun e => absurd e (by decide)) (by omega) (by omega)
        exact ⟨v', a1, fun _ => hv, a3⟩
theorem u_fp {n : Nat} {r : St_Ref} {lp : List PQ} {L : List MKQ} (h : RT n r lp L) {v : Int32} (hq : ∃ q, q ∈ lp ∧ q.1 = v) : ∃ b, b < lp.length ∧ m_RRef_findPart r v = some (nI b) := by
  obtain ⟨q, hq1, hq2⟩ := hq
  rcases R_findPart h.2.2.1.1 v with ⟨e1, e2⟩ | ⟨b, hb, e1, e2⟩
  · obtain ⟨j, hj, e⟩ := (h.2.2.1.2.1 q).mp hq1
    exact absurd (by rw [e]; exact hq2) (e2 j hj)
  · exact ⟨b, hb, e1⟩
theorem u_e82 {n : Nat} {r : St_Ref} {lp : List PQ} {L : List MKQ} (h : RT n r lp L) {x y c : Nat} (hx : x < 270) (hy : y < 270) (hc : (g_RmCount r).2 x = nI c) (hc2 : c ≤ 12) {c' : Nat} (hq : ∀ j, j < c → ∃ q, q ∈ lp ∧ q.1 = (g_RmPart r).2 (12 * x + j)) (hq' : ∀ j, j < c' → ∃ q, q ∈ lp ∧ q.1 = (g_RmPart r).2 (12 * y + j)) : ∀ (d fuel i : Nat) (v5 : Int32), is01 v5 → (v5 = 1 → c = c') → i + d = c → d < fuel → ∃ b, m_RRef_equal_L82 r fuel (nI x) (nI y) v5 (nI i) = some b := by
  obtain ⟨hn, hR, hP, hM, f1, f2⟩ := id h
  have hlp := hP.1.2.2
  have l1 : (g_RmCount r).1 = 270 := ri_mCount hR
  have l2 : (g_RmPart r).1 = 3240 := ri_mPart hR
  have cx : (nI x).toNatClampNeg = x := nI_clamp (by omega)
  have x0 : ¬ (nI x < 0 ∨ 270 ≤ x) := by
    have := nI_in (c := x) (N := 270) (by omega) (by omega)
    rw [cx] at this
    exact this
  intro d
  induction d with
  | zero =>
    intro fuel i v5 h5 he hi hf
    obtain ⟨fu, rfl, -⟩ := fu1 hf
    rw [m_RRef_equal_L82, l1, cx, if_neg x0, hc, if_pos (nI_le (by omega) (by omega))]
    split
    · exact ⟨_, rfl⟩
    · exact ⟨_, rfl⟩
  | succ d ih =>
    intro fuel i v5 h5 he hi hf
    obtain ⟨fu, rfl, hf'⟩ := fu1 hf
    by_cases z : v5 = 0
    · rw [m_RRef_equal_L82, l1, cx, if_neg x0, hc, if_neg (nI_ge (by omega) (by omega)), if_pos z, if_pos z]
      exact ⟨_, rfl⟩
    · have hv : v5 = 1 := h5.resolve_left z
      have hcc := he hv
      obtain ⟨b1, hb1, g1⟩ := u_fp h (hq i (by omega))
      obtain ⟨b2, hb2, g2⟩ := u_fp h (hq' i (by omega))
      obtain ⟨_, _, la, wa, _, _, _, _, _, p6, p7, p8, p9, p10⟩ := f1 _ (PR_mem hP hb1)
      obtain ⟨_, _, lb, wb, _, _, _, _, _, q6, q7, q8, q9, q10⟩ := f1 _ (PR_mem hP hb2)
      have ea : (12 : Int32) * nI x + nI i = nI (12 * x + i) := by rw [n12, pk_mul, nI_add]
      have eb : (12 : Int32) * nI y + nI i = nI (12 * y + i) := by rw [n12, pk_mul, nI_add]
      have ca : (nI (12 * x + i)).toNatClampNeg = 12 * x + i := nI_clamp (by omega)
      have cb : (nI (12 * y + i)).toNatClampNeg = 12 * y + i := nI_clamp (by omega)
      have ia : ¬ (nI (12 * x + i) < 0 ∨ 3240 ≤ 12 * x + i) := by
        have := nI_in (c := 12 * x + i) (N := 3240) (by omega) (by omega)
        rw [ca] at this
        exact this
      have ib : ¬ (nI (12 * y + i) < 0 ∨ 3240 ≤ 12 * y + i) := by
        have := nI_in (c := 12 * y + i) (N := 3240) (by omega) (by omega)
        rw [cb] at this
        exact this
      have c1 : (nI b1).toNatClampNeg = b1 := nI_clamp (by omega)
      have c2 : (nI b2).toNatClampNeg = b2 := nI_clamp (by omega)
      have i1 : ∀ M, M = 520 → ¬ (nI b1 < 0 ∨ M ≤ b1) := fun M hM => by
        have := nI_in (c := b1) (N := 520) (by omega) (by omega)
        rw [c1] at this
        rw [hM]; exact this
      have i2 : ∀ M, M = 520 → ¬ (nI b2 < 0 ∨ M ≤ b2) := fun M hM => by
        have := nI_in (c := b2) (N := 520) (by omega) (by omega)
        rw [c2] at this
        rw [hM]; exact this
      have lg : (g_RpGroup r).1 = 520 := ri_pGroup hR
      have lo : (g_RpPosition r).1 = 520 := ri_pPosition hR
      have ll : (g_RpLength r).1 = 520 := ri_pLength hR
      have p6' : (g_RpLength r).2 b1 = nI la := p6
      have q6' : (g_RpLength r).2 b2 = nI lb := q6
      have go : ∀ v : Int32, is01 v → (v = 1 → la = lb) → ∃ b, m_RRef_equal_L197 r (fun (v3_49 : Int32) (v4_50 : Int32) (v5_51 : Int32) (v6_52 : Int32) => m_RRef_equal_L82 r fu v3_49 v4_50 v5_51 (v6_52 + 1)) FU (nI x) (nI y) v (nI i) (nI b1) (nI b2) 0 = some b := by
        intro v hv1 hv2
        obtain ⟨v', a1, a2, a3⟩ := u_e197 h (fun (v3_49 : Int32) (v4_50 : Int32) (v5_51 : Int32) (v6_52 : Int32) => m_RRef_equal_L82 r fu v3_49 v4_50 v5_51 (v6_52 + 1)) (nI x) (nI y) (nI i) hb1 hb2 p6 p7 p8 p10 q7 q8 q10 la FU 0 v hv1 hv2 (by omega) (FU_lt (by omega))
        obtain ⟨b, hb⟩ := ih fu (i + 1) v' a1 (fun _ => hcc) (by omega) (by omega)
        refine ⟨b, Eq.trans a3 ?_⟩
        show m_RRef_equal_L82 r fu (nI x) (nI y) v' (nI i + 1) = some b
        rw [nI_1]; exact hb
      rw [m_RRef_equal_L82, l1, cx, if_neg x0, hc, if_neg (nI_ge (by omega) (by omega)), if_neg z, ea, eb, l2, ca, cb, if_neg ia, bs g1, if_neg ib, bs g2, c1, c2, if_neg (i1 _ lg), if_neg (i2 _ lg)]
      by_cases w1 : (g_RpGroup r).2 b1 = (g_RpGroup r).2 b2
      · rw [if_pos w1, if_neg (i1 _ lo), if_neg (i2 _ lo)]
        by_cases w2 : lg_cmp ((g_RpPosition r).2 b1) ((g_RpPosition r).2 b2) = 0
        · rw [if_pos w2, if_neg (i1 _ ll), if_neg (i2 _ ll)]
          by_cases w3 : (g_RpLength r).2 b1 = (g_RpLength r).2 b2
          · rw [if_pos w3]
            exact go 1 (Or.inr rfl) (fun _ => by
              rw [p6', q6'] at w3
              exact (nI_eq (by omega) (by omega)).mp w3)
          · rw [if_neg w3]
            exact go 0 (Or.inl rfl) (fun e => absurd e (by decide))
        · rw [if_neg w2]
          exact go 0 (Or.inl rfl) (fun e => absurd e (by decide))
      · rw [if_neg w1]
        exact go 0 (Or.inl rfl) (fun e => absurd e (by decide))
-- CALLS THAT ARE ONLY ANSWERED
theorem CT_of {n : Nat} {g : St_Log} {lp : List PQ} {lk lm : List MKQ} {GP GM : Nat} (hn : 4 ≤ n ∧ n ≤ 512) (hC : CI n g) (hTC : TabC n g lp lk lm) (hA : Abs n lp lk lm GP GM) : CT n g lp lk lm := ⟨hn, hC, hTC.1, hTC.2.1, hTC.2.2.1, fun q hq => (hA.1 q hq).1, fun m hm => (hA.2.1 m hm).1, fun m hm => (hA.2.2.1 m hm).1⟩
theorem RT_of {n : Nat} {r : St_Ref} {lp : List PQ} {lk lm L : List MKQ} {GP GM : Nat} (hn : 4 ≤ n ∧ n ≤ 512) (hR : RI n r) (hTR : TabR r lp L) (hL : L.Perm (lk ++ lm)) (hA : Abs n lp lk lm GP GM) : RT n r lp L := by
  refine ⟨hn, hR, hTR.1, hTR.2, fun q hq => (hA.1 q hq).1, fun m hm => ?_⟩
  rcases List.mem_append.mp (hL.mem_iff.mp hm) with z | z
  · exact Or.inl (hA.2.1 _ z).1
  · exact Or.inr (hA.2.2.1 _ z).1
theorem st_usable {n : Nat} {g : St_Log} {r : St_Ref} (h : Rel n g r) : ∃ a b, m_Log_usable g = some a ∧ m_RRef_usable r = some b := by
  obtain ⟨⟨hn, hC, hR, ht, ho, hts⟩, hT⟩ := id h
  unfold m_Log_usable m_RRef_usable
  by_cases hop : g_isOpen g = 0
  · exact ⟨-3, -3, by rw [if_pos hop], by rw [if_pos (by rw [← ho]; exact hop)]⟩
  · have ho1 := open_1 hC hop
    have hop' : ¬ g_Ropen r = 0 := by rw [← ho]; exact hop
    obtain ⟨lp, lk, lm, L, GP, GM, hTC, hTR, hL, hA, hN, hH⟩ := hT ho1
    have hct := CT_of hn hC hTC hA
    have hrt := RT_of hn hR hTR hL hA
    have h1 := hTC.2.1.1.1.2.2
    have hl := hTR.2.2.1
    have hsz : m_Marks_size (g_kept g) = some (nI lk.length) := by unfold m_Marks_size; rw [hTC.2.1.1.1.2.1]
    obtain ⟨b, hb⟩ := t_usL hct lk.length FU (nI lk.length - 1) (Nat.le_refl _) (by
      by_cases h0 : lk.length = 0
      · left
        rw [h0]
        exact ⟨rfl, by decide⟩
      · right
        exact ⟨by omega, by rw [n1, pk_sub (by omega)]⟩) (FU_lt (by omega))
    obtain ⟨b', hb'⟩ := u_us_L hrt L.length FU 0 (-1) (by omega) (FU_lt (by omega))
    exact ⟨b, b', by rw [if_neg hop, bs hsz]; exact hb, by rw [if_neg hop']; exact hb'⟩
theorem R_fm_mr {n : Nat} {r : St_Ref} {L : List MKQ} (hR : RI n r) (hM : MR r L) (v : Int32) : m_RRef_findMark r v = some (-1) ∨ ∃ k, k < L.length ∧ m_RRef_findMark r v = some (nI k) := by
  rcases R_findMark hR hM.1 hM.2.1 v with ⟨e, -⟩ | ⟨k, hk, e, -⟩
  · exact Or.inl e
  · exact Or.inr ⟨k, hk, e⟩
theorem st_whole {n : Nat} {g : St_Log} {r : St_Ref} (h : Rel n g r) (v : Int32) : ∃ a b, m_Log_whole g v = some a ∧ m_RRef_whole r v = some b := by
  obtain ⟨⟨hn, hC, hR, ht, ho, hts⟩, hT⟩ := id h
  unfold m_Log_whole m_RRef_whole
  by_cases hop : g_isOpen g = 0
  · obtain ⟨b, hb⟩ := R_fm_any hR v
    exact ⟨-3, -3, by rw [if_pos hop], by rw [bs hb, if_pos (by rw [← ho]; exact hop)]⟩
  · have ho1 := open_1 hC hop
    have hop' : ¬ g_Ropen r = 0 := by rw [← ho]; exact hop
    obtain ⟨lp, lk, lm, L, GP, GM, hTC, hTR, hL, hA, hN, hH⟩ := hT ho1
    have hct := CT_of hn hC hTC hA
    have hrt := RT_of hn hR hTR hL hA
    have hl := hTR.2.2.1
    have c1 : ∃ a : Int32, (if g_isOpen g = 0 then some (-3) else ((m_Log_tableOf g v).bind fun q2 => if q2 = 1 then ((m_Log_isMarkWhole g v).bind fun q4 => if q4 = 0 then (some 0) else (some 1)) else if q2 = 2 then ((m_Log_isMarkWhole g v).bind fun q7 => if q7 = 0 then (some 0) else (some 1)) else some (-1))) = some a := by
      obtain ⟨a, ha, -⟩ := t_tableOf hct v
      obtain ⟨b, hb⟩ := t_markWhole hct v
      rw [if_neg hop, bs ha]
      split
      · rw [bs hb]
        split
        · exact ⟨_, rfl⟩
        · exact ⟨_, rfl⟩
      · split
        · rw [bs hb]
          split
          · exact ⟨_, rfl⟩
          · exact ⟨_, rfl⟩
        · exact ⟨_, rfl⟩
    obtain ⟨a, ha⟩ := c1
    rcases R_fm_mr hR hTR.2 v with e | ⟨k, hk, e⟩
    · exact ⟨a, -1, ha, by rw [bs e, if_neg hop', if_pos rfl]⟩
    · obtain ⟨c, c1, c2, hc⟩ := u_cnt hrt hk
      obtain ⟨u, hu, -⟩ := u_wM hrt hk hc c2
      by_cases z : u = 0
      · exact ⟨a, 0, ha, by rw [bs e, if_neg hop', if_neg (nI_m1 (by omega)), bs hu, if_pos z]⟩
      · exact ⟨a, 1, ha, by rw [bs e, if_neg hop', if_neg (nI_m1 (by omega)), bs hu, if_neg z]⟩
theorem Rel_sav {n : Nat} {g : St_Log} {r : St_Ref} (h : Rel n g r) {x : St_Bytes} (hx : BBe 2002 x) : Rel n (s_savepoint g x) r := by
  refine Rel_fr h ?_ (fun e => e) rfl rfl rfl rfl rfl rfl rfl rfl rfl rfl rfl rfl
  obtain ⟨⟨hn, hC, hR, ht, ho, hts⟩, -⟩ := h
  refine ⟨hn, cs_savepoint hC hx, hR, ?_, ?_, ?_⟩
  · simp only [q_medium]; exact ht
  · simp only [q_isOpen]; exact ho
  · simp only [q_tape]; exact hts
theorem Rel_oth {n : Nat} {g : St_Log} {r : St_Ref} (h : Rel n g r) {x : St_Bytes} (hx : BBe 2002 x) : Rel n (s_otherSavepoint g x) r := by
  refine Rel_fr h ?_ (fun e => e) rfl rfl rfl rfl rfl rfl rfl rfl rfl rfl rfl rfl
  obtain ⟨⟨hn, hC, hR, ht, ho, hts⟩, -⟩ := h
  refine ⟨hn, cs_otherSavepoint hC hx, hR, ?_, ?_, ?_⟩
  · simp only [q_medium]; exact ht
  · simp only [q_isOpen]; exact ho
  · simp only [q_tape]; exact hts
theorem Rel_spt {n : Nat} {g : St_Log} {r : St_Ref} (h : Rel n g r) {X : AI} (hx : X.1 = 2010) : Rel n g (s_Rspoint r X) := by
  refine Rel_fr h ?_ (fun e => e) rfl rfl rfl rfl rfl rfl rfl rfl (by simp only [qf_Par]) (by simp only [qf_Mrk]) (by simp only [qf_Ls]) (by simp only [qf_Hd])
  obtain ⟨⟨hn, hC, hR, ht, ho, hts⟩, -⟩ := h
  refine ⟨hn, hC, rs_spoint (v := X) hR hx, ?_, ?_, ?_⟩
  · simp only [rtri, qR_medium, qR_cutIn, qR_written]; exact ht
  · simp only [qR_open]; exact ho
  · simp only [qR_tape, qR_taped]; exact hts
theorem st_out {n : Nat} {g : St_Log} {r : St_Ref} (h : Rel n g r) (v p : Int32) : ∃ a b g' r', m_Log_out g v p = some (a, g') ∧ m_RRef_out r v p = some (b, r') ∧ Rel n g' r' := by
  obtain ⟨⟨hn, hC, hR, ht, ho, hts⟩, hT⟩ := id h
  unfold m_Log_out m_RRef_out
  by_cases hop : g_isOpen g = 0
  · obtain ⟨b, hb⟩ := R_fm_any hR v
    exact ⟨-3, -3, g, r, by rw [if_pos hop], by rw [bs hb, if_pos (by rw [← ho]; exact hop)], h⟩
  · have ho1 := open_1 hC hop
    have hop' : ¬ g_Ropen r = 0 := by rw [← ho]; exact hop
    obtain ⟨lp, lk, lm, L, GP, GM, hTC, hTR, hL, hA, hN, hH⟩ := hT ho1
    have hct := CT_of hn hC hTC hA
    have hrt := RT_of hn hR hTR hL hA
    have hl := hTR.2.2.1
    obtain ⟨x', d1, d2⟩ := t_draw_savepoint hct v
    have tail : ∃ a, (if p = (-1) then ((m_Bytes_size (g_savepoint (s_savepoint g x'))).bind fun q12 => some (q12, s_savepoint g x')) else (if p < 0 then (some ((-1), s_savepoint g x')) else ((m_Bytes_size (g_savepoint (s_savepoint g x'))).bind fun q9 => if q9 ≤ p then (some ((-1), s_savepoint g x')) else ((m_Bytes_at (g_savepoint (s_savepoint g x')) p).bind fun q11 => some (q11, s_savepoint g x'))))) = some (a, s_savepoint g x') := by
      obtain ⟨s, hs⟩ := id d2
      have hsz : m_Bytes_size (g_savepoint (s_savepoint g x')) = some (nI s) := by simp only [q_savepoint]; unfold m_Bytes_size; rw [hs.2.1]
      obtain ⟨w, hw⟩ := b_at (x := g_savepoint (s_savepoint g x')) (by simp only [q_savepoint]; rw [hs.1]; omega) p
      split
      · exact ⟨_, by rw [bs hsz]⟩
      · split
        · exact ⟨_, rfl⟩
        · rw [bs hsz]
          split
          · exact ⟨_, rfl⟩
          · exact ⟨_, by rw [bs hw]⟩
    obtain ⟨ta, hta⟩ := tail
    have c1 : ∃ a g', (if g_isOpen g = 0 then some ((-3), g) else ((m_Log_tableOf g v).bind fun q2 => if q2 = 1 then ((m_Log_isMarkWhole g v).bind fun q4 => if q4 = 0 then (some ((-2), g)) else ((m_Log_drawSavepoint_savepoint g v).bind fun q6 => if p = (-1) then ((m_Bytes_size (g_savepoint q6)).bind fun q12 => some (q12, q6)) else (if p < 0 then (some ((-1), q6)) else ((m_Bytes_size (g_savepoint q6)).bind fun q9 => if q9 ≤ p then (some ((-1), q6)) else ((m_Bytes_at (g_savepoint q6) p).bind fun q11 => some (q11, q6)))))) else if q2 = 2 then ((m_Log_isMarkWhole g v).bind fun q14 => if q14 = 0 then (some ((-2), g)) else ((m_Log_drawSavepoint_savepoint g v).bind fun q16 => if p = (-1) then ((m_Bytes_size (g_savepoint q16)).bind fun q22 => some (q22, q16)) else (if p < 0 then (some ((-1), q16)) else ((m_Bytes_size (g_savepoint q16)).bind fun q19 => if q19 ≤ p then (some ((-1), q16)) else ((m_Bytes_at (g_savepoint q16) p).bind fun q21 => some (q21, q16)))))) else some ((-1), g))) = some (a, g') ∧ (g' = g ∨ g' = s_savepoint g x') := by
      obtain ⟨a, ha, -⟩ := t_tableOf hct v
      obtain ⟨b, hb⟩ := t_markWhole hct v
      rw [if_neg hop, bs ha]
      by_cases q1 : a = 1
      · rw [if_pos q1, bs hb]
        by_cases q2 : b = 0
        · rw [if_pos q2]; exact ⟨_, _, rfl, Or.inl rfl⟩
        · rw [if_neg q2, bs d1]
          exact ⟨_, _, hta, Or.inr rfl⟩
      · rw [if_neg q1]
        by_cases q3 : a = 2
        · rw [if_pos q3, bs hb]
          by_cases q2 : b = 0
          · rw [if_pos q2]; exact ⟨_, _, rfl, Or.inl rfl⟩
          · rw [if_neg q2, bs d1]
            exact ⟨_, _, hta, Or.inr rfl⟩
        · rw [if_neg q3]; exact ⟨_, _, rfl, Or.inl rfl⟩
    obtain ⟨a, g', ha, hg'⟩ := c1
    have hrel : Rel n g' r := by
      rcases hg' with rfl | rfl
      · exact h
      · exact Rel_sav h d2
    rcases R_fm_mr hR hTR.2 v with e | ⟨k, hk, e⟩
    · exact ⟨a, -1, g', r, ha, by rw [bs e, if_neg hop', if_pos rfl], hrel⟩
    · obtain ⟨c, c1, c2, hc⟩ := u_cnt hrt hk
      obtain ⟨u, hu, u1, u2⟩ := u_wM hrt hk hc c2
      by_cases z : u = 0
      · exact ⟨a, -2, g', r, ha, by rw [bs e, if_neg hop', if_neg (nI_m1 (by omega)), bs hu, if_pos z], hrel⟩
      · have hu1 : u = 1 := u1.resolve_left z
        obtain ⟨s', X, y1, y2, y3⟩ := u_savepoint hrt hk hc c2 (u2 hu1)
        rw [bs e, if_neg hop', if_neg (nI_m1 (by omega)), bs hu, if_neg z, bs y1]
        simp only
        by_cases zp : p = (-1)
        · exact ⟨a, _, g', _, ha, by rw [if_pos zp], Rel_spt hrel y2⟩
        · rw [if_neg zp]
          unfold m_RRef_isIn
          by_cases z1 : p < 0
          · exact ⟨a, -1, g', _, ha, by rw [if_pos z1]; rfl, Rel_spt hrel y2⟩
          · by_cases z2 : nI s' - 1 < p
            · exact ⟨a, -1, g', _, ha, by rw [if_neg z1, if_pos z2]; rfl, Rel_spt hrel y2⟩
            · rcases pk_ix p (n := 2010) (by omega) with w | w | ⟨k2, hk2, rfl⟩
              · exact absurd w z1
              · exfalso
                apply z2
                refine Int32.lt_of_lt_of_le ?_ w
                by_cases s0 : s' = 0
                · rw [s0]; decide +kernel
                · rw [n1, pk_sub (by omega)]
                  exact nI_lt (by omega) (by omega)
              · refine ⟨a, (X.2 k2) &&& 255, g', s_Rspoint r X, ha, ?_, Rel_spt hrel y2⟩
                rw [if_neg z1, if_neg z2, Option.bind_some, if_neg e10]
                simp only [qR_spoint]
                rw [y2, if_neg (nI_in hk2 (by omega)), nI_clamp (by omega)]
theorem t_same {x y : St_Bytes} (hx : x.1.1 < 2 ^ 31) (hy : y.1.1 < 2 ^ 31) {s : Nat} (hs : x.2 = nI s) (hs2 : s ≤ 2002) : ∃ v, m_Bytes_isSame x y = some v := by
  have key : ∀ (d fuel j : Nat), j + d = s → d < fuel → ∃ v, m_Bytes_isSame_L19 x y fuel (nI j) = some v := by
    intro d
    induction d with
    | zero =>
      intro fuel j hj hf
      obtain ⟨fu, rfl, -⟩ := fu1 hf
      exact ⟨1, by rw [m_Bytes_isSame_L19, hs, if_pos (nI_le (by omega) (by omega))]⟩
    | succ d ih =>
      intro fuel j hj hf
      obtain ⟨fu, rfl, hf'⟩ := fu1 hf
      obtain ⟨a, ha⟩ := b_at hx (nI j)
      obtain ⟨b, hb⟩ := b_at hy (nI j)
      rw [m_Bytes_isSame_L19, hs, if_neg (nI_ge (by omega) (by omega)), bs ha, bs hb, nI_1]
      split
      · exact ih fu (j + 1) (by omega) (by omega)
      · exact ⟨_, rfl⟩
  unfold m_Bytes_isSame
  split
  · exact key s FU 0 (by omega) (FU_lt (by omega))
  · exact ⟨_, rfl⟩
theorem st_equal {n : Nat} {g : St_Log} {r : St_Ref} (h : Rel n g r) (v w : Int32) : ∃ a b g', m_Log_equal g v w = some (a, g') ∧ m_RRef_equal r v w = some b ∧ Rel n g' r := by
  obtain ⟨⟨hn, hC, hR, ht, ho, hts⟩, hT⟩ := id h
  unfold m_Log_equal m_RRef_equal
  by_cases hop : g_isOpen g = 0
  · exact ⟨-3, -3, g, by rw [if_pos hop], by rw [if_pos (by rw [← ho]; exact hop)], h⟩
  · have ho1 := open_1 hC hop
    have hop' : ¬ g_Ropen r = 0 := by rw [← ho]; exact hop
    obtain ⟨lp, lk, lm, L, GP, GM, hTC, hTR, hL, hA, hN, hH⟩ := hT ho1
    have hct := CT_of hn hC hTC hA
    have hrt := RT_of hn hR hTR hL hA
    have hl := hTR.2.2.1
    rw [if_neg hop, if_neg hop']
    have cls : ∃ a g', ((m_Log_tableOf g v).bind fun q2 => if q2 = 1 then
    ((m_Log_tableOf g w).bind fun q4 => if q4 = 1 then
      ((m_Log_isMarkWhole g v).bind fun q6 => if q6 = 0 then
        (some ((-2), g))
        else
        ((m_Log_isMarkWhole g w).bind fun q8 => if q8 = 0 then
          (some ((-2), g))
          else
          ((m_Log_drawSavepoint_savepoint g v).bind fun q10 => (m_Log_drawSavepoint_otherSavepoint q10 w).bind fun q11 => (m_Bytes_isSame (g_savepoint q11) (g_otherSavepoint q11)).bind fun q12 => if q12 = 0 then
            (some (0, q11))
            else
            (some (1, q11)))))
      else if q4 = 2 then
      ((m_Log_isMarkWhole g v).bind fun q15 => if q15 = 0 then
        (some ((-2), g))
        else
        ((m_Log_isMarkWhole g w).bind fun q17 => if q17 = 0 then
          (some ((-2), g))
          else
          ((m_Log_drawSavepoint_savepoint g v).bind fun q19 => (m_Log_drawSavepoint_otherSavepoint q19 w).bind fun q20 => (m_Bytes_isSame (g_savepoint q20) (g_otherSavepoint q20)).bind fun q21 => if q21 = 0 then
            (some (0, q20))
            else
            (some (1, q20)))))
      else some ((-1), g))
    else if q2 = 2 then
    ((m_Log_tableOf g w).bind fun q24 => if q24 = 1 then
      ((m_Log_isMarkWhole g v).bind fun q26 => if q26 = 0 then
        (some ((-2), g))
        else
        ((m_Log_isMarkWhole g w).bind fun q28 => if q28 = 0 then
          (some ((-2), g))
          else
          ((m_Log_drawSavepoint_savepoint g v).bind fun q30 => (m_Log_drawSavepoint_otherSavepoint q30 w).bind fun q31 => (m_Bytes_isSame (g_savepoint q31) (g_otherSavepoint q31)).bind fun q32 => if q32 = 0 then
            (some (0, q31))
            else
            (some (1, q31)))))
      else if q24 = 2 then
      ((m_Log_isMarkWhole g v).bind fun q35 => if q35 = 0 then
        (some ((-2), g))
        else
        ((m_Log_isMarkWhole g w).bind fun q37 => if q37 = 0 then
          (some ((-2), g))
          else
          ((m_Log_drawSavepoint_savepoint g v).bind fun q39 => (m_Log_drawSavepoint_otherSavepoint q39 w).bind fun q40 => (m_Bytes_isSame (g_savepoint q40) (g_otherSavepoint q40)).bind fun q41 => if q41 = 0 then
            (some (0, q40))
            else
            (some (1, q40)))))
      else some ((-1), g))
    else some ((-1 : Int32), g)) = some (a, g') ∧ Rel n g' r := by
      obtain ⟨a, ha, -⟩ := t_tableOf hct v
      obtain ⟨b, hb, -⟩ := t_tableOf hct w
      obtain ⟨u1, m1⟩ := t_markWhole hct v
      obtain ⟨u2, m2⟩ := t_markWhole hct w
      obtain ⟨x1, d1, d2⟩ := t_draw_savepoint hct v
      obtain ⟨x2, f1, f2⟩ := t_draw_otherSavepoint (CT_savepoint hct d2) w
      obtain ⟨s1, hs1⟩ := id d2
      obtain ⟨s2, hs2⟩ := id f2
      obtain ⟨z, hz⟩ := t_same (x := x1) (y := x2) (by rw [hs1.1]; omega) (by rw [hs2.1]; omega) hs1.2.1 hs1.2.2.1
      have hz' : m_Bytes_isSame (g_savepoint (s_otherSavepoint (s_savepoint g x1) x2)) (g_otherSavepoint (s_otherSavepoint (s_savepoint g x1) x2)) = some z := by
        simp only [q_savepoint, q_otherSavepoint]; exact hz
      have inner : ∃ a g', ((m_Log_isMarkWhole g v).bind fun q6 => if q6 = 0 then
        (some ((-2), g))
        else
        ((m_Log_isMarkWhole g w).bind fun q8 => if q8 = 0 then
          (some ((-2), g))
          else
          ((m_Log_drawSavepoint_savepoint g v).bind fun q10 => (m_Log_drawSavepoint_otherSavepoint q10 w).bind fun q11 => (m_Bytes_isSame (g_savepoint q11) (g_otherSavepoint q11)).bind fun q12 => if q12 = 0 then
            (some (0, q11))
            else
            (some ((1 : Int32), q11))))) = some (a, g') ∧ Rel n g' r := by
        rw [bs m1]
        by_cases c1 : u1 = 0
        · rw [if_pos c1]; exact ⟨_, _, rfl, h⟩
        · rw [if_neg c1, bs m2]
          by_cases c2 : u2 = 0
          · rw [if_pos c2]; exact ⟨_, _, rfl, h⟩
          · rw [if_neg c2, bs d1, bs f1, bs hz']
            have hr := Rel_oth (Rel_sav h d2) f2
            by_cases c3 : z = 0
            · rw [if_pos c3]; exact ⟨_, _, rfl, hr⟩
            · rw [if_neg c3]; exact ⟨_, _, rfl, hr⟩
      rw [bs ha]
      by_cases q1 : a = 1
      · rw [if_pos q1, bs hb]
        by_cases q2 : b = 1
        · rw [if_pos q2]; exact inner
        · rw [if_neg q2]
          by_cases q3 : b = 2
          · rw [if_pos q3]; exact inner
          · rw [if_neg q3]; exact ⟨_, _, rfl, h⟩
      · rw [if_neg q1]
        by_cases q4 : a = 2
        · rw [if_pos q4, bs hb]
          by_cases q2 : b = 1
          · rw [if_pos q2]; exact inner
          · rw [if_neg q2]
            by_cases q3 : b = 2
            · rw [if_pos q3]; exact inner
            · rw [if_neg q3]; exact ⟨_, _, rfl, h⟩
        · rw [if_neg q4]; exact ⟨_, _, rfl, h⟩
    obtain ⟨a, g', ha, hrel⟩ := cls
    have rf : ∃ b, ((m_RRef_findMark r v).bind fun q2 => (m_RRef_findMark r w).bind fun q3 => if q2 = (-1) then
    (some (-1))
    else
    (if q3 = (-1) then
      (some (-1))
      else
      ((m_RRef_isWholeMark r q2).bind fun q6 => if q6 = 0 then
        (some (-2))
        else
        ((m_RRef_isWholeMark r q3).bind fun q8 => if q8 = 0 then
          (some (-2))
          else
          (if q2 < 0 ∨ (g_RmCount r).1 ≤ (q2).toNatClampNeg then none else if q3 < 0 ∨ (g_RmCount r).1 ≤ (q3).toNatClampNeg then none else if ((g_RmCount r).2 (q2).toNatClampNeg) = ((g_RmCount r).2 (q3).toNatClampNeg) then
            (m_RRef_equal_L82 r FU q2 q3 1 0)
            else
            (m_RRef_equal_L82 r FU q2 q3 0 0)))))) = some b := by
      obtain ⟨y0, hy0⟩ := R_fm_any hR w
      rcases R_fm_mr hR hTR.2 v with e | ⟨i, hi, e⟩
      · exact ⟨-1, by rw [bs e, bs hy0, if_pos rfl]⟩
      · rcases R_fm_mr hR hTR.2 w with e2 | ⟨j, hj, e2⟩
        · exact ⟨-1, by rw [bs e, bs e2, if_neg (nI_m1 (by omega)), if_pos rfl]⟩
        · obtain ⟨c, c1, c2, hc⟩ := u_cnt hrt hi
          obtain ⟨c', c1', c2', hc'⟩ := u_cnt hrt hj
          obtain ⟨u, hu, ua, ub⟩ := u_wM hrt hi hc c2
          obtain ⟨u', hu', ua', ub'⟩ := u_wM hrt hj hc' c2'
          rw [bs e, bs e2, if_neg (nI_m1 (by omega)), if_neg (nI_m1 (by omega)), bs hu]
          by_cases z1 : u = 0
          · exact ⟨-2, by rw [if_pos z1]⟩
          · rw [if_neg z1, bs hu']
            by_cases z2 : u' = 0
            · exact ⟨-2, by rw [if_pos z2]⟩
            · rw [if_neg z2, show (g_RmCount r).1 = 270 from ri_mCount hR, if_neg (nI_in (by omega) (by omega)), if_neg (nI_in (by omega) (by omega)), nI_clamp (by omega), nI_clamp (by omega), hc, hc']
              have go : ∀ v5 : Int32, is01 v5 → (v5 = 1 → c = c') → ∃ b, m_RRef_equal_L82 r FU (nI i) (nI j) v5 0 = some b := fun v5 h5 h6 => u_e82 hrt (x := i) (y := j) (by omega) (by omega) hc c2 (c' := c') (ub (ua.resolve_left z1)) (ub' (ua'.resolve_left z2)) c FU 0 v5 h5 h6 (by omega) (FU_lt (by omega))
              by_cases z3 : nI c = nI c'
              · rw [if_pos z3]
                exact go 1 (Or.inr rfl) (fun _ => (nI_eq (by omega) (by omega)).mp z3)
              · rw [if_neg z3]
                exact go 0 (Or.inl rfl) (fun e => absurd e (by decide))
    obtain ⟨b, hb⟩ := rf
    exact ⟨a, b, g', ha, hb, hrel⟩
