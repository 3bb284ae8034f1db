theorem ss_savepoint (g : St_Log) (a b : St_Bytes) : s_savepoint (s_savepoint g a) b = s_savepoint g b := rfl
theorem CT_savepoint {n : Nat} {g : St_Log} {lp : List PQ} {lk lm : List MKQ} (h : CT n g lp lk lm) {x : St_Bytes} (hx : BBe 2002 x) : CT n (s_savepoint g x) lp lk lm := by
  obtain ⟨hn, hC, hP, hK, hM, f1, f2, f3⟩ := h
  refine ⟨hn, cs_savepoint hC hx, ?_, ?_, ?_, f1, f2, f3⟩
  · simp only [q_parts]; exact hP
  · simp only [q_kept]; exact hK
  · simp only [q_made]; exact hM
theorem t_pO47_savepoint {n : Nat} {g : St_Log} {lp : List PQ} {lk lm : List MKQ} (h : CT n g lp lk lm) {i l w : Nat} (hi : i < lp.length) (hl : l ≤ 155) (hw : (crow (g_parts g) i).2.2.2.1 = nI w) (hw2 : w + 1 + bod l ≤ n) : ∀ (d fuel k s : Nat) (x : St_Bytes), BB 2002 x s → s + d ≤ 2002 → k + d = l → d < fuel → ∃ x', m_Log_drawPartOut_savepoint_L47 fuel (s_savepoint g x) (nI i) (nI l) (nI k) = some (s_savepoint g x') ∧ BB 2002 x' (s + d) := by
  intro d
  induction d with
  | zero =>
    intro fuel k s x hx hs hk hf
    obtain ⟨fu, rfl, -⟩ := fu1 hf
    refine ⟨x, ?_, hx⟩
    rw [m_Log_drawPartOut_savepoint_L47, if_pos (nI_le (by omega) (by omega))]
  | succ d ih =>
    intro fuel k s x hx hs hk hf
    obtain ⟨fu, rfl, hf'⟩ := fu1 hf
    have hb := C_byteOfPart (g := s_savepoint g x) (t := tri (g_medium g)) (lp := lp) (n := n) (by simp only [q_medium]; exact g_mk3 h.2.1) h.1 (by simp only [q_parts]; exact h.2.2.1) hi hl (by simp only [q_parts]; exact hw) hw2 (k := k) (by omega)
    obtain ⟨x1, a1, a2⟩ := B_add hx (by omega) (K := 1) (by omega) (by omega) ((tri (g_medium g)).1 (32 * (w + 1 + k / 31) + (1 + k % 31)) &&& 255).toInt64
    obtain ⟨x', b1, b2⟩ := ih fu (k + 1) (s + 1) x1 a2 (by omega) (by omega) (by omega)
    refine ⟨x', ?_, by rw [show s + (d + 1) = s + 1 + d by omega]; exact b2⟩
    rw [m_Log_drawPartOut_savepoint_L47, if_neg (nI_ge (by omega) (by omega)), bs hb]
    simp only [q_savepoint]
    refine Eq.trans (bs (show m_Bytes_add x _ 1 = some x1 from a1)) ?_
    rw [ss_savepoint, nI_1]
    exact b1
theorem t_pOut_savepoint {n : Nat} {g : St_Log} {lp : List PQ} {lk lm : List MKQ} (h : CT n g lp lk lm) {v : Int32} (hv : v = (-1) ∨ ∃ i, i < lp.length ∧ v = nI i) {s : Nat} {x : St_Bytes} (hx : BB 2002 x s) (hs : s + 166 ≤ 2002) : ∃ x' s', m_Log_drawPartOut_savepoint (s_savepoint g x) v = some (s_savepoint g x') ∧ BB 2002 x' s' ∧ s' ≤ s + 166 := by
  have hPL := h.2.2.1.1.l
  rcases hv with rfl | ⟨i, hi, rfl⟩
  · obtain ⟨x1, a1, a2⟩ := B_add hx (by omega) (K := 1) (by omega) (by omega) (-1 : Int32).toInt64
    obtain ⟨x2, b1, b2⟩ := B_add a2 (by omega) (K := 8) (by omega) (by omega) (-1)
    obtain ⟨x3, c1, c2⟩ := B_add b2 (by omega) (K := 2) (by omega) (by omega) (0 : Int32).toInt64
    refine ⟨x3, s + 1 + 8 + 2, ?_, c2, by omega⟩
    unfold m_Log_drawPartOut_savepoint
    simp only [q_parts, q_savepoint]
    refine Eq.trans (bs (P_lengthAt0 hPL (Or.inl (by decide)))) ?_
    refine Eq.trans (bs (P_groupAt0 hPL (Or.inl (by decide)))) ?_
    refine Eq.trans (bs (show m_Bytes_add x _ 1 = some x1 from a1)) ?_
    refine Eq.trans (bs (P_positionAt0 hPL (Or.inl (by decide)))) ?_
    refine Eq.trans (bs (show m_Bytes_add x1 _ 8 = some x2 from b1)) ?_
    refine Eq.trans (bs (show m_Bytes_add x2 _ 2 = some x3 from c1)) ?_
    obtain ⟨fv, hfv, -⟩ := fu1 (k := 1) (fuel := FU) (FU_lt (by omega))
    rw [ss_savepoint, ss_savepoint, ss_savepoint, hfv, m_Log_drawPartOut_savepoint_L47, if_pos (by decide)]
  · obtain ⟨_, _, l, w, _, _, _, _, _, p6, p7, p8, p9, p10⟩ := h.2.2.2.2.2.1 _ (PC_mem h.2.2.1 hi)
    have e1 : m_Parts_lengthAt (g_parts g) (nI i) = some (nI l) := by rw [P_lengthAt hPL hi]; exact congrArg some p6
    obtain ⟨x1, a1, a2⟩ := B_add hx (by omega) (K := 1) (by omega) (by omega) ((g_parts g).2.1.2 i).toInt64
    obtain ⟨x2, b1, b2⟩ := B_add a2 (by omega) (K := 8) (by omega) (by omega) ((g_parts g).2.2.2.2.1.2 i)
    obtain ⟨x3, c1, c2⟩ := B_add b2 (by omega) (K := 2) (by omega) (by omega) (nI l).toInt64
    obtain ⟨x4, d1, d2⟩ := t_pO47_savepoint h hi p7 p8 p10 l FU 0 (s + 1 + 8 + 2) x3 c2 (by omega) (by omega) (FU_lt (by omega))
    refine ⟨x4, s + 1 + 8 + 2 + l, ?_, d2, by omega⟩
    unfold m_Log_drawPartOut_savepoint
    simp only [q_parts, q_savepoint]
    refine Eq.trans (bs e1) ?_
    refine Eq.trans (bs (P_groupAt hPL hi)) ?_
    refine Eq.trans (bs (show m_Bytes_add x _ 1 = some x1 from a1)) ?_
    refine Eq.trans (bs (P_positionAt hPL hi)) ?_
    refine Eq.trans (bs (show m_Bytes_add x1 _ 8 = some x2 from b1)) ?_
    refine Eq.trans (bs (show m_Bytes_add x2 _ 2 = some x3 from c1)) ?_
    rw [ss_savepoint, ss_savepoint, ss_savepoint]
    exact d1
theorem t_dS49_savepoint {n : Nat} {g : St_Log} {lp : List PQ} {lk lm : List MKQ} (h : CT n g lp lk lm) {i c : Nat} (hi : i < lk.length) (hc : (g_kept g).2.1.2 i = nI c) (hc2 : c ≤ 12) : ∀ (d fuel k s : Nat) (x : St_Bytes), BB 2002 x s → s + 166 * d ≤ 1994 → k + d = c → d < fuel → ∃ x', m_Log_drawSavepoint_savepoint_L49 fuel (s_savepoint g x) (nI i) (nI c) (nI k) = some (s_savepoint g x') ∧ BBe 2002 x' := by
  intro d
  induction d with
  | zero =>
    intro fuel k s x hx hs hk hf
    obtain ⟨fu, rfl, -⟩ := fu1 hf
    obtain ⟨x1, a1, a2⟩ := B_add hx (by omega) (K := 8) (by omega) (by omega) (digF x.1.2 0 (s - 0))
    refine ⟨x1, ?_, _, a2⟩
    have hsz : m_Bytes_size x = some (nI s) := by unfold m_Bytes_size; rw [hx.2.1]
    rw [m_Log_drawSavepoint_savepoint_L49, if_pos (nI_le (by omega) (by omega))]
    simp only [q_savepoint]
    refine Eq.trans (bs hsz) ?_
    refine Eq.trans (bs (show m_Bytes_digest x 0 (nI s) = _ from B_dig hx (by omega) (a := 0) (b := s) (by omega) (by omega))) ?_
    refine Eq.trans (bs (show m_Bytes_add x _ 8 = some x1 from a1)) ?_
    rw [ss_savepoint]
  | succ d ih =>
    intro fuel k s x hx hs hk hf
    obtain ⟨fu, rfl, hf'⟩ := fu1 hf
    have hpa := M_partAt h.2.2.2.1.1.1 hi hc hc2 (nI k)
    obtain ⟨v, hv1, hv2⟩ : ∃ v, m_Parts_find (g_parts g) (if nI k < 0 ∨ nI c ≤ nI k then (-1) else (g_kept g).2.2.2.1.2 (12 * i + (nI k).toNatClampNeg)) = some v ∧ (v = (-1) ∨ ∃ j, j < lp.length ∧ v = nI j) := by
      rcases t_find h (if nI k < 0 ∨ nI c ≤ nI k then (-1) else (g_kept g).2.2.2.1.2 (12 * i + (nI k).toNatClampNeg)) with e | ⟨j, hj, e⟩
      · exact ⟨_, e, Or.inl rfl⟩
      · exact ⟨_, e, Or.inr ⟨j, hj, rfl⟩⟩
    obtain ⟨x1, s1, a1, a2, a3⟩ := t_pOut_savepoint h hv2 hx (by omega)
    obtain ⟨x', b1, b2⟩ := ih fu (k + 1) s1 x1 a2 (by omega) (by omega) (by omega)
    refine ⟨x', ?_, b2⟩
    rw [m_Log_drawSavepoint_savepoint_L49, if_neg (nI_ge (by omega) (by omega))]
    simp only [q_kept, q_parts]
    refine Eq.trans (bs hpa) ?_
    refine Eq.trans (bs hv1) ?_
    refine Eq.trans (bs a1) ?_
    rw [nI_1]
    exact b1
theorem t_dS49a_savepoint {n : Nat} {g : St_Log} {lp : List PQ} {lk lm : List MKQ} (h : CT n g lp lk lm) {i c : Nat} (hi : i < lm.length) (hc : (g_made g).2.1.2 i = nI c) (hc2 : c ≤ 12) : ∀ (d fuel k s : Nat) (x : St_Bytes), BB 2002 x s → s + 166 * d ≤ 1994 → k + d = c → d < fuel → ∃ x', m_Log_drawSavepoint_savepoint_L49a fuel (s_savepoint g x) (nI i) (nI c) (nI k) = some (s_savepoint g x') ∧ BBe 2002 x' := by
  intro d
  induction d with
  | zero =>
    intro fuel k s x hx hs hk hf
    obtain ⟨fu, rfl, -⟩ := fu1 hf
    obtain ⟨x1, a1, a2⟩ := B_add hx (by omega) (K := 8) (by omega) (by omega) (digF x.1.2 0 (s - 0))
    refine ⟨x1, ?_, _, a2⟩
    have hsz : m_Bytes_size x = some (nI s) := by unfold m_Bytes_size; rw [hx.2.1]
    rw [m_Log_drawSavepoint_savepoint_L49a, if_pos (nI_le (by omega) (by omega))]
    simp only [q_savepoint]
    refine Eq.trans (bs hsz) ?_
    refine Eq.trans (bs (show m_Bytes_digest x 0 (nI s) = _ from B_dig hx (by omega) (a := 0) (b := s) (by omega) (by omega))) ?_
    refine Eq.trans (bs (show m_Bytes_add x _ 8 = some x1 from a1)) ?_
    rw [ss_savepoint]
  | succ d ih =>
    intro fuel k s x hx hs hk hf
    obtain ⟨fu, rfl, hf'⟩ := fu1 hf
    have hpa := M_partAt h.2.2.2.2.1.1.1 hi hc hc2 (nI k)
    obtain ⟨v, hv1, hv2⟩ : ∃ v, m_Parts_find (g_parts g) (if nI k < 0 ∨ nI c ≤ nI k then (-1) else (g_made g).2.2.2.1.2 (12 * i + (nI k).toNatClampNeg)) = some v ∧ (v = (-1) ∨ ∃ j, j < lp.length ∧ v = nI j) := by
      rcases t_find h (if nI k < 0 ∨ nI c ≤ nI k then (-1) else (g_made g).2.2.2.1.2 (12 * i + (nI k).toNatClampNeg)) with e | ⟨j, hj, e⟩
      · exact ⟨_, e, Or.inl rfl⟩
      · exact ⟨_, e, Or.inr ⟨j, hj, rfl⟩⟩
    obtain ⟨x1, s1, a1, a2, a3⟩ := t_pOut_savepoint h hv2 hx (by omega)
    obtain ⟨x', b1, b2⟩ := ih fu (k + 1) s1 x1 a2 (by omega) (by omega) (by omega)
    refine ⟨x', ?_, b2⟩
    rw [m_Log_drawSavepoint_savepoint_L49a, if_neg (nI_ge (by omega) (by omega))]
    simp only [q_made, q_parts]
    refine Eq.trans (bs hpa) ?_
    refine Eq.trans (bs hv1) ?_
    refine Eq.trans (bs a1) ?_
    rw [nI_1]
    exact b1
theorem t_draw_savepoint {n : Nat} {g : St_Log} {lp : List PQ} {lk lm : List MKQ} (h : CT n g lp lk lm) (v : Int32) : ∃ x', m_Log_drawSavepoint_savepoint g v = some (s_savepoint g x') ∧ BBe 2002 x' := by
  obtain ⟨s0, hs0⟩ := ci_savepoint h.2.1
  have hcl := B_clear hs0 (by omega)
  have h0 : BB 2002 ((2002, fun _ => 0), 0) 0 := ⟨rfl, rfl, by omega, fun _ _ => rfl⟩
  obtain ⟨x1, a1, a2⟩ := B_add h0 (by omega) (K := 1) (by omega) (by omega) 77
  have h1 := h.2.2.2.1.1.1.2.2
  have h2 := h.2.2.2.2.1.1.1.2.2
  have htb : ∀ a b, m_Marks_find (g_kept g) v = some a → m_Marks_find (g_made g) v = some b → m_Log_tableOf (s_savepoint g ((2002, fun _ => 0), 0)) v = some (if a = (-1) then (if b = (-1) then 0 else 2) else 1) := fun a b ea eb => C_tableOf v a b (by simp only [q_kept]; exact ea) (by simp only [q_made]; exact eb)
  unfold m_Log_drawSavepoint_savepoint
  refine (fun (z : ∃ x', _ ∧ _) => ?_ : (∃ x', ((m_Log_tableOf (s_savepoint g ((2002, fun _ => 0), 0)) v).bind fun q2 => if q2 = 1 then
    ((m_Marks_find (g_kept g) v).bind fun q4 => (m_Marks_countAt (g_kept g) q4).bind fun q5 => (m_Bytes_add ((2002, fun _ => 0), 0) 77 1).bind fun q6 => (m_Bytes_add q6 ((q5).toInt64) 1).bind fun q7 => m_Log_drawSavepoint_savepoint_L49 FU (s_savepoint (s_savepoint (s_savepoint g ((2002, fun _ => 0), 0)) q6) q7) q4 q5 0)
    else if q2 = 2 then
    ((m_Marks_find (g_made g) v).bind fun q16 => (m_Marks_countAt (g_made g) q16).bind fun q17 => (m_Bytes_add ((2002, fun _ => 0), 0) 77 1).bind fun q18 => (m_Bytes_add q18 ((q17).toInt64) 1).bind fun q19 => m_Log_drawSavepoint_savepoint_L49a FU (s_savepoint (s_savepoint (s_savepoint g ((2002, fun _ => 0), 0)) q18) q19) q16 q17 0)
    else some (s_savepoint g ((2002, fun _ => 0), 0))) = some (s_savepoint g x') ∧ BBe 2002 x') → _) ?_
  · obtain ⟨x', z1, z2⟩ := z
    exact ⟨x', (bs hcl).trans z1, z2⟩
  · rcases C_findM h.2.2.2.1 v with ⟨e, -⟩ | ⟨i, hi, e, -⟩
    · rcases C_findM h.2.2.2.2.1 v with ⟨e2, -⟩ | ⟨j, hj, e2, -⟩
      · refine ⟨((2002, fun _ => 0), 0), ?_, 0, h0⟩
        rw [bs (htb _ _ e e2)]
        rfl
      · obtain ⟨_, c, _, _, _, p4, p5, p6, _⟩ := h.2.2.2.2.2.2.2 _ (MC_mem h.2.2.2.2.1 hj)
        have p4' : (g_made g).2.1.2 j = nI c := p4
        obtain ⟨x2, b1, b2⟩ := B_add a2 (by omega) (K := 1) (by omega) (by omega) (nI c).toInt64
        obtain ⟨x3, c1, c2⟩ := t_dS49a_savepoint h hj p4' p6 c FU 0 (0 + 1 + 1) x2 b2 (by omega) (by omega) (FU_lt (by omega))
        refine ⟨x3, ?_, c2⟩
        have hca := M_countAt h.2.2.2.2.1.1.1 hj
        rw [p4'] at hca
        rw [bs (htb _ _ e e2), if_pos rfl, if_neg (nI_m1 (by omega)), if_neg (by decide), if_pos rfl, bs e2, bs hca]
        refine Eq.trans (bs (show m_Bytes_add ((2002, fun _ => 0), 0) 77 1 = some x1 from a1)) ?_
        refine Eq.trans (bs (show m_Bytes_add x1 _ 1 = some x2 from b1)) ?_
        rw [ss_savepoint, ss_savepoint]
        exact c1
    · obtain ⟨_, c, w, _, _, _, p4, p5, p6, _⟩ := h.2.2.2.2.2.2.1 _ (MC_mem h.2.2.2.1 hi)
      have p4' : (g_kept g).2.1.2 i = nI c := p4
      obtain ⟨b, hb⟩ : ∃ b, m_Marks_find (g_made g) v = some b := by
        rcases C_findM h.2.2.2.2.1 v with ⟨e2, -⟩ | ⟨j, hj, e2, -⟩
        · exact ⟨_, e2⟩
        · exact ⟨_, e2⟩
      obtain ⟨x2, b1, b2⟩ := B_add a2 (by omega) (K := 1) (by omega) (by omega) (nI c).toInt64
      obtain ⟨x3, c1, c2⟩ := t_dS49_savepoint h hi p4' p6 c FU 0 (0 + 1 + 1) x2 b2 (by omega) (by omega) (FU_lt (by omega))
      refine ⟨x3, ?_, c2⟩
      have hca := M_countAt h.2.2.2.1.1.1 hi
      rw [p4'] at hca
      rw [bs (htb _ _ e hb), if_neg (nI_m1 (by omega)), if_pos rfl, bs e, bs hca]
      refine Eq.trans (bs (show m_Bytes_add ((2002, fun _ => 0), 0) 77 1 = some x1 from a1)) ?_
      refine Eq.trans (bs (show m_Bytes_add x1 _ 1 = some x2 from b1)) ?_
      rw [ss_savepoint, ss_savepoint]
      exact c1
theorem ss_otherSavepoint (g : St_Log) (a b : St_Bytes) : s_otherSavepoint (s_otherSavepoint g a) b = s_otherSavepoint g b := rfl
theorem CT_otherSavepoint {n : Nat} {g : St_Log} {lp : List PQ} {lk lm : List MKQ} (h : CT n g lp lk lm) {x : St_Bytes} (hx : BBe 2002 x) : CT n (s_otherSavepoint g x) lp lk lm := by
  obtain ⟨hn, hC, hP, hK, hM, f1, f2, f3⟩ := h
  refine ⟨hn, cs_otherSavepoint hC hx, ?_, ?_, ?_, f1, f2, f3⟩
  · simp only [q_parts]; exact hP
  · simp only [q_kept]; exact hK
  · simp only [q_made]; exact hM
theorem t_pO47_otherSavepoint {n : Nat} {g : St_Log} {lp : List PQ} {lk lm : List MKQ} (h : CT n g lp lk lm) {i l w : Nat} (hi : i < lp.length) (hl : l ≤ 155) (hw : (crow (g_parts g) i).2.2.2.1 = nI w) (hw2 : w + 1 + bod l ≤ n) : ∀ (d fuel k s : Nat) (x : St_Bytes), BB 2002 x s → s + d ≤ 2002 → k + d = l → d < fuel → ∃ x', m_Log_drawPartOut_otherSavepoint_L47 fuel (s_otherSavepoint g x) (nI i) (nI l) (nI k) = some (s_otherSavepoint g x') ∧ BB 2002 x' (s + d) := by
  intro d
  induction d with
  | zero =>
    intro fuel k s x hx hs hk hf
    obtain ⟨fu, rfl, -⟩ := fu1 hf
    refine ⟨x, ?_, hx⟩
    rw [m_Log_drawPartOut_otherSavepoint_L47, if_pos (nI_le (by omega) (by omega))]
  | succ d ih =>
    intro fuel k s x hx hs hk hf
    obtain ⟨fu, rfl, hf'⟩ := fu1 hf
    have hb := C_byteOfPart (g := s_otherSavepoint g x) (t := tri (g_medium g)) (lp := lp) (n := n) (by simp only [q_medium]; exact g_mk3 h.2.1) h.1 (by simp only [q_parts]; exact h.2.2.1) hi hl (by simp only [q_parts]; exact hw) hw2 (k := k) (by omega)
    obtain ⟨x1, a1, a2⟩ := B_add hx (by omega) (K := 1) (by omega) (by omega) ((tri (g_medium g)).1 (32 * (w + 1 + k / 31) + (1 + k % 31)) &&& 255).toInt64
    obtain ⟨x', b1, b2⟩ := ih fu (k + 1) (s + 1) x1 a2 (by omega) (by omega) (by omega)
    refine ⟨x', ?_, by rw [show s + (d + 1) = s + 1 + d by omega]; exact b2⟩
    rw [m_Log_drawPartOut_otherSavepoint_L47, if_neg (nI_ge (by omega) (by omega)), bs hb]
    simp only [q_otherSavepoint]
    refine Eq.trans (bs (show m_Bytes_add x _ 1 = some x1 from a1)) ?_
    rw [ss_otherSavepoint, nI_1]
    exact b1
theorem t_pOut_otherSavepoint {n : Nat} {g : St_Log} {lp : List PQ} {lk lm : List MKQ} (h : CT n g lp lk lm) {v : Int32} (hv : v = (-1) ∨ ∃ i, i < lp.length ∧ v = nI i) {s : Nat} {x : St_Bytes} (hx : BB 2002 x s) (hs : s + 166 ≤ 2002) : ∃ x' s', m_Log_drawPartOut_otherSavepoint (s_otherSavepoint g x) v = some (s_otherSavepoint g x') ∧ BB 2002 x' s' ∧ s' ≤ s + 166 := by
  have hPL := h.2.2.1.1.l
  rcases hv with rfl | ⟨i, hi, rfl⟩
  · obtain ⟨x1, a1, a2⟩ := B_add hx (by omega) (K := 1) (by omega) (by omega) (-1 : Int32).toInt64
    obtain ⟨x2, b1, b2⟩ := B_add a2 (by omega) (K := 8) (by omega) (by omega) (-1)
    obtain ⟨x3, c1, c2⟩ := B_add b2 (by omega) (K := 2) (by omega) (by omega) (0 : Int32).toInt64
    refine ⟨x3, s + 1 + 8 + 2, ?_, c2, by omega⟩
    unfold m_Log_drawPartOut_otherSavepoint
    simp only [q_parts, q_otherSavepoint]
    refine Eq.trans (bs (P_lengthAt0 hPL (Or.inl (by decide)))) ?_
    refine Eq.trans (bs (P_groupAt0 hPL (Or.inl (by decide)))) ?_
    refine Eq.trans (bs (show m_Bytes_add x _ 1 = some x1 from a1)) ?_
    refine Eq.trans (bs (P_positionAt0 hPL (Or.inl (by decide)))) ?_
    refine Eq.trans (bs (show m_Bytes_add x1 _ 8 = some x2 from b1)) ?_
    refine Eq.trans (bs (show m_Bytes_add x2 _ 2 = some x3 from c1)) ?_
    obtain ⟨fv, hfv, -⟩ := fu1 (k := 1) (fuel := FU) (FU_lt (by omega))
    rw [ss_otherSavepoint, ss_otherSavepoint, ss_otherSavepoint, hfv, m_Log_drawPartOut_otherSavepoint_L47, if_pos (by decide)]
  · obtain ⟨_, _, l, w, _, _, _, _, _, p6, p7, p8, p9, p10⟩ := h.2.2.2.2.2.1 _ (PC_mem h.2.2.1 hi)
    have e1 : m_Parts_lengthAt (g_parts g) (nI i) = some (nI l) := by rw [P_lengthAt hPL hi]; exact congrArg some p6
    obtain ⟨x1, a1, a2⟩ := B_add hx (by omega) (K := 1) (by omega) (by omega) ((g_parts g).2.1.2 i).toInt64
    obtain ⟨x2, b1, b2⟩ := B_add a2 (by omega) (K := 8) (by omega) (by omega) ((g_parts g).2.2.2.2.1.2 i)
    obtain ⟨x3, c1, c2⟩ := B_add b2 (by omega) (K := 2) (by omega) (by omega) (nI l).toInt64
    obtain ⟨x4, d1, d2⟩ := t_pO47_otherSavepoint h hi p7 p8 p10 l FU 0 (s + 1 + 8 + 2) x3 c2 (by omega) (by omega) (FU_lt (by omega))
    refine ⟨x4, s + 1 + 8 + 2 + l, ?_, d2, by omega⟩
    unfold m_Log_drawPartOut_otherSavepoint
    simp only [q_parts, q_otherSavepoint]
    refine Eq.trans (bs e1) ?_
    refine Eq.trans (bs (P_groupAt hPL hi)) ?_
    refine Eq.trans (bs (show m_Bytes_add x _ 1 = some x1 from a1)) ?_
    refine Eq.trans (bs (P_positionAt hPL hi)) ?_
    refine Eq.trans (bs (show m_Bytes_add x1 _ 8 = some x2 from b1)) ?_
    refine Eq.trans (bs (show m_Bytes_add x2 _ 2 = some x3 from c1)) ?_
    rw [ss_otherSavepoint, ss_otherSavepoint, ss_otherSavepoint]
    exact d1
theorem t_dS49_otherSavepoint {n : Nat} {g : St_Log} {lp : List PQ} {lk lm : List MKQ} (h : CT n g lp lk lm) {i c : Nat} (hi : i < lk.length) (hc : (g_kept g).2.1.2 i = nI c) (hc2 : c ≤ 12) : ∀ (d fuel k s : Nat) (x : St_Bytes), BB 2002 x s → s + 166 * d ≤ 1994 → k + d = c → d < fuel → ∃ x', m_Log_drawSavepoint_otherSavepoint_L49 fuel (s_otherSavepoint g x) (nI i) (nI c) (nI k) = some (s_otherSavepoint g x') ∧ BBe 2002 x' := by
  intro d
  induction d with
  | zero =>
    intro fuel k s x hx hs hk hf
    obtain ⟨fu, rfl, -⟩ := fu1 hf
    obtain ⟨x1, a1, a2⟩ := B_add hx (by omega) (K := 8) (by omega) (by omega) (digF x.1.2 0 (s - 0))
    refine ⟨x1, ?_, _, a2⟩
    have hsz : m_Bytes_size x = some (nI s) := by unfold m_Bytes_size; rw [hx.2.1]
    rw [m_Log_drawSavepoint_otherSavepoint_L49, if_pos (nI_le (by omega) (by omega))]
    simp only [q_otherSavepoint]
    refine Eq.trans (bs hsz) ?_
    refine Eq.trans (bs (show m_Bytes_digest x 0 (nI s) = _ from B_dig hx (by omega) (a := 0) (b := s) (by omega) (by omega))) ?_
    refine Eq.trans (bs (show m_Bytes_add x _ 8 = some x1 from a1)) ?_
    rw [ss_otherSavepoint]
  | succ d ih =>
    intro fuel k s x hx hs hk hf
    obtain ⟨fu, rfl, hf'⟩ := fu1 hf
    have hpa := M_partAt h.2.2.2.1.1.1 hi hc hc2 (nI k)
    obtain ⟨v, hv1, hv2⟩ : ∃ v, m_Parts_find (g_parts g) (if nI k < 0 ∨ nI c ≤ nI k then (-1) else (g_kept g).2.2.2.1.2 (12 * i + (nI k).toNatClampNeg)) = some v ∧ (v = (-1) ∨ ∃ j, j < lp.length ∧ v = nI j) := by
      rcases t_find h (if nI k < 0 ∨ nI c ≤ nI k then (-1) else (g_kept g).2.2.2.1.2 (12 * i + (nI k).toNatClampNeg)) with e | ⟨j, hj, e⟩
      · exact ⟨_, e, Or.inl rfl⟩
      · exact ⟨_, e, Or.inr ⟨j, hj, rfl⟩⟩
    obtain ⟨x1, s1, a1, a2, a3⟩ := t_pOut_otherSavepoint h hv2 hx (by omega)
    obtain ⟨x', b1, b2⟩ := ih fu (k + 1) s1 x1 a2 (by omega) (by omega) (by omega)
    refine ⟨x', ?_, b2⟩
    rw [m_Log_drawSavepoint_otherSavepoint_L49, if_neg (nI_ge (by omega) (by omega))]
    simp only [q_kept, q_parts]
    refine Eq.trans (bs hpa) ?_
    refine Eq.trans (bs hv1) ?_
    refine Eq.trans (bs a1) ?_
    rw [nI_1]
    exact b1
theorem t_dS49a_otherSavepoint {n : Nat} {g : St_Log} {lp : List PQ} {lk lm : List MKQ} (h : CT n g lp lk lm) {i c : Nat} (hi : i < lm.length) (hc : (g_made g).2.1.2 i = nI c) (hc2 : c ≤ 12) : ∀ (d fuel k s : Nat) (x : St_Bytes), BB 2002 x s → s + 166 * d ≤ 1994 → k + d = c → d < fuel → ∃ x', m_Log_drawSavepoint_otherSavepoint_L49a fuel (s_otherSavepoint g x) (nI i) (nI c) (nI k) = some (s_otherSavepoint g x') ∧ BBe 2002 x' := by
  intro d
  induction d with
  | zero =>
    intro fuel k s x hx hs hk hf
    obtain ⟨fu, rfl, -⟩ := fu1 hf
    obtain ⟨x1, a1, a2⟩ := B_add hx (by omega) (K := 8) (by omega) (by omega) (digF x.1.2 0 (s - 0))
    refine ⟨x1, ?_, _, a2⟩
    have hsz : m_Bytes_size x = some (nI s) := by unfold m_Bytes_size; rw [hx.2.1]
    rw [m_Log_drawSavepoint_otherSavepoint_L49a, if_pos (nI_le (by omega) (by omega))]
    simp only [q_otherSavepoint]
    refine Eq.trans (bs hsz) ?_
    refine Eq.trans (bs (show m_Bytes_digest x 0 (nI s) = _ from B_dig hx (by omega) (a := 0) (b := s) (by omega) (by omega))) ?_
    refine Eq.trans (bs (show m_Bytes_add x _ 8 = some x1 from a1)) ?_
    rw [ss_otherSavepoint]
  | succ d ih =>
    intro fuel k s x hx hs hk hf
    obtain ⟨fu, rfl, hf'⟩ := fu1 hf
    have hpa := M_partAt h.2.2.2.2.1.1.1 hi hc hc2 (nI k)
    obtain ⟨v, hv1, hv2⟩ : ∃ v, m_Parts_find (g_parts g) (if nI k < 0 ∨ nI c ≤ nI k then (-1) else (g_made g).2.2.2.1.2 (12 * i + (nI k).toNatClampNeg)) = some v ∧ (v = (-1) ∨ ∃ j, j < lp.length ∧ v = nI j) := by
      rcases t_find h (if nI k < 0 ∨ nI c ≤ nI k then (-1) else (g_made g).2.2.2.1.2 (12 * i + (nI k).toNatClampNeg)) with e | ⟨j, hj, e⟩
      · exact ⟨_, e, Or.inl rfl⟩
      · exact ⟨_, e, Or.inr ⟨j, hj, rfl⟩⟩
    obtain ⟨x1, s1, a1, a2, a3⟩ := t_pOut_otherSavepoint h hv2 hx (by omega)
    obtain ⟨x', b1, b2⟩ := ih fu (k + 1) s1 x1 a2 (by omega) (by omega) (by omega)
    refine ⟨x', ?_, b2⟩
    rw [m_Log_drawSavepoint_otherSavepoint_L49a, if_neg (nI_ge (by omega) (by omega))]
    simp only [q_made, q_parts]
    refine Eq.trans (bs hpa) ?_
    refine Eq.trans (bs hv1) ?_
    refine Eq.trans (bs a1) ?_
    rw [nI_1]
    exact b1
theorem t_draw_otherSavepoint {n : Nat} {g : St_Log} {lp : List PQ} {lk lm : List MKQ} (h : CT n g lp lk lm) (v : Int32) : ∃ x', m_Log_drawSavepoint_otherSavepoint g v = some (s_otherSavepoint g x') ∧ BBe 2002 x' := by
  obtain ⟨s0, hs0⟩ := ci_otherSavepoint h.2.1
  have hcl := B_clear hs0 (by omega)
  have h0 : BB 2002 ((2002, fun _ => 0), 0) 0 := ⟨rfl, rfl, by omega, fun _ _ => rfl⟩
  obtain ⟨x1, a1, a2⟩ := B_add h0 (by omega) (K := 1) (by omega) (by omega) 77
  have h1 := h.2.2.2.1.1.1.2.2
  have h2 := h.2.2.2.2.1.1.1.2.2
  have htb : ∀ a b, m_Marks_find (g_kept g) v = some a → m_Marks_find (g_made g) v = some b → m_Log_tableOf (s_otherSavepoint g ((2002, fun _ => 0), 0)) v = some (if a = (-1) then (if b = (-1) then 0 else 2) else 1) := fun a b ea eb => C_tableOf v a b (by simp only [q_kept]; exact ea) (by simp only [q_made]; exact eb)
  unfold m_Log_drawSavepoint_otherSavepoint
  refine (fun (z : ∃ x', _ ∧ _) => ?_ : (∃ x', ((m_Log_tableOf (s_otherSavepoint g ((2002, fun _ => 0), 0)) v).bind fun q2 => if q2 = 1 then
    ((m_Marks_find (g_kept g) v).bind fun q4 => (m_Marks_countAt (g_kept g) q4).bind fun q5 => (m_Bytes_add ((2002, fun _ => 0), 0) 77 1).bind fun q6 => (m_Bytes_add q6 ((q5).toInt64) 1).bind fun q7 => m_Log_drawSavepoint_otherSavepoint_L49 FU (s_otherSavepoint (s_otherSavepoint (s_otherSavepoint g ((2002, fun _ => 0), 0)) q6) q7) q4 q5 0)
    else if q2 = 2 then
    ((m_Marks_find (g_made g) v).bind fun q16 => (m_Marks_countAt (g_made g) q16).bind fun q17 => (m_Bytes_add ((2002, fun _ => 0), 0) 77 1).bind fun q18 => (m_Bytes_add q18 ((q17).toInt64) 1).bind fun q19 => m_Log_drawSavepoint_otherSavepoint_L49a FU (s_otherSavepoint (s_otherSavepoint (s_otherSavepoint g ((2002, fun _ => 0), 0)) q18) q19) q16 q17 0)
    else some (s_otherSavepoint g ((2002, fun _ => 0), 0))) = some (s_otherSavepoint g x') ∧ BBe 2002 x') → _) ?_
  · obtain ⟨x', z1, z2⟩ := z
    exact ⟨x', (bs hcl).trans z1, z2⟩
  · rcases C_findM h.2.2.2.1 v with ⟨e, -⟩ | ⟨i, hi, e, -⟩
    · rcases C_findM h.2.2.2.2.1 v with ⟨e2, -⟩ | ⟨j, hj, e2, -⟩
      · refine ⟨((2002, fun _ => 0), 0), ?_, 0, h0⟩
        rw [bs (htb _ _ e e2)]
        rfl
      · obtain ⟨_, c, _, _, _, p4, p5, p6, _⟩ := h.2.2.2.2.2.2.2 _ (MC_mem h.2.2.2.2.1 hj)
        have p4' : (g_made g).2.1.2 j = nI c := p4
        obtain ⟨x2, b1, b2⟩ := B_add a2 (by omega) (K := 1) (by omega) (by omega) (nI c).toInt64
        obtain ⟨x3, c1, c2⟩ := t_dS49a_otherSavepoint h hj p4' p6 c FU 0 (0 + 1 + 1) x2 b2 (by omega) (by omega) (FU_lt (by omega))
        refine ⟨x3, ?_, c2⟩
        have hca := M_countAt h.2.2.2.2.1.1.1 hj
        rw [p4'] at hca
        rw [bs (htb _ _ e e2), if_pos rfl, if_neg (nI_m1 (by omega)), if_neg (by decide), if_pos rfl, bs e2, bs hca]
        refine Eq.trans (bs (show m_Bytes_add ((2002, fun _ => 0), 0) 77 1 = some x1 from a1)) ?_
        refine Eq.trans (bs (show m_Bytes_add x1 _ 1 = some x2 from b1)) ?_
        rw [ss_otherSavepoint, ss_otherSavepoint]
        exact c1
    · obtain ⟨_, c, w, _, _, _, p4, p5, p6, _⟩ := h.2.2.2.2.2.2.1 _ (MC_mem h.2.2.2.1 hi)
      have p4' : (g_kept g).2.1.2 i = nI c := p4
      obtain ⟨b, hb⟩ : ∃ b, m_Marks_find (g_made g) v = some b := by
        rcases C_findM h.2.2.2.2.1 v with ⟨e2, -⟩ | ⟨j, hj, e2, -⟩
        · exact ⟨_, e2⟩
        · exact ⟨_, e2⟩
      obtain ⟨x2, b1, b2⟩ := B_add a2 (by omega) (K := 1) (by omega) (by omega) (nI c).toInt64
      obtain ⟨x3, c1, c2⟩ := t_dS49_otherSavepoint h hi p4' p6 c FU 0 (0 + 1 + 1) x2 b2 (by omega) (by omega) (FU_lt (by omega))
      refine ⟨x3, ?_, c2⟩
      have hca := M_countAt h.2.2.2.1.1.1 hi
      rw [p4'] at hca
      rw [bs (htb _ _ e hb), if_neg (nI_m1 (by omega)), if_pos rfl, bs e, bs hca]
      refine Eq.trans (bs (show m_Bytes_add ((2002, fun _ => 0), 0) 77 1 = some x1 from a1)) ?_
      refine Eq.trans (bs (show m_Bytes_add x1 _ 1 = some x2 from b1)) ?_
      rw [ss_otherSavepoint, ss_otherSavepoint]
      exact c1
