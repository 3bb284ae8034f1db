-- THE REFERENCE'S USED ROWS
theorem sr_used (g : St_Ref) (a b : AI) : s_Rused (s_Rused g a) b = s_Rused g b := rfl
theorem nb1 : vp_nar .boolean 1 = 1 := by decide +kernel
theorem nb0 : vp_nar .boolean 0 = 0 := by decide +kernel
theorem n512 : (512 : Int32) = nI 512 := by decide +kernel
theorem upd1 {f : Nat → Int32} {k r : Nat} : upd f k 1 r = 0 ↔ f r = 0 ∧ r ≠ k := by
  unfold upd
  by_cases h : r = k
  · rw [if_pos h]
    exact ⟨fun e => absurd e (by decide), fun e => absurd h e.2⟩
  · rw [if_neg h]
    exact ⟨fun e => ⟨e, h⟩, fun e => e.1⟩
theorem R_u51 {g : St_Ref} (kk : St_Ref → Int32 → Option St_Ref) {k len w : Nat} (hk : k < 520) (l1 : (g_RpLength g).1 = 520) (l2 : (g_RpRow g).1 = 520) (e1 : (g_RpLength g).2 k = nI len) (e2 : (g_RpRow g).2 k = nI w) (hl : len ≤ 155) (hw : w + 1 + bod len ≤ 512) : ∀ (d fuel i : Nat) (f : Nat → Int32), i + d = bod len + 1 → d < fuel → ∃ f', m_RRef_marksUsed_L51 kk fuel (s_Rused g (512, f)) (nI k) (nI i) = kk (s_Rused g (512, f')) (nI k) ∧ ∀ r, f' r = 0 ↔ f r = 0 ∧ ¬ (w + i ≤ r ∧ r < w + 1 + bod len) := by
  have c0 : (nI k).toNatClampNeg = k := nI_clamp (by omega)
  have i0 : ∀ M, M = 520 → ¬ (nI k < 0 ∨ M ≤ k) := fun M hM => by
    have := nI_in (c := k) (N := 520) hk (by omega)
    rw [c0] at this
    rw [hM]; exact this
  intro d
  induction d with
  | zero =>
    intro fuel i f hi hf
    obtain ⟨fu, rfl, -⟩ := fu1 hf
    refine ⟨f, ?_, fun r => ⟨fun e => ⟨e, by omega⟩, fun e => e.1⟩⟩
    rw [m_RRef_marksUsed_L51]
    simp only [qR_pLength]
    rw [c0, e1]
    refine Eq.trans (if_neg (i0 _ l1)) ?_
    refine Eq.trans (bs (R_bodies (by omega))) ?_
    exact if_pos (nI_lt (by omega) (by omega))
  | succ d ih =>
    intro fuel i f hi hf
    obtain ⟨fu, rfl, hf'⟩ := fu1 hf
    obtain ⟨f', a1, a2⟩ := ih fu (i + 1) (upd f (w + i) 1) (by omega) (by omega)
    refine ⟨f', ?_, fun r => ?_⟩
    · rw [m_RRef_marksUsed_L51]
      simp only [qR_pLength, qR_pRow, qR_used, sr_used]
      rw [c0, e1, e2, nI_add]
      refine Eq.trans (if_neg (i0 _ l1)) ?_
      refine Eq.trans (bs (R_bodies (by omega))) ?_
      refine Eq.trans (if_neg (nI_nlt (by omega) (by omega))) ?_
      refine Eq.trans (if_neg (i0 _ l2)) ?_
      refine Eq.trans (if_neg (nI_in (show w + i < 512 by omega) (by omega))) ?_
      rw [nb1, nI_clamp (show w + i < 2 ^ 31 by omega), nI_1]
      exact a1
    · rw [a2 r, upd1]
      constructor
      · rintro ⟨⟨q1, q2⟩, q3⟩
        exact ⟨q1, fun q => q3 ⟨by omega, q.2⟩⟩
      · rintro ⟨q1, q2⟩
        exact ⟨⟨q1, fun q => q2 ⟨by omega, by omega⟩⟩, fun q => q2 ⟨by omega, q.2⟩⟩
theorem R_u41 {g : St_Ref} {n P : Nat} (h : RI n g) (hp : g_Rparts g = nI P) (hP : P ≤ 520) (hfit : ∀ k, k < P → FitP n (rrow g k)) (hn : n ≤ 512) : ∀ (d fuel k : Nat) (f : Nat → Int32), k + d = P → d < fuel → ∃ f', m_RRef_marksUsed_L41 fuel (s_Rused g (512, f)) (nI k) = m_RRef_marksUsed_L92 FU (s_Rused g (512, f')) 0 ∧ ∀ r, f' r = 0 ↔ f r = 0 ∧ ∀ j, k ≤ j → j < P → ¬ ((pIv (rrow g j)).1 ≤ r ∧ r < (pIv (rrow g j)).1 + (pIv (rrow g j)).2) := by
  intro d
  induction d with
  | zero =>
    intro fuel k f hk hf
    obtain ⟨fu, rfl, -⟩ := fu1 hf
    refine ⟨f, ?_, fun r => ⟨fun e => ⟨e, fun j h1 h2 => absurd h2 (by omega)⟩, fun e => e.1⟩⟩
    rw [m_RRef_marksUsed_L41]
    simp only [qR_parts]
    rw [hp]
    exact if_pos (nI_le (by omega) (by omega))
  | succ d ih =>
    intro fuel k f hk hf
    obtain ⟨fu, rfl, hf'⟩ := fu1 hf
    obtain ⟨a, b, l, w, q1, q2, q3, q4, q5, q6, q7, q8, q9, q10⟩ := hfit k (by omega)
    have e1 : (g_RpLength g).2 k = nI l := q6
    have e2 : (g_RpRow g).2 k = nI w := q8
    obtain ⟨f1, a1, a2⟩ := R_u51 (g := g) (fun (g18 : St_Ref) (v1_19 : Int32) => m_RRef_marksUsed_L41 fu g18 (v1_19 + 1)) (k := k) (by omega) (ri_pLength h) (ri_pRow h) e1 e2 q7 (by omega) (bod l + 1) FU 0 f (by omega) (FU_lt (by unfold bod; omega))
    obtain ⟨f', b1, b2⟩ := ih fu (k + 1) f1 (by omega) (by omega)
    refine ⟨f', ?_, fun r => ?_⟩
    · rw [m_RRef_marksUsed_L41]
      simp only [qR_parts]
      rw [hp]
      refine Eq.trans (if_neg (nI_ge (by omega) (by omega))) ?_
      refine Eq.trans a1 ?_
      show m_RRef_marksUsed_L41 fu (s_Rused g (512, f1)) (nI k + 1) = _
      rw [nI_1]
      exact b1
    · have hI : (pIv (rrow g k)).1 = w ∧ (pIv (rrow g k)).2 = 1 + bod l := by
        unfold pIv
        rw [q6, q8, nI_clamp (by omega), nI_clamp (by omega)]
        exact ⟨rfl, rfl⟩
      rw [b2 r, a2 r]
      constructor
      · rintro ⟨⟨z1, z2⟩, z3⟩
        refine ⟨z1, fun j j1 j2 => ?_⟩
        by_cases hj : j = k
        · rw [hj, hI.1, hI.2]
          intro q
          exact z2 ⟨by omega, by omega⟩
        · exact z3 j (by omega) j2
      · rintro ⟨z1, z2⟩
        refine ⟨⟨z1, fun q => ?_⟩, fun j j1 j2 => z2 j (by omega) j2⟩
        have := z2 k (by omega) (by omega)
        rw [hI.1, hI.2] at this
        exact this ⟨by omega, by omega⟩
theorem R_u102 {g : St_Ref} (kk : St_Ref → Int32 → Option St_Ref) {k c w : Nat} (hk : k < 270) (l1 : (g_RmCount g).1 = 270) (l2 : (g_RmRow g).1 = 270) (e1 : (g_RmCount g).2 k = nI c) (e2 : (g_RmRow g).2 k = nI w) (hc : c ≤ 12) (hw : w + 1 + ent c ≤ 512) : ∀ (d fuel i : Nat) (f : Nat → Int32), i + d = ent c + 1 → d < fuel → ∃ f', m_RRef_marksUsed_L102 kk fuel (s_Rused g (512, f)) (nI k) (nI i) = kk (s_Rused g (512, f')) (nI k) ∧ ∀ r, f' r = 0 ↔ f r = 0 ∧ ¬ (w + i ≤ r ∧ r < w + 1 + ent c) := by
  have c0 : (nI k).toNatClampNeg = k := nI_clamp (by omega)
  have i0 : ∀ M, M = 270 → ¬ (nI k < 0 ∨ M ≤ k) := fun M hM => by
    have := nI_in (c := k) (N := 270) hk (by omega)
    rw [c0] at this
    rw [hM]; exact this
  intro d
  induction d with
  | zero =>
    intro fuel i f hi hf
    obtain ⟨fu, rfl, -⟩ := fu1 hf
    refine ⟨f, ?_, fun r => ⟨fun e => ⟨e, by omega⟩, fun e => e.1⟩⟩
    rw [m_RRef_marksUsed_L102]
    simp only [qR_mRow, qR_mCount]
    rw [c0, e1, e2]
    refine Eq.trans (if_neg (i0 _ l2)) ?_
    refine Eq.trans (if_neg (nI_m1 (by omega))) ?_
    refine Eq.trans (if_neg (i0 _ l1)) ?_
    refine Eq.trans (bs (R_entries (by omega))) ?_
    exact if_pos (nI_lt (by omega) (by omega))
  | succ d ih =>
    intro fuel i f hi hf
    obtain ⟨fu, rfl, hf'⟩ := fu1 hf
    obtain ⟨f', a1, a2⟩ := ih fu (i + 1) (upd f (w + i) 1) (by omega) (by omega)
    refine ⟨f', ?_, fun r => ?_⟩
    · rw [m_RRef_marksUsed_L102]
      simp only [qR_mRow, qR_mCount, qR_used, sr_used]
      rw [c0, e1, e2, nI_add]
      refine Eq.trans (if_neg (i0 _ l2)) ?_
      refine Eq.trans (if_neg (nI_m1 (by omega))) ?_
      refine Eq.trans (if_neg (i0 _ l1)) ?_
      refine Eq.trans (bs (R_entries (by omega))) ?_
      refine Eq.trans (if_neg (nI_nlt (by omega) (by omega))) ?_
      refine Eq.trans (if_neg (i0 _ l2)) ?_
      refine Eq.trans (if_neg (nI_in (show w + i < 512 by omega) (by omega))) ?_
      rw [nb1, nI_clamp (show w + i < 2 ^ 31 by omega), nI_1]
      exact a1
    · rw [a2 r, upd1]
      constructor
      · rintro ⟨⟨q1, q2⟩, q3⟩
        exact ⟨q1, fun q => q3 ⟨by omega, q.2⟩⟩
      · rintro ⟨q1, q2⟩
        exact ⟨⟨q1, fun q => q2 ⟨by omega, by omega⟩⟩, fun q => q2 ⟨by omega, q.2⟩⟩
theorem R_u92 {g : St_Ref} {n M : Nat} (h : RI n g) (hp : g_Rmarks g = nI M) (hP : M ≤ 270) (hfit : ∀ k, k < M → FitK n (qrow g k) ∨ FitM (qrow g k)) (hn : n ≤ 512) : ∀ (d fuel k : Nat) (f : Nat → Int32), k + d = M → d < fuel → ∃ f', m_RRef_marksUsed_L92 fuel (s_Rused g (512, f)) (nI k) = some (s_Rused g (512, f')) ∧ ∀ r, f' r = 0 ↔ f r = 0 ∧ ∀ j, k ≤ j → j < M → FitK n (qrow g j) → ¬ ((mIv (qrow g j)).1 ≤ r ∧ r < (mIv (qrow g j)).1 + (mIv (qrow g j)).2) := by
  intro d
  induction d with
  | zero =>
    intro fuel k f hk hf
    obtain ⟨fu, rfl, -⟩ := fu1 hf
    refine ⟨f, ?_, fun r => ⟨fun e => ⟨e, fun j h1 h2 => absurd h2 (by omega)⟩, fun e => e.1⟩⟩
    rw [m_RRef_marksUsed_L92]
    simp only [qR_marks]
    rw [hp]
    exact if_pos (nI_le (by omega) (by omega))
  | succ d ih =>
    intro fuel k f hk hf
    obtain ⟨fu, rfl, hf'⟩ := fu1 hf
    have c0 : (nI k).toNatClampNeg = k := nI_clamp (by omega)
    rcases hfit k (by omega) with hK | hM
    · obtain ⟨a, c, w, q1, q2, q3, q4, q5, q6, q7, q8, q9⟩ := id hK
      have e1 : (g_RmCount g).2 k = nI c := q4
      have e2 : (g_RmRow g).2 k = nI w := q7
      obtain ⟨f1, a1, a2⟩ := R_u102 (g := g) (fun (g11 : St_Ref) (v1_12 : Int32) => m_RRef_marksUsed_L92 fu g11 (v1_12 + 1)) (k := k) (by omega) (ri_mCount h) (ri_mRow h) e1 e2 q6 (by omega) (ent c + 1) FU 0 f (by omega) (FU_lt (by unfold ent; omega))
      obtain ⟨f', b1, b2⟩ := ih fu (k + 1) f1 (by omega) (by omega)
      refine ⟨f', ?_, fun r => ?_⟩
      · rw [m_RRef_marksUsed_L92]
        simp only [qR_marks]
        rw [hp]
        refine Eq.trans (if_neg (nI_ge (by omega) (by omega))) ?_
        refine Eq.trans a1 ?_
        show m_RRef_marksUsed_L92 fu (s_Rused g (512, f1)) (nI k + 1) = _
        rw [nI_1]
        exact b1
      · have hI : (mIv (qrow g k)).1 = w ∧ (mIv (qrow g k)).2 = 1 + ent c := by
          unfold mIv
          rw [q4, q7, nI_clamp (by omega), nI_clamp (by omega)]
          exact ⟨rfl, rfl⟩
        rw [b2 r, a2 r]
        constructor
        · rintro ⟨⟨z1, z2⟩, z3⟩
          refine ⟨z1, fun j j1 j2 j3 => ?_⟩
          by_cases hj : j = k
          · rw [hj, hI.1, hI.2]
            intro q
            exact z2 ⟨by omega, by omega⟩
          · exact z3 j (by omega) j2 j3
        · rintro ⟨z1, z2⟩
          refine ⟨⟨z1, fun q => ?_⟩, fun j j1 j2 j3 => z2 j (by omega) j2 j3⟩
          have := z2 k (by omega) (by omega) hK
          rw [hI.1, hI.2] at this
          exact this ⟨by omega, by omega⟩
    · obtain ⟨a, c, q1, q2, q3, q4, q5, q6, q7, q8⟩ := id hM
      have e2 : (g_RmRow g).2 k = (-1) := q7
      obtain ⟨f', b1, b2⟩ := ih fu (k + 1) f (by omega) (by omega)
      refine ⟨f', ?_, fun r => ?_⟩
      · rw [m_RRef_marksUsed_L92]
        simp only [qR_marks]
        rw [hp]
        refine Eq.trans (if_neg (nI_ge (by omega) (by omega))) ?_
        obtain ⟨fv, hfv, -⟩ := fu1 (k := 1) (fuel := FU) (FU_lt (by omega))
        rw [hfv, m_RRef_marksUsed_L102]
        simp only [qR_mRow]
        rw [c0, e2]
        refine Eq.trans (if_neg (show ¬ (nI k < 0 ∨ (g_RmRow g).1 ≤ k) by
          have := nI_in (c := k) (N := 270) (by omega) (by omega)
          rw [c0] at this
          rw [show (g_RmRow g).1 = 270 from ri_mRow h]; exact this)) ?_
        refine Eq.trans (if_pos rfl) ?_
        show m_RRef_marksUsed_L92 fu (s_Rused g (512, f)) (nI k + 1) = _
        rw [nI_1]
        exact b1
      · rw [b2 r]
        constructor
        · rintro ⟨z1, z2⟩
          refine ⟨z1, fun j j1 j2 j3 => ?_⟩
          by_cases hj : j = k
          · rw [hj] at j3
            obtain ⟨_, _, w, _, _, _, _, _, _, p7, _, p9⟩ := j3
            rw [q7] at p7
            exact absurd p7 (m1_nI (by omega))
          · exact z2 j (by omega) j2 j3
        · rintro ⟨z1, z2⟩
          exact ⟨z1, fun j j1 j2 j3 => z2 j (by omega) j2 j3⟩
theorem R_u2 {g : St_Ref} {n : Nat} (hr : g_Rrows g = nI n) (hn : n ≤ 512) : ∀ (d fuel k : Nat) (f : Nat → Int32), k + d = 512 → d < fuel → (∀ r, r < k → (f r = 0 ↔ 2 ≤ r ∧ r < n)) → ∃ f', m_RRef_marksUsed_L2 fuel (s_Rused g (512, f)) (nI k) = m_RRef_marksUsed_L41 FU (s_Rused g (512, f')) 0 ∧ ∀ r, r < 512 → (f' r = 0 ↔ 2 ≤ r ∧ r < n) := by
  intro d
  induction d with
  | zero =>
    intro fuel k f hk hf h0
    obtain ⟨fu, rfl, -⟩ := fu1 hf
    refine ⟨f, ?_, fun r hr => h0 r (by omega)⟩
    rw [m_RRef_marksUsed_L2, n512]
    exact if_pos (nI_le (by omega) (by omega))
  | succ d ih =>
    intro fuel k f hk hf h0
    obtain ⟨fu, rfl, hf'⟩ := fu1 hf
    have c0 : (nI k).toNatClampNeg = k := nI_clamp (by omega)
    have i0 : ¬ (nI k < 0 ∨ 512 ≤ k) := by
      have := nI_in (c := k) (N := 512) (by omega) (by omega)
      rw [c0] at this
      exact this
    have step : ∀ v : Int32, (v = 0 ↔ 2 ≤ k ∧ k < n) → ∃ f', m_RRef_marksUsed_L2 fu (s_Rused g (512, upd f k v)) (nI (k + 1)) = m_RRef_marksUsed_L41 FU (s_Rused g (512, f')) 0 ∧ ∀ r, r < 512 → (f' r = 0 ↔ 2 ≤ r ∧ r < n) := fun v hv => ih fu (k + 1) (upd f k v) (by omega) (by omega) (fun r hr => by
      unfold upd
      by_cases hrk : r = k
      · rw [if_pos hrk, hrk]; exact hv
      · rw [if_neg hrk]; exact h0 r (by omega))
    by_cases h2 : k < 2
    · obtain ⟨f', a1, a2⟩ := step 1 ⟨fun e => absurd e (by decide), fun e => absurd e.1 (by omega)⟩
      refine ⟨f', ?_, a2⟩
      rw [m_RRef_marksUsed_L2]
      simp only [qR_rows, qR_used, sr_used]
      rw [c0, n512, n2, nb1, nI_1]
      refine Eq.trans (if_neg (nI_ge (by omega) (by omega))) ?_
      refine Eq.trans (if_pos (nI_lt h2 (by omega))) ?_
      refine Eq.trans (if_neg i0) ?_
      exact a1
    · by_cases h3 : k < n
      · obtain ⟨f', a1, a2⟩ := step 0 ⟨fun e => ⟨by omega, h3⟩, fun e => rfl⟩
        refine ⟨f', ?_, a2⟩
        rw [m_RRef_marksUsed_L2]
        simp only [qR_rows, qR_used, sr_used]
        rw [c0, n512, n2, nb0, nI_1, hr]
        refine Eq.trans (if_neg (nI_ge (by omega) (by omega))) ?_
        refine Eq.trans (if_neg (nI_nlt (by omega) (by omega))) ?_
        refine Eq.trans (if_pos (nI_lt h3 (by omega))) ?_
        refine Eq.trans (if_neg i0) ?_
        exact a1
      · obtain ⟨f', a1, a2⟩ := step 1 ⟨fun e => absurd e (by decide), fun e => absurd e.2 (by omega)⟩
        refine ⟨f', ?_, a2⟩
        rw [m_RRef_marksUsed_L2]
        simp only [qR_rows, qR_used, sr_used]
        rw [c0, n512, n2, nb1, nI_1, hr]
        refine Eq.trans (if_neg (nI_ge (by omega) (by omega))) ?_
        refine Eq.trans (if_neg (nI_nlt (by omega) (by omega))) ?_
        refine Eq.trans (if_neg (nI_nlt (by omega) (by omega))) ?_
        refine Eq.trans (if_neg i0) ?_
        exact a1
/-- what is used: all but the rows that no PART and no kept MARK has -/
theorem R_marksUsed {g : St_Ref} {n P M : Nat} (h : RI n g) (hn : n ≤ 512) (hp : g_Rparts g = nI P) (hP : P ≤ 520) (hfP : ∀ k, k < P → FitP n (rrow g k)) (hm : g_Rmarks g = nI M) (hM : M ≤ 270) (hfM : ∀ k, k < M → FitK n (qrow g k) ∨ FitM (qrow g k)) : ∃ f, m_RRef_marksUsed g = some (s_Rused g (512, f)) ∧ ∀ r, r < 512 → (f r = 0 ↔ (2 ≤ r ∧ r < n) ∧ (∀ j, j < P → ¬ ((pIv (rrow g j)).1 ≤ r ∧ r < (pIv (rrow g j)).1 + (pIv (rrow g j)).2)) ∧ ∀ j, j < M → FitK n (qrow g j) → ¬ ((mIv (qrow g j)).1 ≤ r ∧ r < (mIv (qrow g j)).1 + (mIv (qrow g j)).2)) := by
  have hu : g = s_Rused g (512, (g_Rused g).2) := by
    have : (512, (g_Rused g).2) = g_Rused g := Prod.ext (ri_used h).symm rfl
    rw [this]; rfl
  obtain ⟨f1, a1, a2⟩ := R_u2 (g := g) (n := n) (ri_rows h) hn 512 FU 0 (g_Rused g).2 (by omega) (FU_lt (by omega)) (fun r hr => absurd hr (by omega))
  obtain ⟨f2, b1, b2⟩ := R_u41 h hp hP hfP hn P FU 0 f1 (by omega) (FU_lt (by omega))
  obtain ⟨f3, c1, c2⟩ := R_u92 h hm hM hfM hn M FU 0 f2 (by omega) (FU_lt (by omega))
  refine ⟨f3, ?_, fun r hr => ?_⟩
  · unfold m_RRef_marksUsed
    rw [n0]
    rw [← hu] at a1
    refine Eq.trans a1 ?_
    refine Eq.trans b1 ?_
    exact c1
  · rw [c2 r, b2 r, a2 r hr]
    constructor
    · rintro ⟨⟨z1, z2⟩, z3⟩
      exact ⟨z1, fun j hj => z2 j (by omega) hj, fun j hj => z3 j (by omega) hj⟩
    · rintro ⟨z1, z2, z3⟩
      exact ⟨⟨z1, fun j _ hj => z2 j hj⟩, fun j _ hj => z3 j hj⟩
