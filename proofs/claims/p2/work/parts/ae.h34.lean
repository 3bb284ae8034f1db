-- PARTS ARE DROPPED
theorem R_d146 {n : Nat} {r : St_Ref} {lp : List PQ} {lk lm L : List MKQ} {GP GM M nn : Nat} (hR : RI n r) (hP : PR r lp) (hM : MR r L) (hL : L.Perm (lk ++ lm)) (hA : Abs n lp lk lm GP GM) {g : St_Log} (hk : MC (n / 2) (g_kept g) lk) (hm : MC 6 (g_made g) lm) (kk : St_Ref → Int32 → Int32 → Int32 → Int32 → Option (Int32 × St_Ref)) (v3 : Int32) : ∀ (d fuel j : Nat) (o : Option Nat), j + d = lp.length → d < fuel → (∀ i, o = some i → i < lp.length ∧ nI nn < (rrow r i).1 ∧ (rrow r i).1 ≤ nI M ∧ (lk ++ lm).countP (namB (rrow r i).1) = 0) → ∃ o', m_RRef_drop_L146 kk fuel r (nI M) v3 (nI nn) (rv o) (nI j) = kk r (nI M) v3 (nI nn) (rv o') ∧ (∀ i, o' = some i → i < lp.length ∧ nI nn < (rrow r i).1 ∧ (rrow r i).1 ≤ nI M ∧ (lk ++ lm).countP (namB (rrow r i).1) = 0) ∧ (∀ i, o = some i → ∃ i', o' = some i' ∧ (rrow r i').1 ≤ (rrow r i).1) ∧ ∀ i, j ≤ i → i < lp.length → nI nn < (rrow r i).1 → (rrow r i).1 ≤ nI M → (lk ++ lm).countP (namB (rrow r i).1) = 0 → ∃ i', o' = some i' ∧ (rrow r i').1 ≤ (rrow r i).1 := by
  have hlp := hP.1.2.2
  have l1 : (g_RpNumber r).1 = 520 := ri_pNumber hR
  intro d
  induction d with
  | zero =>
    intro fuel j o hj hf ho
    obtain ⟨fu, rfl, -⟩ := fu1 hf
    refine ⟨o, ?_, ho, fun i e => ⟨i, e, Int32.le_refl _⟩, fun i h1 h2 => absurd h2 (by omega)⟩
    rw [m_RRef_drop_L146, hP.1.2.1, if_pos (nI_le (by omega) (by omega))]
  | succ d ih =>
    intro fuel j o hj hf ho
    obtain ⟨fu, rfl, hf'⟩ := fu1 hf
    have cj : (nI j).toNatClampNeg = j := nI_clamp (by omega)
    have j0 : ¬ (nI j < 0 ∨ 520 ≤ j) := by
      have := nI_in (c := j) (N := 520) (by omega) (by omega)
      rw [cj] at this
      exact this
    have wn := (w_named hR hk hm hM hL hA ((g_RpNumber r).2 j)).2
    rw [m_RRef_drop_L146, hP.1.2.1, if_neg (nI_ge (by omega) (by omega)), l1, cj, if_neg j0, nI_1]
    have skip : (¬ (nI nn < (rrow r j).1 ∧ (rrow r j).1 ≤ nI M ∧ (lk ++ lm).countP (namB (rrow r j).1) = 0)) → ∃ o', m_RRef_drop_L146 kk fu r (nI M) v3 (nI nn) (rv o) (nI (j + 1)) = kk r (nI M) v3 (nI nn) (rv o') ∧ (∀ i, o' = some i → i < lp.length ∧ nI nn < (rrow r i).1 ∧ (rrow r i).1 ≤ nI M ∧ (lk ++ lm).countP (namB (rrow r i).1) = 0) ∧ (∀ i, o = some i → ∃ i', o' = some i' ∧ (rrow r i').1 ≤ (rrow r i).1) ∧ ∀ i, j ≤ i → i < lp.length → nI nn < (rrow r i).1 → (rrow r i).1 ≤ nI M → (lk ++ lm).countP (namB (rrow r i).1) = 0 → ∃ i', o' = some i' ∧ (rrow r i').1 ≤ (rrow r i).1 := by
      intro hne
      obtain ⟨o', y1, y2, y3, y4⟩ := ih fu (j + 1) o (by omega) (by omega) ho
      refine ⟨o', y1, y2, y3, fun i i1 i2 i3 i4 i5 => ?_⟩
      by_cases hij : i = j
      · rw [hij] at i3 i4 i5
        exact absurd ⟨i3, i4, i5⟩ hne
      · exact y4 i (by omega) i2 i3 i4 i5
    by_cases z1 : (g_RpNumber r).2 j ≤ nI nn
    · rw [if_pos z1]
      exact skip (fun z => absurd z.1 (Int32.not_lt.mpr z1))
    · rw [if_neg z1, if_neg j0]
      by_cases z2 : nI M < (g_RpNumber r).2 j
      · rw [if_pos z2]
        exact skip (fun z => absurd z2 (Int32.not_lt.mpr z.2.1))
      · rw [if_neg z2, if_neg j0, bs wn]
        have hcl : (lk ++ lm).countP (namB ((g_RpNumber r).2 j)) < 2 ^ 31 := by
          have a1 := List.countP_le_length (p := namB ((g_RpNumber r).2 j)) (l := lk ++ lm)
          have a2 := hL.length_eq
          have a3 := hM.2.1
          omega
        by_cases z3 : (lk ++ lm).countP (namB ((g_RpNumber r).2 j)) = 0
        · rw [if_pos (show nI ((lk ++ lm).countP (namB ((g_RpNumber r).2 j))) = 0 by rw [z3]; rfl)]
          have good : nI nn < (rrow r j).1 ∧ (rrow r j).1 ≤ nI M ∧ (lk ++ lm).countP (namB (rrow r j).1) = 0 := ⟨Int32.not_le.mp z1, Int32.not_lt.mp z2, z3⟩
          have take : ∃ o', m_RRef_drop_L146 kk fu r (nI M) v3 (nI nn) (nI j) (nI (j + 1)) = kk r (nI M) v3 (nI nn) (rv o') ∧ (∀ i, o' = some i → i < lp.length ∧ nI nn < (rrow r i).1 ∧ (rrow r i).1 ≤ nI M ∧ (lk ++ lm).countP (namB (rrow r i).1) = 0) ∧ ∃ i', o' = some i' ∧ (rrow r i').1 ≤ (rrow r j).1 ∧ ∀ i, j + 1 ≤ i → i < lp.length → nI nn < (rrow r i).1 → (rrow r i).1 ≤ nI M → (lk ++ lm).countP (namB (rrow r i).1) = 0 → (rrow r i').1 ≤ (rrow r i).1 := by
            obtain ⟨o', y1, y2, y3, y4⟩ := ih fu (j + 1) (some j) (by omega) (by omega) (fun i e => by
              have : j = i := Option.some.inj e
              subst this
              exact ⟨by omega, good⟩)
            obtain ⟨i', e1, e2⟩ := y3 j rfl
            refine ⟨o', y1, y2, i', e1, e2, fun i i1 i2 i3 i4 i5 => ?_⟩
            obtain ⟨i2', e3, e4⟩ := y4 i i1 i2 i3 i4 i5
            rw [e1] at e3
            have : i' = i2' := Option.some.inj e3
            rw [this]; exact e4
          cases o with
          | none =>
            obtain ⟨o', y1, y2, i', y3, y4, y5⟩ := take
            refine ⟨o', ?_, y2, fun i e => (by cases e), fun i i1 i2 i3 i4 i5 => ?_⟩
            · refine Eq.trans (if_pos (show rv none = (-1) from rfl)) ?_
              exact y1
            · by_cases hij : i = j
              · rw [hij]; exact ⟨i', y3, y4⟩
              · exact ⟨i', y3, y5 i (by omega) i2 i3 i4 i5⟩
          | some i0 =>
            obtain ⟨hi1, hi2⟩ := ho i0 rfl
            have ci : (nI i0).toNatClampNeg = i0 := nI_clamp (by omega)
            have i00 : ¬ (nI i0 < 0 ∨ 520 ≤ i0) := by
              have := nI_in (c := i0) (N := 520) (by omega) (by omega)
              rw [ci] at this
              exact this
            have hne : ¬ rv (some i0) = (-1) := nI_m1 (by omega)
            rw [if_neg hne, if_neg j0, show rv (some i0) = nI i0 from rfl, ci, if_neg i00]
            by_cases z4 : (g_RpNumber r).2 i0 ≤ (g_RpNumber r).2 j
            · rw [if_pos z4]
              obtain ⟨o', y1, y2, y3, y4⟩ := ih fu (j + 1) (some i0) (by omega) (by omega) ho
              refine ⟨o', y1, y2, y3, fun i i1 i2 i3 i4 i5 => ?_⟩
              by_cases hij : i = j
              · obtain ⟨i', e1, e2⟩ := y3 i0 rfl
                rw [hij]
                exact ⟨i', e1, Int32.le_trans e2 z4⟩
              · exact y4 i (by omega) i2 i3 i4 i5
            · rw [if_neg z4]
              obtain ⟨o', y1, y2, i', y3, y4, y5⟩ := take
              refine ⟨o', y1, y2, fun i e => ?_, fun i i1 i2 i3 i4 i5 => ?_⟩
              · have : i0 = i := Option.some.inj e
                subst this
                exact ⟨i', y3, Int32.le_trans y4 (Int32.le_of_lt (Int32.not_le.mp z4))⟩
              · by_cases hij : i = j
                · rw [hij]; exact ⟨i', y3, y4⟩
                · exact ⟨i', y3, y5 i (by omega) i2 i3 i4 i5⟩
        · rw [if_neg (nI_ne0 (by omega) hcl)]
          exact skip (fun z => z3 z.2.2)
theorem Abs_dropP {n : Nat} {lp : List PQ} {q : PQ} {lk lm : List MKQ} {GP GM : Nat} (h : Abs n (q :: lp) lk lm GP GM) (hz : lm.countP (namB q.1) = 0) : Abs n lp lk lm GP GM := by
  obtain ⟨h1, h2, h3, h4, h5, h6⟩ := h
  refine ⟨fun z hz => h1 z (List.mem_cons_of_mem _ hz), h2, fun m hm => ?_, DJ_tail (a := pIv q) h4, h5, h6⟩
  obtain ⟨k1, k2, k3, k4⟩ := h3 m hm
  refine ⟨k1, k2, k3, fun v hv => ?_⟩
  obtain ⟨z, hz1, hz2⟩ := k4 v hv
  rcases List.mem_cons.mp hz1 with e | hz1
  · rw [List.countP_eq_zero] at hz
    have := hz m hm
    unfold namB at this
    rw [decide_eq_true_eq] at this
    rw [← e, hz2] at this
    exact absurd hv this
  · exact ⟨z, hz1, hz2⟩
/-- the table of PARTS in the middle: the first s stay, those from k on are still to be seen -/
def Mid (n : Nat) (x x0 : St_Parts) (P s k : Nat) : Prop := PL n x P ∧ s ≤ k ∧ k ≤ P ∧ (∀ j, k ≤ j → j < P → crow x j = crow x0 j) ∧ (∀ i j, i < j → j < s → (crow x i).1 < (crow x j).1) ∧ ∀ i j, i < s → k ≤ j → j < P → (crow x i).1 < (crow x0 j).1
def midL (x x0 : St_Parts) (P s k : Nat) : List PQ := lst (crow x) s ++ lst (fun j => crow x0 (k + j)) (P - k)
theorem mid_move {n : Nat} {x x0 : St_Parts} {P s k : Nat} (h : Mid n x x0 P s k) (hs : ∀ i j, i < j → j < P → (crow x0 i).1 < (crow x0 j).1) (hk : k < P) : ∃ x', m_Parts_move x (nI k) (nI s) = some x' ∧ Mid n x' x0 P (s + 1) (k + 1) ∧ midL x' x0 P (s + 1) (k + 1) = midL x x0 P s k := by
  obtain ⟨h1, h2, h3, h4, h5, h6⟩ := h
  have hmv := P_move h1 (a := k) (b := s) hk (by omega)
  refine ⟨_, hmv, ⟨PL_upR h1 _ _, by omega, by omega, fun j j1 j2 => ?_, fun i j i1 j1 => ?_, fun i j i1 j1 j2 => ?_⟩, ?_⟩
  · rw [crow_upR, if_neg (by omega)]
    exact h4 j (by omega) j2
  · rw [crow_upR, crow_upR]
    by_cases hj : j = s
    · rw [if_pos hj, if_neg (by omega), h4 k (Nat.le_refl _) hk]
      exact h6 i k (by omega) (Nat.le_refl _) hk
    · rw [if_neg hj, if_neg (by omega)]
      exact h5 i j i1 (by omega)
  · rw [crow_upR]
    by_cases hi : i = s
    · rw [if_pos hi, h4 k (Nat.le_refl _) hk]
      exact hs k j (by omega) j2
    · rw [if_neg hi]
      exact h6 i j (by omega) (by omega) j2
  · unfold midL
    rw [lst_succ, crow_upR, if_pos rfl, h4 k (Nat.le_refl _) hk]
    have e1 : lst (crow (upR x s (crow x k))) s = lst (crow x) s := lst_congr (fun j hj => by rw [crow_upR, if_neg (by omega)])
    have e2 : lst (fun j => crow x0 (k + j)) (P - k) = crow x0 k :: lst (fun j => crow x0 (k + 1 + j)) (P - (k + 1)) := by
      rw [show P - k = (P - (k + 1)) + 1 by omega, lst_cons]
      have : (fun j => crow x0 (k + (j + 1))) = fun j => crow x0 (k + 1 + j) := funext fun j => by rw [show k + (j + 1) = k + 1 + j by omega]
      rw [this]; rfl
    rw [e2, List.append_assoc]
    have e3 : crow x k = crow x0 k := h4 k (Nat.le_refl _) hk
    rw [e3] at e1
    rw [e1]; rfl
theorem RI_rforg {n : Nat} {r : St_Ref} (hR : RI n r) (a b : Nat) (hb : b ≤ 520) : RI n (rforg r a b) := by
  unfold rforg
  refine rs_pRow (rs_pLength (rs_pPosition (rs_pGroup (rs_pNumber (rs_parts hR ?_) ?_) ?_) ?_) ?_) ?_
  · exact ⟨b, hb, rfl⟩
  · exact ri_pNumber hR
  · exact ri_pGroup hR
  · exact ri_pPosition hR
  · exact ri_pLength hR
  · exact ri_pRow hR
theorem fr_rforg (r : St_Ref) (a b : Nat) : fMed (rforg r a b) = fMed r ∧ fTap (rforg r a b) = fTap r ∧ fMrk (rforg r a b) = fMrk r ∧ fHd (rforg r a b) = fHd r ∧ fLs (rforg r a b) = fLs r := by
  unfold rforg
  refine ⟨?_, ?_, ?_, ?_, ?_⟩
  · simp only [qf_Med]
  · simp only [qf_Tap]
  · simp only [qf_Mrk]
  · simp only [qf_Hd]
  · simp only [qf_Ls]
theorem ss_parts (g : St_Log) (a b : St_Parts) : s_parts (s_parts g a) b = s_parts g b := rfl
