-- PARTS ARE DROPPED, ON BOTH SIDES
theorem midL_len (x x0 : St_Parts) (P s k : Nat) : (midL x x0 P s k).length = s + (P - k) := by
  unfold midL
  rw [List.length_append, lst_len, lst_len]
theorem midL_cons {x x0 : St_Parts} {P s k : Nat} (hk : k < P) : midL x x0 P s k = lst (crow x) s ++ crow x0 k :: lst (fun j => crow x0 (k + 1 + j)) (P - (k + 1)) := by
  unfold midL
  have e2 : lst (fun j => crow x0 (k + j)) (P - k) = crow x0 k :: lst (fun j => crow x0 (k + 1 + j)) (P - (k + 1)) := by
    rw [show P - k = (P - (k + 1)) + 1 by omega, lst_cons]
    have : (fun j => crow x0 (k + (j + 1))) = fun j => crow x0 (k + 1 + j) := funext fun j => by rw [show k + (j + 1) = k + 1 + j by omega]
    rw [this]; rfl
  rw [e2]
theorem mid_drop {n : Nat} {x x0 : St_Parts} {P s k : Nat} (h : Mid n x x0 P s k) (hk : k < P) : Mid n x x0 P s (k + 1) := by
  obtain ⟨h1, h2, h3, h4, h5, h6⟩ := h
  exact ⟨h1, by omega, by omega, fun j j1 j2 => h4 j (by omega) j2, h5, fun i j i1 j1 j2 => h6 i j i1 (by omega) j2⟩
theorem mid_mem {n : Nat} {x x0 : St_Parts} {P s k : Nat} (h : Mid n x x0 P s k) (hs : ∀ i j, i < j → j < P → (crow x0 i).1 < (crow x0 j).1) (hk : k < P) (p : PQ) : (p ∈ midL x x0 P s k ∧ p.1 ≠ (crow x0 k).1) ↔ p ∈ midL x x0 P s (k + 1) := by
  obtain ⟨h1, h2, h3, h4, h5, h6⟩ := h
  rw [midL_cons hk]
  show _ ↔ p ∈ lst (crow x) s ++ lst (fun j => crow x0 (k + 1 + j)) (P - (k + 1))
  rw [List.mem_append, List.mem_append, List.mem_cons]
  constructor
  · rintro ⟨z | z | z, hne⟩
    · exact Or.inl z
    · exact absurd (congrArg (fun q : PQ => q.1) z) hne
    · exact Or.inr z
  · rintro (z | z)
    · refine ⟨Or.inl z, ?_⟩
      obtain ⟨i, hi, rfl⟩ := mem_lst.mp z
      exact Int32.ne_of_lt (h6 i k hi (Nat.le_refl _) hk)
    · refine ⟨Or.inr (Or.inr z), ?_⟩
      obtain ⟨i, hi, rfl⟩ := mem_lst.mp z
      exact (Int32.ne_of_lt (hs k (k + 1 + i) (by omega) (by omega))).symm
theorem mid_perm {x x0 : St_Parts} {P s k : Nat} (hk : k < P) : (midL x x0 P s k).Perm (crow x0 k :: midL x x0 P s (k + 1)) := by
  rw [midL_cons hk]
  exact List.perm_middle
theorem jminN {a b : Nat} (ha : a < 2 ^ 31) (hb : b < 2 ^ 31) : jmin (nI a) (nI b) = nI (min a b) := by
  unfold jmin
  by_cases h : b < a
  · rw [if_pos (nI_lt h ha), Nat.min_eq_right (by omega)]
  · rw [if_neg (nI_nlt (by omega) hb), Nat.min_eq_left (by omega)]
theorem P_shortenN {N P s : Nat} {x : St_Parts} (h : PL N x P) (hs : s ≤ P) : m_Parts_shorten x (nI s) = some (x.1, x.2.1, x.2.2.1, x.2.2.2.1, x.2.2.2.2.1, nI s) := by
  have hP := h.2.2.1
  have hN := h.2.2.2
  unfold m_Parts_shorten
  have e : jmax 0 (jmin x.2.2.2.2.2 (nI s)) = nI s := by
    rw [h.2.1, jminN (by omega) (by omega), Nat.min_eq_right hs]
    refine Eq.trans (show jmax (nI 0) (nI s) = _ from jmaxN (by omega) (by omega)) ?_
    rw [Nat.max_eq_right (by omega)]
  rw [e]
theorem PC_short {n P s : Nat} {x : St_Parts} (h : PL n x P) (hs : s ≤ P) (hl : ∀ i j, i < j → j < s → (crow x i).1 < (crow x j).1) : PC n (x.1, x.2.1, x.2.2.1, x.2.2.2.1, x.2.2.2.2.1, nI s) (lst (crow x) s) := by
  unfold PC
  rw [lst_len]
  exact ⟨⟨h.1, rfl, Nat.le_trans hs h.2.2.1, h.2.2.2, hl⟩, rfl⟩
theorem dp_L {n M P GP GM : Nat} {x0 : St_Parts} {lk lm L : List MKQ} (hn : 4 ≤ n ∧ n ≤ 512) (hs : ∀ i j, i < j → j < P → (crow x0 i).1 < (crow x0 j).1) : ∀ (d k s D nn fuel fuel' : Nat) (t : T3) (g : St_Log) (r : St_Ref), k + d = P → d < fuel → d + 1 < fuel' → Mid n (g_parts g) x0 P s k → MC (n / 2) (g_kept g) lk → (∀ j, k ≤ j → j < P → nI nn < (crow x0 j).1) → (∀ i, i < s → ¬ ((crow (g_parts g) i).1 ≤ nI M ∧ (lk ++ lm).countP (namB (crow (g_parts g) i).1) = 0)) → DI n t g r (midL (g_parts g) x0 P s k) lk lm L GP GM → (∃ a g' r', m_Log_dropParts_L7 fuel g (nI M) (nI s) (nI D) (nI k) = some (a, g') ∧ m_RRef_drop_L135 fuel' r (nI M) (nI D) (nI nn) 1 = some ((-5), r') ∧ Lost n g g' r r') ∨ (∃ a g' r' t' lp', m_Log_dropParts_L7 fuel g (nI M) (nI s) (nI D) (nI k) = some (nI a, g') ∧ m_RRef_drop_L135 fuel' r (nI M) (nI D) (nI nn) 1 = some (nI a, r') ∧ MC (n / 2) (g_kept g') lk ∧ PC n (g_parts g') lp' ∧ DI n t' g' r' lp' lk lm L GP GM ∧ DF g g' r r') := by
  intro d
  induction d with
  | zero =>
    intro k s D nn fuel fuel' t g r hd hf hf' hMid hK hlow hstay hD
    obtain ⟨fu, rfl, -⟩ := fu1 hf
    obtain ⟨fv, rfl, hfv⟩ := fu1 hf'
    obtain ⟨fw, rfl, -⟩ := fu1 (k := 0) (fuel := fv) (by omega)
    obtain ⟨hC, hR, hm, htr, ho, hro, hMM, hB, hPR, hMR, hL, hA⟩ := id hD
    have hkP : k = P := by omega
    have hPL := hMid.1
    have hsP : s ≤ P := by have := hMid.2.1; omega
    have hP5 : P ≤ 512 := Nat.le_trans hPL.2.2.1 hPL.2.2.2
    have emid : midL (g_parts g) x0 P s k = lst (crow (g_parts g)) s := by
      unfold midL
      rw [hkP, Nat.sub_self, lst_zero, List.append_nil]
    have hsz : m_Parts_size (g_parts g) = some (nI P) := by unfold m_Parts_size; rw [hPL.2.1]
    have hsh := P_shortenN hPL hsP
    rw [emid] at hD hPR hA hB
    obtain ⟨o', y1, y2, -, -⟩ := R_d146 (M := M) (nn := nn) hR hPR hMR hL hA hK hMM (fun (g19 : St_Ref) (v2_20 : Int32) (v3_21 : Int32) (v4_22 : Int32) (v6_23 : Int32) => if v6_23 = (-1) then
        (m_RRef_drop_L135 (fw + 1) g19 v2_20 v3_21 v4_22 0)
        else
        (if v6_23 < 0 ∨ (g_RpNumber g19).1 ≤ (v6_23).toNatClampNeg then none else if v6_23 < 0 ∨ (g_RpRow g19).1 ≤ (v6_23).toNatClampNeg then none else if v6_23 < 0 ∨ (g_RpLength g19).1 ≤ (v6_23).toNatClampNeg then none else (m_RRef_bodies ((g_RpLength g19).2 (v6_23).toNatClampNeg)).bind fun q28 => (m_RRef_takeBack g19 ((g_RpRow g19).2 (v6_23).toNatClampNeg) (1 + q28)).bind fun q29 => if q29.1 = 0 then
          (some ((-5), q29.2))
          else
          ((m_RRef_forgetPart q29.2 v6_23).bind fun q31 => m_RRef_drop_L135 (fw + 1) q31 v2_20 (v3_21 + 1) ((g_RpNumber g19).2 (v6_23).toNatClampNeg) 1))) (nI D) (lst (crow (g_parts g)) s).length FU 0 none (by omega) (FU_lt (by rw [lst_len]; omega)) (fun i e => by cases e)
    have hnone : o' = none := by
      cases o' with
      | none => rfl
      | some b =>
        obtain ⟨b1, b2, b3, b4⟩ := y2 b rfl
        obtain ⟨i, hi, ei⟩ := mem_lst.mp (PR_mem hPR b1)
        rw [← ei] at b3 b4
        exact absurd ⟨b3, b4⟩ (hstay i hi)
    right
    refine ⟨D, s_parts g ((g_parts g).1, (g_parts g).2.1, (g_parts g).2.2.1, (g_parts g).2.2.2.1, (g_parts g).2.2.2.2.1, nI s), r, t, lst (crow (g_parts g)) s, ?_, ?_, ?_, ?_, ⟨cs_parts hC ⟨_, (PC_short hPL hsP hMid.2.2.2.2.1).1.l⟩, hR, ?_, htr, ?_, hro, ?_, ?_, hPR, hMR, hL, hA⟩, ⟨?_, ?_, ?_, ?_, ?_, ?_, rfl, rfl, rfl⟩⟩
    · rw [m_Log_dropParts_L7, bs hsz, if_pos (nI_le (by omega) (by omega)), bs hsh]
    · rw [m_RRef_drop_L135, if_neg e10]
      refine Eq.trans y1 ?_
      rw [hnone]
      refine Eq.trans (if_pos (show rv none = (-1) from rfl)) ?_
      rw [m_RRef_drop_L135, if_pos rfl]
    · simp only [q_kept]; exact hK
    · simp only [q_parts]; exact PC_short hPL hsP hMid.2.2.2.2.1
    · simp only [q_medium]; exact hm
    · simp only [q_isOpen]; exact ho
    · simp only [q_made]; exact hMM
    · simp only [q_room]; exact hB
    · simp only [q_tape]
    · simp only [q_made]
    · simp only [q_owners]
    · simp only [q_serial]
    · simp only [q_greatestPart]
    · simp only [q_greatestMark]
  | succ d ih =>
    intro k s D nn fuel fuel' t g r hd hf hf' hMid hK hlow hstay hD
    obtain ⟨fu, rfl, hfu⟩ := fu1 hf
    obtain ⟨fv, rfl, hfv⟩ := fu1 hf'
    obtain ⟨hC, hR, hm, htr, ho, hro, hMM, hB, hPR, hMR, hL, hA⟩ := id hD
    have hkP : k < P := by omega
    have hPL := hMid.1
    have hP5 : P ≤ 512 := Nat.le_trans hPL.2.2.1 hPL.2.2.2
    have hsz : m_Parts_size (g_parts g) = some (nI P) := by unfold m_Parts_size; rw [hPL.2.1]
    have hck : crow (g_parts g) k = crow x0 k := hMid.2.2.2.1 k (Nat.le_refl _) hkP
    obtain ⟨q0, hq0⟩ : ∃ q0, q0 = crow x0 k := ⟨_, rfl⟩
    have hnum : m_Parts_numberAt (g_parts g) (nI k) = some q0.1 := by
      rw [P_numberAt hPL hkP, hq0, ← hck]; rfl
    have hrow : m_Parts_rowAt (g_parts g) (nI k) = some q0.2.2.2.1 := by
      rw [P_rowAt hPL hkP, hq0, ← hck]; rfl
    have hlen : m_Parts_lengthAt (g_parts g) (nI k) = some q0.2.2.1 := by
      rw [P_lengthAt hPL hkP, hq0, ← hck]; rfl
    have hin : q0 ∈ midL (g_parts g) x0 P s k := by
      rw [midL_cons hkP, hq0]
      exact List.mem_append.mpr (Or.inr List.mem_cons_self)
    have wn := (w_named hR hK hMM hMR hL hA q0.1).1
    have hcl : (lk ++ lm).countP (namB q0.1) < 2 ^ 31 := by
      have a1 := List.countP_le_length (p := namB q0.1) (l := lk ++ lm)
      have a2 := hL.length_eq
      have a3 := hMR.2.1
      omega
    by_cases hdr : q0.1 ≤ nI M ∧ (lk ++ lm).countP (namB q0.1) = 0
    · -- it goes
      obtain ⟨a0, b0, l0, w0, p1, p2, p3, p4, p5, p6, p7, p8, p9, p10⟩ := (hA.1 q0 hin).1
      obtain ⟨q, q01, g1, r1, b1, b2, hTC, hroom, hTR⟩ := tb_both hn hC hR hm htr ho (w := w0) (k := 1 + bod l0) (by omega)
      obtain ⟨o', y1, y2, -, y4⟩ := R_d146 (M := M) (nn := nn) hR hPR hMR hL hA hK hMM (fun (g19 : St_Ref) (v2_20 : Int32) (v3_21 : Int32) (v4_22 : Int32) (v6_23 : Int32) => if v6_23 = (-1) then
        (m_RRef_drop_L135 fv g19 v2_20 v3_21 v4_22 0)
        else
        (if v6_23 < 0 ∨ (g_RpNumber g19).1 ≤ (v6_23).toNatClampNeg then none else if v6_23 < 0 ∨ (g_RpRow g19).1 ≤ (v6_23).toNatClampNeg then none else if v6_23 < 0 ∨ (g_RpLength g19).1 ≤ (v6_23).toNatClampNeg then none else (m_RRef_bodies ((g_RpLength g19).2 (v6_23).toNatClampNeg)).bind fun q28 => (m_RRef_takeBack g19 ((g_RpRow g19).2 (v6_23).toNatClampNeg) (1 + q28)).bind fun q29 => if q29.1 = 0 then
          (some ((-5), q29.2))
          else
          ((m_RRef_forgetPart q29.2 v6_23).bind fun q31 => m_RRef_drop_L135 fv q31 v2_20 (v3_21 + 1) ((g_RpNumber g19).2 (v6_23).toNatClampNeg) 1))) (nI D) (midL (g_parts g) x0 P s k).length FU 0 none (by omega) (FU_lt (by rw [midL_len]; have := hMid.2.1; omega)) (fun i e => by cases e)
      obtain ⟨ib, hib, eib⟩ := (hPR.2.1 q0).mp hin
      obtain ⟨b, eb, leb⟩ := y4 ib (Nat.zero_le _) hib (by rw [eib, hq0]; exact hlow k (Nat.le_refl _) hkP) (by rw [eib]; exact hdr.1) (by rw [eib]; exact hdr.2)
      obtain ⟨c1, c2, c3, c4⟩ := y2 b eb
      rw [eib] at leb
      have hbq : rrow r b = q0 := by
        have hmem := PR_mem hPR c1
        rw [midL_cons hkP] at hmem
        rcases List.mem_append.mp hmem with z | z
        · obtain ⟨i, hi, ei⟩ := mem_lst.mp z
          rw [← ei] at c3 c4
          exact absurd ⟨c3, c4⟩ (hstay i hi)
        · rcases List.mem_cons.mp z with z | z
          · rw [hq0]; exact z
          · obtain ⟨i, hi, ei⟩ := mem_lst.mp z
            have ei' : crow x0 (k + 1 + i) = rrow r b := ei
            have := hs k (k + 1 + i) (by omega) (by omega)
            rw [ei', ← hq0] at this
            exact absurd leb (Int32.not_le.mpr this)
      have hlp5 : (midL (g_parts g) x0 P s k).length ≤ 520 := hPR.1.2.2
      have cb : (nI b).toNatClampNeg = b := nI_clamp (by omega)
      have b00 : ¬ (nI b < 0 ∨ 520 ≤ b) := by
        have := nI_in (c := b) (N := 520) (by omega) (by omega)
        rw [cb] at this
        exact this
      have er1 : (g_RpRow r).2 b = nI w0 := (congrArg (fun z : PQ => z.2.2.2.1) hbq).trans p8
      have er2 : (g_RpLength r).2 b = nI l0 := (congrArg (fun z : PQ => z.2.2.1) hbq).trans p6
      have er3 : (g_RpNumber r).2 b = nI a0 := (congrArg (fun z : PQ => z.1) hbq).trans p1
      have e1e : (1 : Int32) + nI (bod l0) = nI (1 + bod l0) := by rw [n1, nI_add]
      have runR : m_RRef_drop_L135 (fv + 1) r (nI M) (nI D) (nI nn) 1 = if q.1 = 0 then some ((-5), r1) else ((m_RRef_forgetPart r1 (nI b)).bind fun q31 => m_RRef_drop_L135 fv q31 (nI M) (nI (D + 1)) (nI a0) 1) := by
        rw [m_RRef_drop_L135, if_neg e10]
        refine Eq.trans y1 ?_
        rw [eb]
        refine Eq.trans (if_neg (show ¬ rv (some b) = (-1) from nI_m1 (by omega))) ?_
        rw [show rv (some b) = nI b from rfl, show (g_RpNumber r).1 = 520 from ri_pNumber hR, show (g_RpRow r).1 = 520 from ri_pRow hR, show (g_RpLength r).1 = 520 from ri_pLength hR, cb, if_neg b00, if_neg b00, if_neg b00, er1, er2, er3, bs (R_bodies (by omega)), e1e, bs b2, nI_1]
      have runC : m_Log_dropParts_L7 (fu + 1) g (nI M) (nI s) (nI D) (nI k) = m_Log_dropParts_L7 fu g1 (nI M) (nI s) (nI (D + 1)) (nI (k + 1)) := by
        rw [m_Log_dropParts_L7, bs hsz, if_neg (nI_ge (by omega) (by omega)), ho, if_neg e10, bs hnum, if_neg (Int32.not_lt.mpr hdr.1), bs wn, if_pos (show nI ((lk ++ lm).countP (namB q0.1)) = 0 by rw [hdr.2]; rfl), bs hrow, bs hlen, p6, p8, bs (C_rowsOfPart (by omega)), bs b1, nI_1, nI_1]
      rw [runC, runR]
      by_cases hz : q.1 = 0
      · left
        have go : g_isOpen g1 = 0 := by rw [hTC.2.2.1]; exact hz
        have hp1 : g_parts g1 = g_parts g := hTC.2.2.2.1
        obtain ⟨fw, rfl, -⟩ := fu1 (k := 0) (fuel := fu) (by omega)
        have hsP : s ≤ P := by have := hMid.2.1; omega
        have hsh := P_shortenN hPL hsP
        refine ⟨nI (D + 1), s_parts g1 ((g_parts g).1, (g_parts g).2.1, (g_parts g).2.2.1, (g_parts g).2.2.2.1, (g_parts g).2.2.2.2.1, nI s), r1, ?_, by rw [if_pos hz], cs_parts hTC.1 ⟨_, (PC_short hPL hsP hMid.2.2.2.2.1).1.l⟩, hTR.1, ?_, ?_, hTR.2.2.1 hz, ?_, hTR.2.2.2.2.1⟩
        · rw [m_Log_dropParts_L7, hp1, bs hsz, go, bs hsh]
          by_cases hcc : nI P ≤ nI (k + 1)
          · rw [if_pos hcc]
          · rw [if_neg hcc, if_pos rfl]
        · simp only [q_medium]; rw [hTC.2.1, hTR.2.1]; rfl
        · simp only [q_isOpen]; exact go
        · simp only [q_tape]; exact hTC.2.2.2.2.2.2.1
      · have h1 : q.1 = 1 := q01.resolve_left hz
        have hPR1 : PR r1 (midL (g_parts g) x0 P s k) := PR_fr hTR.2.2.2.2.2.1 hPR
        have hbq1 : rrow r1 b = q0 := by
          have e3 := hTR.2.2.2.2.2.1
          have : rrow r1 b = rrow r b := by
            unfold rrow
            rw [e_pNumber e3, e_pGroup e3, e_pPosition e3, e_pLength e3, e_pRow e3]
          rw [this]; exact hbq
        have f1 := R_forgetPart hPR1.1 c1
        have f2 := TR_forg hPR1 c1
        rw [hbq1] at f2
        have hlen2 : (midL (g_parts g) x0 P s k).length - 1 = (midL (g_parts g) x0 P s (k + 1)).length := by
          rw [midL_len, midL_len]; omega
        obtain ⟨r2, hr2⟩ : ∃ r2, r2 = rforg r1 b ((midL (g_parts g) x0 P s k).length - 1) := ⟨_, rfl⟩
        have hRI2 : RI n r2 := by rw [hr2]; exact RI_rforg hTR.1 _ _ (by omega)
        obtain ⟨v1, v2, v3, v4, v5⟩ := fr_rforg r1 b ((midL (g_parts g) x0 P s k).length - 1)
        rw [← hr2] at f1 f2 v1 v2 v3 v4 v5
        rw [hlen2] at f2
        have hPR2 : PR r2 (midL (g_parts g) x0 P s (k + 1)) := TR_congr f2 (fun p => by
          have := mid_mem hMid hs hkP p
          rw [← hq0] at this
          exact this)
        have hp := mid_perm (x := g_parts g) (x0 := x0) (P := P) (s := s) (k := k) hkP
        rw [← hq0] at hp
        have hA1 : Abs n (q0 :: midL (g_parts g) x0 P s (k + 1)) lk lm GP GM := Abs_perm hp (List.Perm.refl _) (List.Perm.refl _) hA
        have hA2 := Abs_dropP hA1 (by
          have := hdr.2
          rw [List.countP_append] at this
          omega)
        have hpI : pIv q0 = (w0, 1 + bod l0) := by
          unfold pIv
          rw [p6, p8, nI_clamp (by omega), nI_clamp (by omega)]
        have hpm : (ivs (midL (g_parts g) x0 P s k) lk).Perm ((w0, 1 + bod l0) :: ivs (midL (g_parts g) x0 P s (k + 1)) lk) := by
          have := ivs_perm hp (List.Perm.refl lk)
          refine this.trans ?_
          unfold ivs
          rw [List.map_cons, hpI]
          exact List.Perm.refl _
        have hB2 : BT n (g_room g1) (ivs (midL (g_parts g) x0 P s (k + 1)) lk) := by
          rw [hroom]
          exact BT_free (BT_perm hpm hB) (DJ_perm hpm hA.2.2.2.1)
        have hpp : g_parts g1 = g_parts g := hTC.2.2.2.1
        have hD2 : DI n q.2 g1 r2 (midL (g_parts g1) x0 P s (k + 1)) lk lm L GP GM := by
          rw [hpp]
          refine ⟨hTC.1, hRI2, hTC.2.1, ?_, ?_, ?_, ?_, hB2, hPR2, MR_fr (v3.trans hTR.2.2.2.2.2.2.1) hMR, hL, hA2⟩
          · rw [rtri_fr v1]; exact hTR.2.1
          · rw [hTC.2.2.1]; exact h1
          · rw [e_open v1, hTR.2.2.2.1 h1]; exact hro
          · rw [hTC.2.2.2.2.2.1]; exact hMM
        have hDF1 : DF g g1 r r2 := (DF_tb hTC hTR).tr ⟨rfl, rfl, rfl, rfl, rfl, rfl, v2, v4, v5⟩
        rw [if_neg hz, bs f1]
        rcases ih (k + 1) s (D + 1) a0 fu fv q.2 g1 r2 (by omega) (by omega) (by omega) (by rw [hpp]; exact mid_drop hMid hkP) (by rw [hTC.2.2.2.2.1]; exact hK) (fun j j1 j2 => by
          have := hs k j (by omega) j2
          rw [← hq0, p1] at this
          exact this) (by rw [hpp]; exact hstay) hD2 with ⟨a', g', r', s1, s2, s3⟩ | ⟨a', g', r', t', lp', s1, s2, s3, s4, s5, s6⟩
        · left
          refine ⟨a', g', r', s1, s2, s3.1, s3.2.1, s3.2.2.1, s3.2.2.2.1, s3.2.2.2.2.1, s3.2.2.2.2.2.1.trans hDF1.1, s3.2.2.2.2.2.2.trans hDF1.2.2.2.2.2.2.1⟩
        · right
          exact ⟨a', g', r', t', lp', s1, s2, s3, s4, s5, hDF1.tr s6⟩
    · -- it stays
      obtain ⟨x', m1, m2, m3⟩ := mid_move hMid hs hkP
      have hmrow : ∀ i, i < s + 1 → ¬ ((crow x' i).1 ≤ nI M ∧ (lk ++ lm).countP (namB (crow x' i).1) = 0) := by
        have hmv := P_move hPL (a := k) (b := s) hkP (by have := hMid.2.1; omega)
        rw [hmv] at m1
        have e := Option.some.inj m1
        intro i hi
        rw [← e, crow_upR]
        by_cases his : i = s
        · rw [if_pos his, hck, ← hq0]; exact hdr
        · rw [if_neg his]; exact hstay i (by omega)
      have runC : m_Log_dropParts_L7 (fu + 1) g (nI M) (nI s) (nI D) (nI k) = m_Log_dropParts_L7 fu (s_parts g x') (nI M) (nI (s + 1)) (nI D) (nI (k + 1)) := by
        rw [m_Log_dropParts_L7, bs hsz, if_neg (nI_ge (by omega) (by omega)), ho, if_neg e10, bs hnum]
        by_cases z1 : nI M < q0.1
        · rw [if_pos z1, bs m1, nI_1, nI_1]
        · rw [if_neg z1, bs wn, if_neg (nI_ne0 (by have : (lk ++ lm).countP (namB q0.1) ≠ 0 := fun z => hdr ⟨Int32.not_lt.mp z1, z⟩; omega) hcl), bs m1, nI_1, nI_1]
      have hpx : g_parts (s_parts g x') = x' := by simp only [q_parts]
      have hD2 : DI n t (s_parts g x') r (midL (g_parts (s_parts g x')) x0 P (s + 1) (k + 1)) lk lm L GP GM := by
        rw [hpx, m3]
        refine ⟨cs_parts hC ⟨_, m2.1⟩, hR, ?_, htr, ?_, hro, ?_, ?_, hPR, hMR, hL, hA⟩
        · simp only [q_medium]; exact hm
        · simp only [q_isOpen]; exact ho
        · simp only [q_made]; exact hMM
        · simp only [q_room]; exact hB
      have hDF1 : DF g (s_parts g x') r r := ⟨by simp only [q_tape], by simp only [q_made], by simp only [q_owners], by simp only [q_serial], by simp only [q_greatestPart], by simp only [q_greatestMark], rfl, rfl, rfl⟩
      rw [runC]
      rcases ih (k + 1) (s + 1) D nn fu (fv + 1) t (s_parts g x') r (by omega) (by omega) (by omega) (by rw [hpx]; exact m2) (by simp only [q_kept]; exact hK) (fun j j1 j2 => hlow j (by omega) j2) (by rw [hpx]; exact hmrow) hD2 with ⟨a', g', r', s1, s2, s3⟩ | ⟨a', g', r', t', lp', s1, s2, s3, s4, s5, s6⟩
      · left
        refine ⟨a', g', r', s1, s2, s3.1, s3.2.1, s3.2.2.1, s3.2.2.2.1, s3.2.2.2.2.1, s3.2.2.2.2.2.1.trans hDF1.1, s3.2.2.2.2.2.2⟩
      · right
        exact ⟨a', g', r', t', lp', s1, s2, s3, s4, s5, hDF1.tr s6⟩
