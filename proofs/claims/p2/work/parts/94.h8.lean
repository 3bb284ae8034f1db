-- part
theorem Cor_fin {n : Nat} {g : St_Log} {r : St_Ref} (h : Cr0 n g r) (ht : g_Rtaped r = 0) : Cor n (s_tape g ((2000, fun _ => 0), 0)) r := by
  obtain ⟨hn, hC, hR, h1, ho⟩ := h
  refine ⟨hn, cs_tape hC kTp0, hR, ?_, ?_, ⟨0, ?_, ?_, fun j hj => absurd hj (by omega)⟩⟩
  · simp only [q_medium]; exact h1
  · simp only [q_isOpen]; exact ho
  · simp only [q_tape]; exact BB0
  · rw [ht]; exact n0
theorem isGroup_cases (p : Int32) : (m_Log_isGroup p = some 0 ∧ m_RRef_isIn p 0 7 = some 0) ∨ (m_Log_isGroup p = some 1 ∧ m_RRef_isIn p 0 7 = some 1 ∧ ∃ b : Nat, b < 8 ∧ p = nI b) := by
  unfold m_Log_isGroup m_RRef_isIn
  rcases pk_ix p (n := 8) (by omega) with h | h | ⟨b, hb, rfl⟩
  · left; exact ⟨if_pos h, if_pos h⟩
  · left
    by_cases h0 : p < 0
    · exact ⟨if_pos h0, if_pos h0⟩
    · rw [if_neg h0, if_neg h0, n8, if_pos h, show (7 : Int32) = nI (8 - 1) by decide +kernel, if_pos ((lt_pred (by omega) (by omega)).mpr h)]
      exact ⟨rfl, rfl⟩
  · right
    refine ⟨?_, ?_, b, hb, rfl⟩
    · rw [if_neg (nI_pos (by omega)), n8, if_neg (nI_ge hb (by omega))]
    · rw [if_neg (nI_pos (by omega)), show (7 : Int32) = nI 7 by decide +kernel, if_neg (nI_nlt (by omega) (by omega))]
theorem n155 : (155 : Int32) = nI 155 := by decide +kernel
theorem nMO : (1000000000 : Int32) = nI 1000000000 := by decide +kernel
theorem rv_none {o : Option Nat} (h : o = none) : rv o = (-1) := by rw [h]; rfl
theorem open_1 {n : Nat} {g : St_Log} (h : CI n g) (ho : ¬ g_isOpen g = 0) : g_isOpen g = 1 := (ci_isOpen h).resolve_left ho
theorem st_part {n : Nat} {g : St_Log} {r : St_Ref} (h : Rel n g r) (p : Int32) (pos : Int64) : ∃ a g' r', m_Log_part g p pos = some (a, g') ∧ m_RRef_part r p pos = some (a, r') ∧ Rel n g' r' := by
  obtain ⟨⟨hn, hC, hR, ht, ho, ts, hb, e1, e2⟩, hT⟩ := id h
  have hts := hb.2.2.1
  have hcl : m_Bytes_clear (g_tape g) = some ((2000, fun _ => 0), 0) := B_clear hb (by omega)
  have hsz : m_Bytes_size (g_tape g) = some (nI ts) := by unfold m_Bytes_size; rw [hb.2.1]
  unfold m_Log_part m_RRef_part
  by_cases hop : g_isOpen g = 0
  · refine ⟨-3, _, _, ?_, ?_, Rel_wipe h⟩
    · rw [if_pos hop, bs hcl]
    · rw [if_pos (by rw [← ho]; exact hop)]
  · have ho1 := open_1 hC hop
    rw [if_neg hop, if_neg (by rw [← ho]; exact hop)]
    unfold m_Log_writeTape
    rw [bs hsz]
    rcases isGroup_cases p with ⟨z1, z2⟩ | ⟨z1, z2, b, hb8, rfl⟩
    · refine ⟨-2, _, _, ?_, ?_, Rel_wipe h⟩
      · rw [bs z1, if_pos rfl, Option.bind_some, bs hcl]
      · rw [bs z2, if_pos rfl]
    · rw [bs z1, if_neg e10, bs z2, if_neg e10, n155, e1]
      by_cases h155 : ts ≤ 155
      · rw [if_pos (nI_le h155 (by omega)), if_pos (nI_le h155 (by omega))]
        obtain ⟨lp, lk, lm, L, GP, GM, hTC, hTR, hL, hA, hN, hH⟩ := hT ho1
        have hR0 : RI n (s_Rtaped r 0) := rs_taped hR ⟨0, by omega, n0⟩
        have hTR0 : TabR (s_Rtaped r 0) lp L := TabR_fr (by simp only [qf_Par]) (by simp only [qf_Mrk]) hTR
        obtain ⟨f, u1, u2⟩ := used_bits hR0 hn.2 hA hTC.2.2.2 hTR0.1 hTR0.2 hL
        have hR1 : RI n (s_Rused (s_Rtaped r 0) (512, f)) := rs_used (v := (512, f)) hR0 rfl
        have hTR1 : TabR (s_Rused (s_Rtaped r 0) (512, f)) lp L := TabR_fr (by simp only [qf_Par]) (by simp only [qf_Mrk]) hTR0
        have hrc : 1 ≤ 1 + bod ts ∧ 1 + bod ts ≤ 1000 := by unfold bod; omega
        have k1 := C_firstRun (x := g_room g) hTC.2.2.2.1 hn hrc
        have k2 := R_room (g := s_Rused (s_Rtaped r 0) (512, f)) (f := f) (by simp only [qR_used]) (by simp only [qR_rows]; exact ri_rows hR) hn hrc
        rw [runF_congr (b := f) (b' := (g_room g).2) (1 + bod ts) (n - 2) 0 2 (fun j j1 j2 => u2 j j1 (by omega))] at k2
        have e1b : (1 : Int32) + nI (bod ts) = nI (1 + bod ts) := by rw [n1, nI_add]
        have hN1 : Nums g (s_Rused (s_Rtaped r 0) (512, f)) GP GM := Nums_fr rfl rfl (by simp only [qf_Ls]) hN
        have hlast : g_RlastPart (s_Rused (s_Rtaped r 0) (512, f)) = nI GP := hN1.2.1
        rw [bs u1, bs (R_bodies (by omega)), e1b, bs k2, bs (C_rowsOfPart (by omega)), bs k1, hlast, hN.1, nMO]
        have hGP := hA.2.2.2.2.2.1
        have hRu : Rel n (s_tape g ((2000, fun _ => 0), 0)) (s_Rused (s_Rtaped r 0) (512, f)) := by
          refine Rel_fr (Rel_wipe h) ?_ (fun e => e) rfl rfl rfl rfl rfl rfl rfl rfl (by simp only [qf_Par]) (by simp only [qf_Mrk]) (by simp only [qf_Ls]) (by simp only [qf_Hd])
          refine Cor_fin ⟨hn, hC, hR1, ?_, ?_⟩ ?_
          · simp only [rtri, qR_medium, qR_cutIn, qR_written]; exact ht
          · simp only [qR_open]; exact ho
          · simp only [qR_taped]
        by_cases hGM : GP < 1000000000
        · rw [if_pos (nI_lt hGM (by omega))]
          cases hrun : runF (g_room g).2 (1 + bod ts) (n - 2) 0 2 with
          | none =>
            refine ⟨-4, _, _, ?_, ?_, hRu⟩
            · rw [if_pos (rv_none rfl), Option.bind_some, bs hcl]
            · rw [if_pos (rv_none rfl)]
          | some w =>
            obtain ⟨s1, s2, s3⟩ := runF_spec (n - 2) 0 2 w (by omega) (fun j j1 j2 => absurd j2 (by omega)) hrun
            have hrv : rv (some w) = nI w := rfl
            have hne : ¬ rv (some w) = (-1) := nI_m1 (by omega)
            have h0 : Cr0 n g (s_Rused (s_Rtaped r 0) (512, f)) := ⟨hn, hC, hR1, by simp only [rtri, qR_medium, qR_cutIn, qR_written]; exact ht, by simp only [qR_open]; exact ho⟩
            obtain ⟨g', r', c0, ct, ct2, -, hcase⟩ := w_part h0 ho1 hTC hTR1 hA hN1 hGM (fr := 0) (len := ts) (row := w) (b := b) pos hb8 h155 (by omega) (fun i hi => by simp only [qR_tape]; rw [Nat.zero_add]; exact e2 i hi) (by omega) (by omega) (fun j j1 j2 => (hTC.2.2.2.2 j (by omega) (by omega)).mp (s3 j j1 j2))
            have ctp : g_Rtaped r' = 0 := by rw [e_taped ct2]; simp only [qR_taped]
            have hcl' : m_Bytes_clear (g_tape g') = some ((2000, fun _ => 0), 0) := by rw [ct]; exact hcl
            rcases hcase with ⟨m1, m2, m3, m4, m5, -, m7, m8, m9, m10, m11, lp', m12, m13, m14, m15⟩ | ⟨m1, m2, m3⟩
            · refine ⟨nI (GP + 1), s_tape g' ((2000, fun _ => 0), 0), r', ?_, ?_, Cor_fin c0 ctp, fun _ => ⟨lp', lk, lm, L, GP + 1, GM, ?_, m14, hL, m15, ?_, ?_⟩⟩
              · rw [if_neg hne, hrv]
                have m1' : m_Log_writePart g (nI w) (nI b) pos 0 (nI ts) = some (1, g') := m1
                rw [bs m1', if_neg e10, Option.bind_some, bs hcl', m11.1]
              · rw [if_neg hne, if_neg (fun e => absurd ((nI_eq (by omega) (by omega)).mp e) (by omega)), hrv]
                have m2' : m_RRef_writePart_tape (s_Rused (s_Rtaped r 0) (512, f)) (nI b) pos 0 (nI ts) (nI w) = some (nI (GP + 1), r') := m2
                rw [bs m2']
              · exact TabC_fr rfl rfl rfl rfl m13
              · exact Nums_fr rfl rfl rfl m11
              · refine Hds_fr (g := g) (r := r) m9 m10 ?_ hH
                rw [m5]; simp only [qf_Hd]
            · refine ⟨-5, s_tape g' ((2000, fun _ => 0), 0), r', ?_, ?_, Cor_fin c0 ctp, fun e => ?_⟩
              · rw [if_neg hne, hrv]
                have m1' : m_Log_writePart g (nI w) (nI b) pos 0 (nI ts) = some (0, g') := m1
                rw [bs m1', if_pos rfl, Option.bind_some, bs hcl']
              · rw [if_neg hne, if_neg (fun e => absurd ((nI_eq (by omega) (by omega)).mp e) (by omega)), hrv]
                have m2' : m_RRef_writePart_tape (s_Rused (s_Rtaped r 0) (512, f)) (nI b) pos 0 (nI ts) (nI w) = some ((-5), r') := m2
                rw [bs m2']
              · simp only [q_isOpen] at e
                rw [m3] at e
                exact absurd e (by decide)
        · have hGe : GP = 1000000000 := by omega
          refine ⟨-4, _, _, ?_, ?_, hRu⟩
          · rw [if_neg (nI_nlt (by omega) (by omega)), Option.bind_some, bs hcl]
          · split
            · rfl
            · rw [if_pos (by rw [hGe])]
      · refine ⟨-2, _, _, ?_, ?_, Rel_wipe h⟩
        · rw [if_neg (nI_ge (by omega) (by omega)), Option.bind_some, bs hcl]
        · rw [if_neg (nI_ge (by omega) (by omega))]
