theorem st_equal {n : Nat} {g : St_Log} {r : St_Ref} (h : Rel n g r) (v w : Int32) : ∃ a b g', m_Log_equal g v w = some (a, g') ∧ m_RRef_equal r v w = some b ∧ Rel n g' r := by
  obtain ⟨⟨hn, hC, hR, ht, ho, hts⟩, hT⟩ := id h
  unfold m_Log_equal m_RRef_equal
  by_cases hop : g_isOpen g = 0
  · exact ⟨-3, -3, g, by rw [if_pos hop], by rw [if_pos (by rw [← ho]; exact hop)], h⟩
  · have ho1 := open_1 hC hop
    have hop' : ¬ g_Ropen r = 0 := by rw [← ho]; exact hop
    obtain ⟨lp, lk, lm, L, GP, GM, hTC, hTR, hL, hA, hN, hH⟩ := hT ho1
    have hct := CT_of hn hC hTC hA
    have hrt := RT_of hn hR hTR hL hA
    have hl := hTR.2.2.1
    rw [if_neg hop, if_neg hop']
    have cls : ∃ a g', ((m_Log_tableOf g v).bind fun q2 => if q2 = 1 then
    ((m_Log_tableOf g w).bind fun q4 => if q4 = 1 then
      ((m_Log_isMarkWhole g v).bind fun q6 => if q6 = 0 then
        (some ((-2), g))
        else
        ((m_Log_isMarkWhole g w).bind fun q8 => if q8 = 0 then
          (some ((-2), g))
          else
          ((m_Log_drawSavepoint_savepoint g v).bind fun q10 => (m_Log_drawSavepoint_otherSavepoint q10 w).bind fun q11 => (m_Bytes_isSame (g_savepoint q11) (g_otherSavepoint q11)).bind fun q12 => if q12 = 0 then
            (some (0, q11))
            else
            (some (1, q11)))))
      else if q4 = 2 then
      ((m_Log_isMarkWhole g v).bind fun q15 => if q15 = 0 then
        (some ((-2), g))
        else
        ((m_Log_isMarkWhole g w).bind fun q17 => if q17 = 0 then
          (some ((-2), g))
          else
          ((m_Log_drawSavepoint_savepoint g v).bind fun q19 => (m_Log_drawSavepoint_otherSavepoint q19 w).bind fun q20 => (m_Bytes_isSame (g_savepoint q20) (g_otherSavepoint q20)).bind fun q21 => if q21 = 0 then
            (some (0, q20))
            else
            (some (1, q20)))))
      else some ((-1), g))
    else if q2 = 2 then
    ((m_Log_tableOf g w).bind fun q24 => if q24 = 1 then
      ((m_Log_isMarkWhole g v).bind fun q26 => if q26 = 0 then
        (some ((-2), g))
        else
        ((m_Log_isMarkWhole g w).bind fun q28 => if q28 = 0 then
          (some ((-2), g))
          else
          ((m_Log_drawSavepoint_savepoint g v).bind fun q30 => (m_Log_drawSavepoint_otherSavepoint q30 w).bind fun q31 => (m_Bytes_isSame (g_savepoint q31) (g_otherSavepoint q31)).bind fun q32 => if q32 = 0 then
            (some (0, q31))
            else
            (some (1, q31)))))
      else if q24 = 2 then
      ((m_Log_isMarkWhole g v).bind fun q35 => if q35 = 0 then
        (some ((-2), g))
        else
        ((m_Log_isMarkWhole g w).bind fun q37 => if q37 = 0 then
          (some ((-2), g))
          else
          ((m_Log_drawSavepoint_savepoint g v).bind fun q39 => (m_Log_drawSavepoint_otherSavepoint q39 w).bind fun q40 => (m_Bytes_isSame (g_savepoint q40) (g_otherSavepoint q40)).bind fun q41 => if q41 = 0 then
            (some (0, q40))
            else
            (some (1, q40)))))
      else some ((-1), g))
    else some ((-1 : Int32), g)) = some (a, g') ∧ Rel n g' r := by
      obtain ⟨a, ha, -⟩ := t_tableOf hct v
      obtain ⟨b, hb, -⟩ := t_tableOf hct w
      obtain ⟨u1, m1⟩ := t_markWhole hct v
      obtain ⟨u2, m2⟩ := t_markWhole hct w
      obtain ⟨x1, d1, d2⟩ := t_draw_savepoint hct v
      obtain ⟨x2, f1, f2⟩ := t_draw_otherSavepoint (CT_savepoint hct d2) w
      obtain ⟨s1, hs1⟩ := id d2
      obtain ⟨s2, hs2⟩ := id f2
      obtain ⟨z, hz⟩ := t_same (x := x1) (y := x2) (by rw [hs1.1]; omega) (by rw [hs2.1]; omega) hs1.2.1 hs1.2.2.1
      have hz' : m_Bytes_isSame (g_savepoint (s_otherSavepoint (s_savepoint g x1) x2)) (g_otherSavepoint (s_otherSavepoint (s_savepoint g x1) x2)) = some z := by
        simp only [q_savepoint, q_otherSavepoint]; exact hz
      have inner : ∃ a g', ((m_Log_isMarkWhole g v).bind fun q6 => if q6 = 0 then
        (some ((-2), g))
        else
        ((m_Log_isMarkWhole g w).bind fun q8 => if q8 = 0 then
          (some ((-2), g))
          else
          ((m_Log_drawSavepoint_savepoint g v).bind fun q10 => (m_Log_drawSavepoint_otherSavepoint q10 w).bind fun q11 => (m_Bytes_isSame (g_savepoint q11) (g_otherSavepoint q11)).bind fun q12 => if q12 = 0 then
            (some (0, q11))
            else
            (some ((1 : Int32), q11))))) = some (a, g') ∧ Rel n g' r := by
        rw [bs m1]
        by_cases c1 : u1 = 0
        · rw [if_pos c1]; exact ⟨_, _, rfl, h⟩
        · rw [if_neg c1, bs m2]
          by_cases c2 : u2 = 0
          · rw [if_pos c2]; exact ⟨_, _, rfl, h⟩
          · rw [if_neg c2, bs d1, bs f1, bs hz']
            have hr := Rel_oth (Rel_sav h d2) f2
            by_cases c3 : z = 0
            · rw [if_pos c3]; exact ⟨_, _, rfl, hr⟩
            · rw [if_neg c3]; exact ⟨_, _, rfl, hr⟩
      rw [bs ha]
      by_cases q1 : a = 1
      · rw [if_pos q1, bs hb]
        by_cases q2 : b = 1
        · rw [if_pos q2]; exact inner
        · rw [if_neg q2]
          by_cases q3 : b = 2
          · rw [if_pos q3]; exact inner
          · rw [if_neg q3]; exact ⟨_, _, rfl, h⟩
      · rw [if_neg q1]
        by_cases q4 : a = 2
        · rw [if_pos q4, bs hb]
          by_cases q2 : b = 1
          · rw [if_pos q2]; exact inner
          · rw [if_neg q2]
            by_cases q3 : b = 2
            · rw [if_pos q3]; exact inner
            · rw [if_neg q3]; exact ⟨_, _, rfl, h⟩
        · rw [if_neg q4]; exact ⟨_, _, rfl, h⟩
    obtain ⟨a, g', ha, hrel⟩ := cls
    have rf : ∃ b, ((m_RRef_findMark r v).bind fun q2 => (m_RRef_findMark r w).bind fun q3 => if q2 = (-1) then
    (some (-1))
    else
    (if q3 = (-1) then
      (some (-1))
      else
      ((m_RRef_isWholeMark r q2).bind fun q6 => if q6 = 0 then
        (some (-2))
        else
        ((m_RRef_isWholeMark r q3).bind fun q8 => if q8 = 0 then
          (some (-2))
          else
          (if q2 < 0 ∨ (g_RmCount r).1 ≤ (q2).toNatClampNeg then none else if q3 < 0 ∨ (g_RmCount r).1 ≤ (q3).toNatClampNeg then none else if ((g_RmCount r).2 (q2).toNatClampNeg) = ((g_RmCount r).2 (q3).toNatClampNeg) then
            (m_RRef_equal_L82 r FU q2 q3 1 0)
            else
            (m_RRef_equal_L82 r FU q2 q3 0 0)))))) = some b := by
      obtain ⟨y0, hy0⟩ := R_fm_any hR w
      rcases R_fm_mr hR hTR.2 v with e | ⟨i, hi, e⟩
      · exact ⟨-1, by rw [bs e, bs hy0, if_pos rfl]⟩
      · rcases R_fm_mr hR hTR.2 w with e2 | ⟨j, hj, e2⟩
        · exact ⟨-1, by rw [bs e, bs e2, if_neg (nI_m1 (by omega)), if_pos rfl]⟩
        · obtain ⟨c, c1, c2, hc⟩ := u_cnt hrt hi
          obtain ⟨c', c1', c2', hc'⟩ := u_cnt hrt hj
          obtain ⟨u, hu, ua, ub⟩ := u_wM hrt hi hc c2
          obtain ⟨u', hu', ua', ub'⟩ := u_wM hrt hj hc' c2'
          rw [bs e, bs e2, if_neg (nI_m1 (by omega)), if_neg (nI_m1 (by omega)), bs hu]
          by_cases z1 : u = 0
          · exact ⟨-2, by rw [if_pos z1]⟩
          · rw [if_neg z1, bs hu']
            by_cases z2 : u' = 0
            · exact ⟨-2, by rw [if_pos z2]⟩
            · rw [if_neg z2, show (g_RmCount r).1 = 270 from ri_mCount hR, if_neg (nI_in (by omega) (by omega)), if_neg (nI_in (by omega) (by omega)), nI_clamp (by omega), nI_clamp (by omega), hc, hc']
              have go : ∀ v5 : Int32, is01 v5 → (v5 = 1 → c = c') → ∃ b, m_RRef_equal_L82 r FU (nI i) (nI j) v5 0 = some b := fun v5 h5 h6 => u_e82 hrt (x := i) (y := j) (by omega) (by omega) hc c2 (c' := c') (ub (ua.resolve_left z1)) (ub' (ua'.resolve_left z2)) c FU 0 v5 h5 h6 (by omega) (FU_lt (by omega))
              by_cases z3 : nI c = nI c'
              · rw [if_pos z3]
                exact go 1 (Or.inr rfl) (fun _ => (nI_eq (by omega) (by omega)).mp z3)
              · rw [if_neg z3]
                exact go 0 (Or.inl rfl) (fun e => absurd e (by decide))
    obtain ⟨b, hb⟩ := rf
    exact ⟨a, b, g', ha, hb, hrel⟩
