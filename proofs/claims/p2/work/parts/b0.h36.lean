-- DROP
theorem nsub_neg {a b : Nat} (hb : b < 2 ^ 31) (h : a < b) : nI a - nI b < 0 := by
  rw [Int32.lt_iff_toInt_lt, Int32.toInt_sub, nI_toInt (by omega), nI_toInt hb, show (0 : Int32).toInt = 0 from by decide, Int.bmod_eq_of_le (by omega) (by omega)]
  omega
theorem Rel_lost {n : Nat} {g g' : St_Log} {r r' : St_Ref} (hc : Cor n g r) (h : Lost n g g' r r') : Rel n g' r' := by
  obtain ⟨hn, hC, hR, ht, ho, ts, hb, e1, e2⟩ := hc
  obtain ⟨a1, a2, a3, a4, a5, a6, a7⟩ := h
  refine ⟨⟨hn, a1, a2, a3, by rw [a4, a5], ts, by rw [a6]; exact hb, by rw [e_taped a7]; exact e1, fun j hj => by rw [a6, e_tape a7]; exact e2 j hj⟩, fun e => ?_⟩
  rw [a4] at e
  exact absurd e (by decide)
theorem Rel_DI {n : Nat} {t : T3} {g g' : St_Log} {r r' : St_Ref} {lp : List PQ} {lk lm L : List MKQ} {GP GM : Nat} (hc : Cor n g r) (hD : DI n t g' r' lp lk lm L GP GM) (hK : MC (n / 2) (g_kept g') lk) (hP : PC n (g_parts g') lp) (hF : DF g g' r r') (hN : Nums g r GP GM) (hH : Hds g r) : Rel n g' r' := by
  obtain ⟨hn, hC, hR, ht, ho, ts, hb, e1, e2⟩ := hc
  obtain ⟨dC, dR, dm, dtr, dop, dro, dMM, dB, dPR, dMR, dL, dA⟩ := hD
  obtain ⟨f1, f2, f3, f4, f5, f6, f7, f8, f9⟩ := hF
  refine ⟨⟨hn, dC, dR, ?_, by rw [dop, dro], ts, by rw [f1]; exact hb, by rw [e_taped f7]; exact e1, fun j hj => by rw [f1, e_tape f7]; exact e2 j hj⟩, fun _ => ⟨lp, lk, lm, L, GP, GM, ⟨hP, hK, dMM, dB⟩, ⟨dPR, dMR⟩, dL, dA, Nums_fr f5 f6 f9 hN, Hds_fr f3 f4 f8 hH⟩⟩
  rw [dm, dtr]; rfl
theorem drop_fin {n : Nat} {t : T3} {g0 g : St_Log} {r0 r : St_Ref} {lp : List PQ} {lk lm L : List MKQ} {GP GM M : Nat} (hc : Cor n g0 r0) (hD : DI n t g r lp lk lm L GP GM) (hK : MC (n / 2) (g_kept g) lk) (hP : PC n (g_parts g) lp) (hF : DF g0 g r0 r) (hN : Nums g0 r0 GP GM) (hH : Hds g0 r0) : ∃ a g' r', ((m_Log_dropParts g (nI M)).bind fun q7 => if (g_isOpen q7.2) = 0 then (some ((-5), q7.2)) else (some (q7.1, q7.2))) = some (a, g') ∧ m_RRef_drop_L135 FU r (nI M) 0 0 1 = some (a, r') ∧ Rel n g' r' := by
  obtain ⟨hn, -⟩ := id hc
  have hPS := hP.1
  have hlen := hPS.2.2.1
  have hlen2 := hPS.2.2.2.1
  have emid : midL (g_parts g) (g_parts g) lp.length 0 0 = lp := by
    unfold midL
    rw [lst_zero, List.nil_append, Nat.sub_zero, lst_congr (g := crow (g_parts g)) (fun j _ => by rw [Nat.zero_add])]
    exact hP.2
  have hD' : DI n t g r (midL (g_parts g) (g_parts g) lp.length 0 0) lk lm L GP GM := by rw [emid]; exact hD
  have hMid : Mid n (g_parts g) (g_parts g) lp.length 0 0 := ⟨hPS.l, Nat.le_refl _, Nat.zero_le _, fun j _ _ => rfl, fun i j _ hj => absurd hj (by omega), fun i j hi => absurd hi (by omega)⟩
  have hlow : ∀ j, 0 ≤ j → j < lp.length → nI 0 < (crow (g_parts g) j).1 := by
    intro j _ hj
    obtain ⟨a, b, l, w, p1, p2, p3, -⟩ := (hD.2.2.2.2.2.2.2.2.2.2.2.1 _ (PC_mem hP hj)).1
    rw [p1]
    exact nI_lt (by omega) (by omega)
  unfold m_Log_dropParts
  rcases dp_L (M := M) hn hPS.2.2.2.2 lp.length 0 0 0 0 FU FU t g r (by omega) (FU_lt (by omega)) (FU_lt (by omega)) hMid hK hlow (fun i hi => absurd hi (by omega)) hD' with ⟨a', g', r', s1, s2, s3⟩ | ⟨a', g', r', t', lp', s1, s2, s3, s4, s5, s6⟩
  · refine ⟨-5, g', r', ?_, s2, Rel_lost hc ⟨s3.1, s3.2.1, s3.2.2.1, s3.2.2.2.1, s3.2.2.2.2.1, s3.2.2.2.2.2.1.trans hF.1, s3.2.2.2.2.2.2.trans hF.2.2.2.2.2.2.1⟩⟩
    refine Eq.trans (bs (show m_Log_dropParts_L7 FU g (nI M) 0 0 0 = _ from s1)) ?_
    exact if_pos s3.2.2.2.1
  · refine ⟨nI a', g', r', ?_, s2, Rel_DI hc s5 s3 s4 (hF.tr s6) hN hH⟩
    refine Eq.trans (bs (show m_Log_dropParts_L7 FU g (nI M) 0 0 0 = _ from s1)) ?_
    refine if_neg ?_
    show ¬ g_isOpen g' = 0
    rw [s5.2.2.2.2.1]; decide
theorem st_drop {n : Nat} {g : St_Log} {r : St_Ref} (h : Rel n g r) (p : Int32) : ∃ a g' r', m_Log_drop g p = some (a, g') ∧ m_RRef_drop r p = some (a, r') ∧ Rel n g' r' := by
  obtain ⟨hc, hT⟩ := id h
  obtain ⟨hn, hC, hR, ht, ho, hts⟩ := id hc
  unfold m_Log_drop m_RRef_drop
  by_cases hop : g_isOpen g = 0
  · have hop' : g_Ropen r = 0 := by rw [← ho]; exact hop
    exact ⟨-3, g, r, by rw [if_pos hop], by rw [if_pos hop'], h⟩
  · have ho1 := open_1 hC hop
    have hop' : ¬ g_Ropen r = 0 := by rw [← ho]; exact hop
    rw [if_neg hop, if_neg hop']
    by_cases hp0 : 0 ≤ p
    · rw [if_pos hp0, if_pos hp0]
      obtain ⟨pp, hpp, rfl⟩ := nI_of (x := p) (Int32.not_lt.mpr hp0)
      obtain ⟨lp, lk, lm, L, GP, GM, hTC, hTR, hL, hA, hN, hH⟩ := hT ho1
      have hG := hA.2.2.2.2.2.1
      obtain ⟨xk, hxk⟩ : ∃ xk, xk = g_kept g := ⟨_, rfl⟩
      have hK := hTC.2.1
      have hKs : m_Marks_size (g_kept g) = some (nI lk.length) := by unfold m_Marks_size; rw [hK.1.1.2.1]
      have hlN := hK.1.1.2.2.1
      have hLl := hTR.2.2.1
      obtain ⟨M, a1, a2⟩ := C_gP_L hG hK (fun m hm => ⟨(hA.2.1 m hm).1, (hA.2.1 m hm).2.1⟩) lk.length FU 0 0 (by omega) (FU_lt (by omega)) (by omega)
      have el : lst (fun j => mrow (g_kept g) (0 + j)) lk.length = lk := by
        rw [lst_congr (g := mrow (g_kept g)) (fun j _ => by rw [Nat.zero_add])]
        exact hK.2
      rw [el] at a2
      obtain ⟨M', b1, b2⟩ := R_d21 hn.2 hG hR hTR.2 (fun m hm => by
        rcases List.mem_append.mp (hL.mem_iff.mp hm) with z | z
        · exact ⟨Or.inl (hA.2.1 m z).1, (hA.2.1 m z).2.1⟩
        · exact ⟨Or.inr (hA.2.2.1 m z).1, (hA.2.2.1 m z).2.1⟩) (nI pp) L.length FU 0 0 (by omega) (FU_lt (by omega)) (by omega)
      have el2 : lst (fun j => qrow r (0 + j)) L.length = L := by
        rw [lst_congr (g := qrow r) (fun j _ => by rw [Nat.zero_add])]
        exact hTR.2.2.2.1
      rw [el2] at b2
      have hMM : M = M' := IsMx_un a2 b2 (fun m => by
        rw [List.mem_filter]
        constructor
        · intro hm
          refine ⟨hL.mem_iff.mpr (List.mem_append.mpr (Or.inl hm)), ?_⟩
          obtain ⟨_, _, w, _, _, _, _, _, _, p7, p8, p9⟩ := (hA.2.1 m hm).1
          unfold kpB
          rw [decide_eq_true_eq, p7]
          exact nI_m1 (by omega)
        · rintro ⟨hm, hb⟩
          rcases List.mem_append.mp (hL.mem_iff.mp hm) with z | z
          · exact z
          · obtain ⟨_, _, _, _, _, _, _, _, s7, _⟩ := (hA.2.2.1 m z).1
            unfold kpB at hb
            rw [decide_eq_true_eq] at hb
            exact absurd s7 hb)
      subst hMM
      have gp : m_Marks_greatestPart (g_kept g) = some (nI M) := a1
      rw [bs gp, bs hKs]
      have hRd : m_RRef_drop_L21 FU r (nI pp) 0 0 = m_RRef_drop_L78 FU r (nI pp) (nI M) := b1
      rw [hRd]
      have hD : DI n (rtri r) g r lp lk lm L GP GM := ⟨hC, hR, by rw [← ht]; exact g_mk3 hC, rfl, ho1, by rw [← ho]; exact ho1, hTC.2.2.1, hTC.2.2.2, hTR.1, hTR.2, hL, hA⟩
      by_cases hle : pp ≤ lk.length
      · obtain ⟨c, hcl⟩ : ∃ c, lk.length = c + pp := ⟨lk.length - pp, by omega⟩
        have ec : nI lk.length - nI pp = nI c := by rw [pk_sub hle, hcl, Nat.add_sub_cancel]
        rw [ec]
        have hD' : DI n (rtri r) g r lp (lst (fun k => mrow (g_kept g) (0 + k)) (lk.length - 0)) lm L GP GM := by rw [Nat.sub_zero, el]; exact hD
        rcases dm_L (pp := pp) (c := c) (xk := g_kept g) (len := lk.length) (lp := lp) (lm := lm) (GP := GP) (GM := GM) hn hK.1 hcl (nI M) c 0 FU FU (rtri r) g r L (by omega) (FU_lt (by omega)) (FU_lt (by omega)) rfl hTC.1 hD' with ⟨g', r', s1, s2, s3⟩ | ⟨g', r', t', L', s1, s2, s3, s4, s5, s6⟩
        · refine ⟨-5, g', r', ?_, s2, Rel_lost hc s3⟩
          refine Eq.trans (bs (show m_Log_dropMarks g (nI c) = _ from s1)) ?_
          exact if_pos rfl
        · obtain ⟨a, g2, r2, z1, z2, z3⟩ := drop_fin (M := M) hc s5 s3 s4 s6 hN hH
          refine ⟨a, g2, r2, ?_, ?_, z3⟩
          · refine Eq.trans (bs (show m_Log_dropMarks g (nI c) = _ from s1)) ?_
            refine Eq.trans (if_neg e10) ?_
            exact z1
          · rw [s2]; exact z2
      · have hng := nsub_neg (a := lk.length) (b := pp) hpp (by omega)
        obtain ⟨v, hv⟩ : ∃ v, v = nI lk.length - nI pp := ⟨_, rfl⟩
        rw [← hv] at hng
        rw [← hv]
        have hrf : m_Marks_removeFirst (g_kept g) v = some (g_kept g) := by
          unfold m_Marks_removeFirst
          rw [if_neg (Int32.not_lt.mpr (Int32.le_of_lt hng))]
        have hsk : s_kept g (g_kept g) = g := rfl
        have s1 : m_Log_dropMarks g v = some (1, g) := by
          unfold m_Log_dropMarks
          obtain ⟨fu, hfu, -⟩ := fu1 (k := 0) (fuel := FU) (FU_lt (by omega))
          rw [hfu, m_Log_dropMarks_L2, if_pos (Int32.le_of_lt hng), bs hrf, ho1, if_neg e11, hsk]
        have s2 : m_RRef_drop_L78 FU r (nI pp) (nI M) = m_RRef_drop_L135 FU r (nI M) 0 0 1 := by
          obtain ⟨fu, hfu, -⟩ := fu1 (k := 0) (fuel := FU) (FU_lt (by omega))
          have cnt := (R_count hR hn.2 hTR.2 hL hA).2
          have : m_RRef_drop_L78 (fu + 1) r (nI pp) (nI M) = m_RRef_drop_L135 FU r (nI M) 0 0 1 := by
            rw [m_RRef_drop_L78, bs cnt, if_pos (nI_le (by omega) hpp)]
          rw [← hfu] at this
          exact this
        obtain ⟨a, g2, r2, z1, z2, z3⟩ := drop_fin (M := M) hc hD hK hTC.1 (DF.rf g r) hN hH
        refine ⟨a, g2, r2, ?_, ?_, z3⟩
        · refine Eq.trans (bs s1) ?_
          refine Eq.trans (if_neg e10) ?_
          exact z1
        · rw [s2]; exact z2
    · rw [if_neg hp0, if_neg hp0]
      exact ⟨-2, g, r, rfl, rfl, h⟩
