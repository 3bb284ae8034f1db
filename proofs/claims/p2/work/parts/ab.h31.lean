theorem ln_mark {n w c : Nat} {t : T3} {g : St_Log} {r : St_Ref} {lp : List PQ} {lk L : List MKQ} {GP GM : Nat} (hn : 4 ≤ n ∧ n ≤ 512) (h : Sc n w t g r lp lk L GP GM) (hw : 2 ≤ w ∧ w < n) (hc : t.1 (32 * w + 1) &&& 255 = nI c) (hmT : mT t.1 n w c) : ∃ g' r' lk' L' GP' GM', m_Log_learnMark g (nI w) = some (nI (1 + ent c), g') ∧ m_RRef_learnMark r (nI w) = some r' ∧ Sc n (w + (1 + ent c)) t g' r' lp lk' L' GP' GM' ∧ ScF g g' r r' := by
  obtain ⟨hC, hR, hm, htr, hTC, hTR, hL, hA, hN, hiv⟩ := id h
  obtain ⟨hc1, hc12, hc4, hc5, hfit, hris⟩ := hmT
  obtain ⟨a, ha1, ha2, ha3, ha4⟩ := numOk hc4 hc5
  obtain ⟨hsp, hinc⟩ := ris_spec t.1 w c 0 0 (by decide) hris
  have hk := mk3_ok hn.1 hn.2 t
  have l1 : (g_Rmedium r).1 = 16384 := (ri_medium hR).1
  have hf : (g_Rmedium r).2 = t.1 := by rw [← htr]; rfl
  have he12 : ent c ≤ 6 := by unfold ent; omega
  have hroom := Abs_room hA hn.2
  have a5 : m_Medium_number (mk3 n t) (nI w) 4 4 = some (lN a) := by rw [← ha3]; exact c_number hk hw.2 (i := 4) (K := 4) (by omega)
  have a1 : m_Medium_at (mk3 n t) (nI w) 1 = some (nI c) := by rw [← hc]; exact c_at hk (row := w) (i := 1) (by omega) (by omega)
  have a8 : m_Medium_number (mk3 n t) (nI w) 8 8 = some (numF t.1 (32 * w + 8) 8) := c_number hk hw.2 (i := 8) (K := 8) (by omega)
  have nb : ∀ x K : Nat, x + K ≤ 32 → m_RRef_number (g_Rmedium r) (32 * nI w + nI x) (nI K) = some (numF t.1 (32 * w + x) K) := by
    intro x K hx
    rw [n32, pk_mul, nI_add, ← hf]
    exact r_number (by rw [l1]; omega) (by rw [l1]; omega) (by omega)
  have b5 : m_RRef_number (g_Rmedium r) (32 * nI w + 4) 4 = some (lN a) := by rw [← ha3]; exact nb 4 4 (by omega)
  have b8 : m_RRef_number (g_Rmedium r) (32 * nI w + 8) 8 = some (numF t.1 (32 * w + 8) 8) := nb 8 8 (by omega)
  have ea : (32 : Int32) * nI w + 1 = nI (32 * w + 1) := by rw [n32, pk_mul, nI_1]
  have ca : (nI (32 * w + 1)).toNatClampNeg = 32 * w + 1 := nI_clamp (by omega)
  have ia : ¬ (nI (32 * w + 1) < 0 ∨ 16384 ≤ 32 * w + 1) := by
    have := nI_in (c := 32 * w + 1) (N := 16384) (by omega) (by omega)
    rw [ca] at this
    exact this
  have hLl : L.length = lk.length := hL.length_eq
  have hLa : L.Perm (lk ++ []) := by rw [List.append_nil]; exact hL
  unfold m_Log_learnMark m_RRef_learnMark
  rw [hm, bs a5, bs a1, bs b5, lN_i]
  rcases F3 hR hTC.2.1 hTC.2.2.1 hTR.2 hLa hA.2.2.2.2.1 (nI a) with ⟨z1, z2, z3, z4⟩ | ⟨i, j, hi, hj, z1, z2, z3, -, -, -⟩ | ⟨i, j, hi, hj, -⟩
  · rw [bs z1, if_pos rfl, bs z3, if_pos rfl, bs a8, bs b8, ea, ca, l1, hf, hc]
    have hGP := hA.2.2.2.2.2.1
    have hGM := hA.2.2.2.2.2.2
    have he : ∀ k, k < c → eN t.1 w k ≤ 1000000000 ∧ numF t.1 (entA w k) 4 = lN (eN t.1 w k) := fun k hk2 => by
      obtain ⟨q1, q2, q3, q4⟩ := hsp k (by omega) (by omega)
      exact ⟨q2, q3⟩
    obtain ⟨D, hD⟩ : ∃ D, D = numF t.1 (32 * w + 8) 8 := ⟨_, rfl⟩
    rw [← hD]
    obtain ⟨m, hmd⟩ : ∃ m : MKQ, m = (nI a, nI c, nI w, D, lst (fun k => nI (eN t.1 w k)) c) := ⟨_, rfl⟩
    have hmF : FitK n m := by rw [hmd]; exact ⟨a, c, w, rfl, ha1, ha2, rfl, hc1, hc12, rfl, hw.1, hfit⟩
    have hmI : mIv m = (w, 1 + ent c) := by
      rw [hmd]
      unfold mIv
      show ((nI w).toNatClampNeg, 1 + ent (nI c).toNatClampNeg) = _
      rw [nI_clamp (by omega), nI_clamp (by omega)]
    have hmx := mxE_le (e := eN t.1 w) hGP c (fun k hk2 => (he k hk2).1)
    have hmg := mxE_ge (eN t.1 w) GP c
    have hmR : Ris (mxE (eN t.1 w) GP c) m := by
      rw [hmd]
      refine ⟨lst (eN t.1 w) c, ?_, ?_, ?_, ?_, ?_, ?_⟩
      · unfold lst
        rw [List.map_map]
        rfl
      · rw [lst_len]
      · rw [lst_len]; exact hc1
      · rw [lst_len]; exact hc12
      · refine lst_pw c (fun i j hij hj => ?_)
        have := hinc i j (by omega) hij (by omega)
        rw [(he i (by omega)).2, (he j hj).2, pk_lLT (by have := (he i (by omega)).1; omega) (by have := (he j hj).1; omega)] at this
        exact this
      · intro x hx
        obtain ⟨k, hk2, rfl⟩ := mem_lst.mp hx
        exact ⟨(hsp k (by omega) (by omega)).1, hmg.2 k hk2⟩
    have hfree : ∀ j, w ≤ j → cov (ivs lp lk) j = 0 := fun j hj => cov_zero (fun i hi hcc => by have := hiv i hi; omega)
    have hfr : ∀ z, z ∈ lk → z.1 ≠ nI a := fun z hz => z4 z (hL.mem_iff.mpr hz)
    have hA' : Abs n lp (m :: lk) [] (mxE (eN t.1 w) GP c) (max GM a) := Abs_addK hA hmg.1 hmx (by omega) (by omega) hmF hmR ⟨a, ha1, by omega, by rw [hmd]⟩ (by rw [hmd]; exact hfr) hn.2 (fun j j1 _ => hfree j (by rw [hmI] at j1; exact j1))
    have hroom' := Abs_room hA' hn.2
    rw [List.length_cons] at hroom'
    obtain ⟨x', p, c1, c2, c3, c4, c5⟩ := MC_add hTC.2.1 (by omega) (nI a) (nI w) D hc12 hfr
    obtain ⟨lk', d1, d2⟩ := c5 (fun k => nI (eN t.1 w k))
    rw [← hmd] at d2
    have hT2 := C_take (x := g_room g) (n := n) (a := w) (c := 1 + ent c) hTC.2.2.2.1 hn.2 (by omega)
    have runC := C_lm_L (n := n) (g := g) (t := t) hm hn (x := x') c3.1 (p := p) (c := c) (w := w) (a := a) (GP := GP) (GM := GM) c2 c4 hc12 hfit he hGP hN.2.2.1 hGM ha2 hT2 c FU 0 (by omega) (FU_lt (by omega))
    rw [mfl_0] at runC
    have hg0 : s_greatestPart (s_kept g x') (nI (mxE (eN t.1 w) GP 0)) = s_kept g x' := by
      have : nI (mxE (eN t.1 w) GP 0) = g_greatestPart (s_kept g x') := by simp only [q_greatestPart]; exact hN.1.symm
      rw [this]; rfl
    rw [hg0] at runC
    -- the reference
    have hMp : g_Rmarks r = nI L.length := hTR.2.1
    have cM : (g_Rmarks r).toNatClampNeg = L.length := by rw [hMp]; exact nI_clamp (by omega)
    have i0 : ∀ K, K = 270 → ¬ (g_Rmarks r < 0 ∨ K ≤ (g_Rmarks r).toNatClampNeg) := fun K hK => by rw [hK, hMp]; exact nI_in (by omega) (by omega)
    rw [cM] at i0 ⊢
    obtain ⟨G0, hG0⟩ : ∃ G0, G0 = s_RmDigest (s_RmCount (s_RmRow (s_RmNumber r ((g_RmNumber r).1, upd (g_RmNumber r).2 L.length (nI a))) ((g_RmRow r).1, upd (g_RmRow r).2 L.length (nI w))) ((g_RmCount r).1, upd (g_RmCount r).2 L.length (nI c))) ((g_RmDigest r).1, vp_updL (g_RmDigest r).2 L.length D) := ⟨_, rfl⟩
    have hRG0 : RI n G0 := by
      rw [hG0]
      refine rs_mDigest (rs_mCount (rs_mRow (rs_mNumber hR ?_) ?_) ?_) ?_
      · exact ri_mNumber hR
      · exact ri_mRow hR
      · exact ri_mCount hR
      · exact ri_mDigest hR
    have u1 : fMed G0 = fMed r := by rw [hG0]; simp only [qf_Med]
    have u2 : fTap G0 = fTap r := by rw [hG0]; simp only [qf_Tap]
    have u3 : fPar G0 = fPar r := by rw [hG0]; simp only [qf_Par]
    have u4 : fHd G0 = fHd r := by rw [hG0]; simp only [qf_Hd]
    have u5 : fLs G0 = fLs r := by rw [hG0]; simp only [qf_Ls]
    have u6 : g_Rmarks G0 = nI L.length := by rw [hG0]; simp only [qR_marks]; exact hMp
    have u7 : g_RmNumber G0 = ((g_RmNumber r).1, upd (g_RmNumber r).2 L.length (nI a)) := by rw [hG0]; simp only [qR_mNumber]
    have u8 : g_RmRow G0 = ((g_RmRow r).1, upd (g_RmRow r).2 L.length (nI w)) := by rw [hG0]; simp only [qR_mRow]
    have u9 : g_RmCount G0 = ((g_RmCount r).1, upd (g_RmCount r).2 L.length (nI c)) := by rw [hG0]; simp only [qR_mCount]
    have u10 : g_RmDigest G0 = ((g_RmDigest r).1, vp_updL (g_RmDigest r).2 L.length D) := by rw [hG0]; simp only [qR_mDigest]
    have u11 : g_RmPart G0 = g_RmPart r := by rw [hG0]; simp only [qR_mPart]
    obtain ⟨r', y1, y2, y3, y4, y5, y6, y7, y8, y9, y10, y11, y12, y13, y14, y15⟩ := R_lm_L (n := n) (f := t.1) (M := L.length) (c := c) (w := w) (a := a) (GP := GP) (GM := GM) hn.2 (by omega) hc12 hfit he hGP hGM ha2 c FU 0 G0 hRG0 (by rw [e_medium u1]; exact hf) u6 (by rw [u9]; show upd _ _ _ _ = _; unfold upd; rw [if_pos rfl]) ((e_lastMark u5).trans hN.2.2.2) ((e_lastPart u5).trans hN.2.1) (fun j hj => absurd hj (by omega)) (by omega) (FU_lt (by omega))
    have hq : ∀ k, k ≤ L.length → qrow r' k = if k = L.length then m else qrow r k := by
      intro k hkL
      rw [hmd]
      unfold qrow
      rw [y7, y8, y9, y10, u7, u8, u9, u10]
      simp only
      unfold upd vp_updL
      by_cases hkk : k = L.length
      · simp only [if_pos hkk]
        rw [mls_lst hc12]
        refine Prod.ext rfl (Prod.ext rfl (Prod.ext rfl (Prod.ext rfl ?_)))
        refine lst_congr (fun j hj => ?_)
        show (g_RmPart r').2 (12 * k + j) = nI (eN t.1 w j)
        rw [hkk]; exact y14 j hj
      · simp only [if_neg hkk]
        refine Prod.ext rfl (Prod.ext rfl (Prod.ext rfl (Prod.ext rfl ?_)))
        refine mls_congr (fun j hj => ?_)
        obtain ⟨ck, -, hck, ek⟩ := hTR.2.2.2.2 _ (MR_mem hTR.2 (show k < L.length by omega))
        have ek' : (g_RmCount r).2 k = nI ck := ek
        rw [ek', nI_clamp (by omega)] at hj
        rw [y15 _ (by omega), u11]
    have hMR : MR r' (L ++ [m]) := by
      refine ⟨?_, ?_, ?_, fun z hz => ?_⟩
      · rw [y11, List.length_append]; rfl
      · rw [List.length_append]
        show L.length + 1 ≤ 270
        omega
      · rw [List.length_append]
        show lst (qrow r') (L.length + 1) = _
        rw [lst_succ, hq L.length (Nat.le_refl _), if_pos rfl, lst_congr (g := qrow r) (fun k hk2 => by rw [hq k (by omega), if_neg (by omega)]), hTR.2.2.2.1]
      · rcases List.mem_append.mp hz with zz | zz
        · exact hTR.2.2.2.2 z zz
        · rcases List.mem_cons.mp zz with e | zz
          · rw [e, hmd]; exact ⟨c, hc1, hc12, rfl⟩
          · cases zz
    obtain ⟨g', hg'⟩ : ∃ g', g' = s_greatestMark (s_room (s_greatestPart (s_kept g (mfl x' p (fun k => nI (eN t.1 w k)) c)) (nI (mxE (eN t.1 w) GP c))) (n, setF (g_room g).2 w (1 + ent c) 1)) (nI (max GM a)) := ⟨_, rfl⟩
    refine ⟨g', r', lk', L ++ [m], mxE (eN t.1 w) GP c, max GM a, ?_, ?_, ⟨?_, y2, ?_, ?_, ⟨?_, ?_, ?_, ?_⟩, ⟨PR_fr (y5.trans u3) hTR.1, hMR⟩, ?_, ?_, ⟨?_, y13, ?_, y12⟩, ?_⟩, ⟨?_, ?_, ?_, y4.trans u2, y6.trans u4, ?_⟩⟩
    · rw [bs c1, hg']; exact runC
    · refine Eq.trans (if_neg (i0 _ (ri_mNumber hR))) ?_
      refine Eq.trans (if_neg (i0 _ (ri_mRow hR))) ?_
      refine Eq.trans (if_neg ia) ?_
      refine Eq.trans (if_neg (i0 _ (ri_mCount hR))) ?_
      refine Eq.trans (if_neg (i0 _ (ri_mDigest hR))) ?_
      rw [← hG0]
      exact y1
    · rw [hg']
      exact cs_greatestMark (cs_room (v := (n, setF (g_room g).2 w (1 + ent c) 1)) (cs_greatestPart (cs_kept hC ⟨_, d1.1.1⟩)) (kRm_set (ci_room hC).2 (Or.inr rfl)))
    · rw [hg']; simp only [q_medium]; exact hm
    · rw [rtri_fr (y3.trans u1)]; exact htr
    · rw [hg']; simp only [q_parts]; exact hTC.1
    · rw [hg']; simp only [q_kept]; exact d1
    · rw [hg']; simp only [q_made]; exact hTC.2.2.1
    · rw [hg']; simp only [q_room]
      refine BT_perm (l := (w, 1 + ent c) :: ivs lp lk) ?_ (BT_take hTC.2.2.2 _ _)
      refine List.Perm.trans ?_ (ivs_perm (List.Perm.refl lp) d2.symm)
      unfold ivs
      rw [List.map_cons, hmI]
      exact List.perm_middle.symm
    · exact (List.perm_append_singleton _ _).trans ((List.Perm.cons _ hL).trans d2.symm)
    · exact Abs_perm (List.Perm.refl _) d2.symm (List.Perm.refl _) hA'
    · rw [hg']; simp only [q_greatestPart]
    · rw [hg']; simp only [q_greatestMark]
    · intro i hi
      have hi2 := (ivs_perm (List.Perm.refl lp) d2).mem_iff.mp hi
      unfold ivs at hi2
      rw [List.map_cons, hmI] at hi2
      rcases List.mem_cons.mp (List.perm_middle.mem_iff.mp hi2) with e | hi3
      · rw [e]; exact Nat.le_refl _
      · have := hiv i hi3
        omega
    · rw [hg']; simp only [q_tape]
    · rw [hg']; simp only [q_owners]
    · rw [hg']; simp only [q_serial]
    · exact (e_open y3).trans (e_open u1)
  · have hk2 := hTC.2.1.1.1.2.2
    have hl2 := hTR.2.2.1
    refine ⟨g, r, lk, L, GP, GM, ?_, ?_, Sc_mono h (by omega), ScF.rf g r⟩
    · rw [bs z1, if_neg (nI_m1 (by omega)), bs (C_rowsOfMark (by omega))]
    · rw [bs z3, if_neg (nI_m1 (by omega))]
  · exact absurd hi (Nat.not_lt_zero _)
-- open
theorem op_L {n : Nat} {t : T3} (hn : 4 ≤ n ∧ n ≤ 512) : ∀ (d w fuel fuel' : Nat) (g : St_Log) (r : St_Ref) (lp : List PQ) (lk L : List MKQ) (GP GM : Nat), Sc n w t g r lp lk L GP GM → 2 ≤ w → n ≤ w + d → w ≤ 1024 → d < fuel → d < fuel' → ∃ g' r' lp' lk' L' GP' GM' w', m_Log_open__L12 fuel g (nI w) = some (nI lk'.length, s_isOpen g' 1) ∧ m_RRef_open__L31 fuel' r (nI w) = some (nI lk'.length, r') ∧ Sc n w' t g' r' lp' lk' L' GP' GM' ∧ ScF g g' r r' := by
  intro d
  induction d with
  | zero =>
    intro w fuel fuel' g r lp lk L GP GM h hw hd hw2 hf hf'
    obtain ⟨fu, rfl, -⟩ := fu1 hf
    obtain ⟨fv, rfl, -⟩ := fu1 hf'
    obtain ⟨hC, hR, hm, htr, hTC, hTR, hL, hA, hN, hiv⟩ := id h
    have hrw : m_Medium_rows (g_medium g) = some (nI n) := by rw [hm]; rfl
    have hsz : m_Marks_size (g_kept g) = some (nI lk.length) := by unfold m_Marks_size; rw [hTC.2.1.1.1.2.1]
    refine ⟨g, r, lp, lk, L, GP, GM, w, ?_, ?_, h, ScF.rf g r⟩
    · rw [m_Log_open__L12, bs hrw, if_pos (nI_le (by omega) (by omega)), bs hsz]
    · rw [m_RRef_open__L31, show g_Rrows r = nI n from ri_rows hR, if_pos (nI_le (by omega) (by omega)), hTR.2.1, hL.length_eq]
  | succ d ih =>
    intro w fuel fuel' g r lp lk L GP GM h hw hd hw2 hf hf'
    obtain ⟨fu, rfl, hfu⟩ := fu1 hf
    obtain ⟨fv, rfl, hfv⟩ := fu1 hf'
    obtain ⟨hC, hR, hm, htr, hTC, hTR, hL, hA, hN, hiv⟩ := id h
    have hrw : m_Medium_rows (g_medium g) = some (nI n) := by rw [hm]; rfl
    have hsz : m_Marks_size (g_kept g) = some (nI lk.length) := by unfold m_Marks_size; rw [hTC.2.1.1.1.2.1]
    have hf0 : (g_Rmedium r).2 = t.1 := by rw [← htr]; rfl
    by_cases hwn : n ≤ w
    · refine ⟨g, r, lp, lk, L, GP, GM, w, ?_, ?_, h, ScF.rf g r⟩
      · rw [m_Log_open__L12, bs hrw, if_pos (nI_le hwn (by omega)), bs hsz]
      · rw [m_RRef_open__L31, show g_Rrows r = nI n from ri_rows hR, if_pos (nI_le hwn (by omega)), hTR.2.1, hL.length_eq]
    · obtain ⟨l, hl0, hl⟩ := num2 t.1 (32 * w + 2)
      obtain ⟨b, hb0, hb⟩ := b255 (t.1 (32 * w + 1))
      rw [m_Log_open__L12, bs hrw, if_neg (nI_ge (by omega) (by omega)), m_RRef_open__L31, show g_Rrows r = nI n from ri_rows hR, if_neg (nI_ge (by omega) (by omega))]
      rcases part_cases hm hn hR hf0 (w := w) (by omega) hl0 hl hb0 hb with ⟨pt, p1, p2⟩ | ⟨p1, p2⟩
      · have hb5 : bod l ≤ 5 := by have := pt.2.1; unfold bod; omega
        obtain ⟨g', r', lp', GP', q1, q2, q3, q4⟩ := ln_part hn h ⟨hw, by omega⟩ hl hb pt
        obtain ⟨g'', r'', lp'', lk'', L'', GP'', GM'', w'', s1, s2, s3, s4⟩ := ih (w + (1 + bod l)) fu fv g' r' lp' lk L GP' GM q3 (by omega) (by omega) (by have := pt.2.2.2.2; omega) (by omega) (by omega)
        refine ⟨g'', r'', lp'', lk'', L'', GP'', GM'', w'', ?_, ?_, s3, q4.tr s4⟩
        · have lr : m_Log_learnRow g (nI w) = some (nI (1 + bod l), g') := by
            unfold m_Log_learnRow
            rw [bs p1, if_neg e10, bs q1]
          rw [bs lr]
          show m_Log_open__L12 fu g' (nI w + jmax 1 (nI (1 + bod l))) = _
          rw [n1, jmaxN (by omega) (by omega), Nat.max_eq_right (by omega), nI_add]
          exact s1
        · have hne : ¬ nI (1 + bod l) = 0 := nI_ne0 (by omega) (by omega)
          have hnl : ¬ nI (1 + bod l) ≤ 0 := nI_nle (by omega) (by omega)
          have ez : nI (1 + bod l) + 0 = nI (1 + bod l) := by rw [n0, nI_add]; rfl
          rw [bs p2, if_neg hne, if_neg hnl, bs q2, ez, if_neg hne, nI_add]
          exact s2
      · rcases mark_cases hm hn hR hf0 (w := w) (by omega) hb0 hb with ⟨mt, m1, m2⟩ | ⟨m1, m2⟩
        · have hb5 : ent b ≤ 6 := by have := mt.2.1; unfold ent; omega
          obtain ⟨g', r', lk', L', GP', GM', q1, q2, q3, q4⟩ := ln_mark hn h ⟨hw, by omega⟩ hb mt
          obtain ⟨g'', r'', lp'', lk'', L'', GP'', GM'', w'', s1, s2, s3, s4⟩ := ih (w + (1 + ent b)) fu fv g' r' lp lk' L' GP' GM' q3 (by omega) (by omega) (by have := mt.2.2.2.2.1; omega) (by omega) (by omega)
          refine ⟨g'', r'', lp'', lk'', L'', GP'', GM'', w'', ?_, ?_, s3, q4.tr s4⟩
          · have lr : m_Log_learnRow g (nI w) = some (nI (1 + ent b), g') := by
              unfold m_Log_learnRow
              rw [bs p1, if_pos rfl, bs m1, if_neg e10, bs q1]
            rw [bs lr]
            show m_Log_open__L12 fu g' (nI w + jmax 1 (nI (1 + ent b))) = _
            rw [n1, jmaxN (by omega) (by omega), Nat.max_eq_right (by omega), nI_add]
            exact s1
          · have hne : ¬ nI (1 + ent b) = 0 := nI_ne0 (by omega) (by omega)
            have hnl : ¬ nI (1 + ent b) ≤ 0 := nI_nle (by omega) (by omega)
            have ez : 0 + nI (1 + ent b) = nI (1 + ent b) := by
              rw [n0, nI_add, Nat.zero_add]
            rw [bs p2, if_pos rfl, bs m2, if_pos (Int32.le_refl _), if_neg hnl, bs q2, ez, if_neg hne, nI_add]
            exact s2
        · obtain ⟨g'', r'', lp'', lk'', L'', GP'', GM'', w'', s1, s2, s3, s4⟩ := ih (w + 1) fu fv g r lp lk L GP GM (Sc_mono h (by omega)) (by omega) (by omega) (by omega) (by omega) (by omega)
          refine ⟨g'', r'', lp'', lk'', L'', GP'', GM'', w'', ?_, ?_, s3, s4⟩
          · have lr : m_Log_learnRow g (nI w) = some (1, g) := by
              unfold m_Log_learnRow
              rw [bs p1, if_pos rfl, bs m1, if_pos rfl]
            rw [bs lr]
            show m_Log_open__L12 fu g (nI w + jmax 1 1) = _
            rw [show jmax 1 1 = nI 1 by decide +kernel, nI_add]
            exact s1
          · rw [bs p2, if_pos rfl, bs m2, if_pos (Int32.le_refl _), if_pos (Int32.le_refl _), if_pos (by decide), nI_1]
            exact s2
theorem Abs_nil (n : Nat) : Abs n [] [] [] 0 0 := ⟨fun q hq => (by cases hq), fun q hq => (by cases hq), fun q hq => (by cases hq), ⟨fun i hi => (by cases hi), List.Pairwise.nil⟩, List.Pairwise.nil, by omega, by omega⟩
theorem st_open {n : Nat} {g : St_Log} {r : St_Ref} (h : Rel n g r) : ∃ a g' r', m_Log_open_ g = some (a, g') ∧ m_RRef_open_ r = some (a, r') ∧ Rel n g' r' := by
  obtain ⟨⟨hn, hC, hR, ht, ho, hts⟩, hT⟩ := id h
  obtain ⟨x1, x2, x3, x4, f1, f2, f3, f4, f5, f6⟩ := C_forget hC hn
  obtain ⟨t, htd⟩ : ∃ t, t = tri (g_medium g) := ⟨_, rfl⟩
  obtain ⟨G1, hG1⟩ : ∃ G1, G1 = s_greatestMark (s_greatestPart (s_room (s_made (s_kept (s_parts g x1) x2) x3) x4) 0) 0 := ⟨_, rfl⟩
  have hCG1 : CI n G1 := by
    rw [hG1]
    exact cs_greatestMark (cs_greatestPart (cs_room (cs_made (cs_kept (cs_parts hC ⟨_, f2.1.l⟩) ⟨_, f3.1.1⟩) ⟨_, f4.1.1⟩) f6))
  have m1 : g_medium G1 = mk3 n t := by rw [hG1]; simp only [q_medium]; rw [htd]; exact g_mk3 hC
  have rh := C_readHeads hCG1 m1 hn
  obtain ⟨R1, hR1⟩ : ∃ R1, R1 = s_RlastMark (s_RlastPart (s_Rmarks (s_Rparts (s_Ropen r 1) 0) 0) 0) 0 := ⟨_, rfl⟩
  have hRR1 : RI n R1 := by
    rw [hR1]
    refine rs_lastMark (rs_lastPart (rs_marks (rs_parts (rs_open hR ?_) ?_) ?_))
    · exact Or.inr rfl
    · exact ⟨0, by omega, n0⟩
    · exact ⟨0, by omega, n0⟩
  have tr1 : rtri R1 = t := by
    rw [hR1, htd, ht]
    simp only [rtri, qR_medium, qR_cutIn, qR_written]
  have hf1 : (g_Rmedium R1).2 = t.1 := by rw [← tr1]; rfl
  have hh := R_heads hRR1 hf1
  obtain ⟨S, hS1, hS2⟩ := hdS_ok t.1
  have o1 : g_owners G1 = g_owners g := by rw [hG1]; simp only [q_owners]
  have o2 : g_Rowners R1 = g_Rowners r := by rw [hR1]; simp only [qR_owners]
  have how : ow8 t.1 (g_Rowners R1).2 = ow8 t.1 (g_owners G1).2 := by
    funext i
    unfold ow8
    by_cases hi : 0 ≤ i ∧ i < 8
    · rw [if_pos hi, if_pos hi]
    · rw [if_neg hi, if_neg hi, (ri_owners hRR1).2 i (by omega), (ci_owners hCG1).2 i (by omega)]
  have hkO : kOw (8, ow8 t.1 (g_owners G1).2) := by
    refine ⟨rfl, fun j hj => ?_⟩
    show ow8 t.1 (g_owners G1).2 j = 0
    unfold ow8
    rw [if_neg (by omega)]
    exact (ci_owners hCG1).2 j hj
  obtain ⟨G2, hG2⟩ : ∃ G2, G2 = s_owners (s_serial G1 (hdS t.1)) (8, ow8 t.1 (g_owners G1).2) := ⟨_, rfl⟩
  obtain ⟨R2, hR2⟩ : ∃ R2, R2 = s_Rowners (s_Rserial R1 (hdS t.1)) (8, ow8 t.1 (g_owners G1).2) := ⟨_, rfl⟩
  rw [how, ← hR2] at hh
  rw [← hG2] at rh
  have hCG2 : CI n G2 := by rw [hG2]; exact cs_owners (cs_serial hCG1) hkO
  have hRR2 : RI n R2 := by rw [hR2]; exact rs_owners (rs_serial hRR1) hkO
  have hSc : Sc n 2 t G2 R2 [] [] [] 0 0 := by
    refine ⟨hCG2, hRR2, ?_, ?_, ⟨?_, ?_, ?_, ?_⟩, ⟨⟨⟨⟨?_, ?_, ?_, ?_, ?_⟩, ?_, ?_⟩, ?_, ?_⟩, ⟨?_, ?_, ?_, ?_⟩⟩, List.Perm.refl _, Abs_nil n, ⟨?_, ?_, ?_, ?_⟩, fun i hi => (by cases hi)⟩
    · rw [hG2]; simp only [q_medium]; exact m1
    · rw [hR2]; simp only [rtri, qR_medium, qR_cutIn, qR_written]; exact tr1
    · rw [hG2, hG1]; simp only [q_parts]; exact f2
    · rw [hG2, hG1]; simp only [q_kept]; exact f3
    · rw [hG2, hG1]; simp only [q_made]; exact f4
    · rw [hG2, hG1]; simp only [q_room]; exact f5
    · exact ri_pNumber hRR2
    · exact ri_pGroup hRR2
    · exact ri_pPosition hRR2
    · exact ri_pLength hRR2
    · exact ri_pRow hRR2
    · rw [hR2, hR1]; simp only [qR_parts]; exact n0
    · exact Nat.zero_le _
    · intro q
      exact ⟨fun hq => (by cases hq), fun ⟨k, hk, _⟩ => absurd hk (Nat.not_lt_zero _)⟩
    · intro i j hi
      exact absurd hi (Nat.not_lt_zero _)
    · rw [hR2, hR1]; simp only [qR_marks]; exact n0
    · exact Nat.zero_le _
    · rfl
    · intro m hm
      cases hm
    · rw [hG2, hG1]; simp only [q_greatestPart]; exact n0
    · rw [hR2, hR1]; simp only [qR_lastPart]; exact n0
    · rw [hG2, hG1]; simp only [q_greatestMark]; exact n0
    · rw [hR2, hR1]; simp only [qR_lastMark]; exact n0
  obtain ⟨g', r', lp', lk', L', GP', GM', w', s1, s2, s3, s4⟩ := op_L hn 510 2 FU FU G2 R2 [] [] [] 0 0 hSc (by omega) (by omega) (by omega) (FU_lt (by omega)) (FU_lt (by omega))
  obtain ⟨cC, cR, cm, ctr, cTC, cTR, cL, cA, cN, -⟩ := s3
  obtain ⟨e1, e2, e3, e4, e5, e6⟩ := s4
  have ope : g_Ropen R2 = 1 := by rw [hR2, hR1]; simp only [qR_open]
  have tg : g_tape G2 = g_tape g := by rw [hG2, hG1]; simp only [q_tape]
  have trr : fTap R2 = fTap r := by rw [hR2, hR1]; simp only [qf_Tap]
  refine ⟨nI lk'.length, s_isOpen g' 1, r', ?_, ?_, ⟨hn, cs_isOpen cC (Or.inr rfl), cR, ?_, ?_, ?_⟩, fun _ => ⟨lp', lk', [], L', GP', GM', ⟨?_, ?_, ?_, ?_⟩, cTR, ?_, cA, ⟨?_, cN.2.1, ?_, cN.2.2.2⟩, ⟨ow8 t.1 (g_owners G1).2, S, ?_, ?_, ?_, ?_, hS1, ?_⟩⟩⟩
  · unfold m_Log_open_
    rw [← hG1] at f1
    rw [bs f1, bs rh]
    exact s1
  · unfold m_RRef_open_
    rw [← hR1, bs hh]
    exact s2
  · simp only [q_medium]; rw [cm, ctr]; rfl
  · simp only [q_isOpen]; rw [e6, ope]
  · simp only [q_tape]
    rw [e1, tg, e_tape (e4.trans trr), e_taped (e4.trans trr)]
    exact hts
  · simp only [q_parts]; exact cTC.1
  · simp only [q_kept]; exact cTC.2.1
  · simp only [q_made]; exact cTC.2.2.1
  · simp only [q_room]; exact cTC.2.2.2
  · rw [List.append_nil]; exact cL
  · simp only [q_greatestPart]; exact cN.1
  · simp only [q_greatestMark]; exact cN.2.2.1
  · simp only [q_owners]; rw [e2, hG2]; simp only [q_owners]
  · rw [e_owners e5, hR2]; simp only [qR_owners]
  · simp only [q_serial]; rw [e3, hG2]; simp only [q_serial]; exact hS2
  · rw [e_serial e5, hR2]; simp only [qR_serial]; exact hS2
  · intro j hj
    unfold ow8
    rw [if_pos (by omega)]
    exact hdO_ok t.1 j
