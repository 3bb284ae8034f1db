-- READERS
theorem RP_ri {n : Nat} {r : St_Ref} (hR : RI n r) : ∃ P, RP r P := by
  obtain ⟨P, hP, e⟩ := ri_parts hR
  exact ⟨P, ⟨ri_pNumber hR, ri_pGroup hR, ri_pPosition hR, ri_pLength hR, ri_pRow hR⟩, e, hP⟩
theorem R_fp_any {n : Nat} {r : St_Ref} (hR : RI n r) (v : Int32) : ∃ a, m_RRef_findPart r v = some a := by
  obtain ⟨P, h⟩ := RP_ri hR
  rcases R_findPart h v with ⟨e, -⟩ | ⟨k, -, e, -⟩
  · exact ⟨_, e⟩
  · exact ⟨_, e⟩
theorem R_fm_any {n : Nat} {r : St_Ref} (hR : RI n r) (v : Int32) : ∃ a, m_RRef_findMark r v = some a := by
  obtain ⟨M, hM, e⟩ := ri_marks hR
  rcases R_findMark hR e hM v with ⟨e, -⟩ | ⟨k, -, e, -⟩
  · exact ⟨_, e⟩
  · exact ⟨_, e⟩
theorem st_partOf {n : Nat} {g : St_Log} {r : St_Ref} (h : Rel n g r) (v p : Int32) : ∃ a, m_Log_partOf g v p = some a ∧ m_RRef_partOf r v p = some a := by
  obtain ⟨⟨hn, hC, hR, ht, ho, hts⟩, hT⟩ := id h
  unfold m_Log_partOf m_RRef_partOf
  by_cases hop : g_isOpen g = 0
  · exact ⟨-3, by rw [if_pos hop], by rw [if_pos (by rw [← ho]; exact hop)]⟩
  · have ho1 := open_1 hC hop
    have hop' : ¬ g_Ropen r = 0 := by rw [← ho]; exact hop
    rw [if_neg hop, if_neg hop']
    obtain ⟨lp, lk, lm, L, GP, GM, hTC, hTR, hL, hA, hN, hH⟩ := hT ho1
    unfold m_RRef_isIn
    by_cases h1 : p < 0
    · exact ⟨-2, by rw [if_pos h1], by rw [if_pos h1]; rfl⟩
    · by_cases h2 : p ≤ 5
      · rw [if_neg h1, if_pos h2, if_neg h1, if_neg (Int32.not_lt.mpr h2)]
        simp only [Option.bind_some]
        rw [if_neg e10]
        rcases T_find (PC_tc hTC.1) hTR.1 v with ⟨a1, a2, -⟩ | ⟨i, j, q, hi, hj, hq, e1, e2, e3, a1, a2⟩
        · exact ⟨-1, by rw [bs a1, if_pos rfl], by rw [bs a2, if_pos rfl]⟩
        · have h512 := hTC.1.1.2.2
          have hlp := hTR.1.1.2.2
          have c0 : (nI j).toNatClampNeg = j := nI_clamp (by omega)
          have i0 : ∀ M, M = 520 → ¬ (nI j < 0 ∨ M ≤ j) := fun M hM => by
            have := nI_in (c := j) (N := 520) (by omega) (by omega)
            rw [c0] at this
            rw [hM]; exact this
          rw [bs a1, if_neg (nI_m1 (by omega)), bs a2, if_neg (nI_m1 (by omega)), c0]
          have x1 : (g_parts g).2.1.2 i = (g_RpGroup r).2 j := (congrArg (fun z : PQ => z.2.1) (e2.trans e3.symm))
          have x2 : (g_parts g).2.2.2.2.1.2 i = (g_RpPosition r).2 j := (congrArg (fun z : PQ => z.2.2.2.2) (e2.trans e3.symm))
          have x3 : (g_parts g).2.2.1.2 i = (g_RpLength r).2 j := (congrArg (fun z : PQ => z.2.2.1) (e2.trans e3.symm))
          have x4 : (g_parts g).2.2.2.1.2 i = (g_RpRow r).2 j := (congrArg (fun z : PQ => z.2.2.2.1) (e2.trans e3.symm))
          by_cases b0 : p = 0
          · refine ⟨((g_RpGroup r).2 j).toInt64, ?_, ?_⟩
            · rw [if_pos b0, bs (P_groupAt hTC.1.1.l hi), x1]
            · rw [if_pos b0, if_neg (i0 _ (ri_pGroup hR))]
          · rw [if_neg b0, if_neg b0]
            by_cases b1 : p = 1
            · refine ⟨(g_RpPosition r).2 j, ?_, ?_⟩
              · rw [if_pos b1, bs (P_positionAt hTC.1.1.l hi), x2]
              · rw [if_pos b1, if_neg (i0 _ (ri_pPosition hR))]
            · rw [if_neg b1, if_neg b1]
              by_cases b2 : p = 2
              · refine ⟨((g_RpLength r).2 j).toInt64, ?_, ?_⟩
                · rw [if_pos b2, bs (P_lengthAt hTC.1.1.l hi), x3]
                · rw [if_pos b2, if_neg (i0 _ (ri_pLength hR))]
              · rw [if_neg b2, if_neg b2]
                by_cases b3 : p = 3
                · refine ⟨((g_RpRow r).2 j).toInt64, ?_, ?_⟩
                  · rw [if_pos b3, bs (P_rowAt hTC.1.1.l hi), x4]
                  · rw [if_pos b3, if_neg (i0 _ (ri_pRow hR))]
                · rw [if_neg b3, if_neg b3]
                  by_cases b4 : p = 4
                  · rw [if_pos b4, if_pos b4]
                    obtain ⟨_, _, l, w, _, _, _, _, _, p6, p7, p8, p9, p10⟩ := (hA.1 q hq).1
                    have k1 := C_isPartWhole (g := g) (t := tri (g_medium g)) (g_mk3 hC) hn hTC.1 hi (l := l) (w := w) (by rw [e2]; exact p6) p7 (by rw [e2]; exact p8) p10
                    have k2 := R_isWholePart (f := (tri (g_medium g)).1) hR (by rw [ht]; rfl) hn.2 hTR.1 hj (l := l) (w := w) (by rw [e3]; exact p6) p7 (by rw [e3]; exact p8) p10
                    rw [e2] at k1
                    rw [e3] at k2
                    rw [bs k1, bs k2]
                    by_cases z : wholeP (tri (g_medium g)).1 q.1 l w = 0
                    · exact ⟨0, by rw [if_pos z], by rw [if_pos z]⟩
                    · exact ⟨1, by rw [if_neg z], by rw [if_neg z]⟩
                  · obtain ⟨w1, w2⟩ := w_named hR hTC.2.1 hTC.2.2.1 hTR.2 hL hA v
                    exact ⟨_, by rw [if_neg b4, bs w1], by rw [if_neg b4, bs w2]⟩
      · exact ⟨-2, by rw [if_neg h1, if_neg h2], by rw [if_neg h1, if_pos (Int32.not_le.mp h2)]; rfl⟩
theorem byteIx {w i : Nat} (hi : i < 2 ^ 20) : (((32 * ((nI w + 1) + (nI i / 31))) + 1) + (jrem (nI i) 31)) = nI (32 * (w + 1 + i / 31) + (1 + i % 31)) := by
  unfold jrem
  rw [n31, pk_rem (by omega) (by omega) (by omega), pk_div (by omega) (by omega) (by omega), nI_1, nI_add, n32, pk_mul, nI_1, nI_add, Nat.add_assoc]
theorem C_byteOfPart {n : Nat} {g : St_Log} {lp : List PQ} {t : T3} (hm : g_medium g = mk3 n t) (hn : 4 ≤ n ∧ n ≤ 512) (hP : PC n (g_parts g) lp) {i : Nat} (hi : i < lp.length) {l w : Nat} (hl2 : l ≤ 155) (hw : (crow (g_parts g) i).2.2.2.1 = nI w) (hw2 : w + 1 + bod l ≤ n) {k : Nat} (hk : k < l) : m_Log_byteOfPart g (nI i) (nI k) = some (t.1 (32 * (w + 1 + k / 31) + (1 + k % 31)) &&& 255) := by
  have a1 : m_Parts_rowAt (g_parts g) (nI i) = some (nI w) := by rw [P_rowAt hP.1.l hi]; exact congrArg some hw
  have hb : k / 31 < bod l := by unfold bod; omega
  have a2 : m_Medium_at (mk3 n t) ((nI w + 1) + (nI k / 31)) (1 + (jrem (nI k) 31)) = some (t.1 (32 * (w + 1 + k / 31) + (1 + k % 31)) &&& 255) := by
    unfold jrem
    rw [n31, pk_rem (by omega) (by omega) (by omega), pk_div (by omega) (by omega) (by omega), nI_1, nI_add, n1, nI_add]
    exact c_at (mk3_ok hn.1 hn.2 t) (by omega) (by omega)
  unfold m_Log_byteOfPart
  rw [hm, bs a1, bs a2]
theorem R_byteOf {n : Nat} {r : St_Ref} {f : Nat → Int32} (hR : RI n r) (hf : (g_Rmedium r).2 = f) (hn : n ≤ 512) {j : Nat} (hj : j < 520) {l w : Nat} (hl2 : l ≤ 155) (hw : (rrow r j).2.2.2.1 = nI w) (hw2 : w + 1 + bod l ≤ n) {k : Nat} (hk : k < l) : m_RRef_byteOf r (nI j) (nI k) = some (f (32 * (w + 1 + k / 31) + (1 + k % 31)) &&& 255) := by
  have hb : k / 31 < bod l := by unfold bod; omega
  have er : (g_RpRow r).2 j = nI w := hw
  unfold m_RRef_byteOf
  rw [show (g_RpRow r).1 = 520 from ri_pRow hR, if_neg (nI_in hj (by omega)), nI_clamp (by omega), er, byteIx (by omega), show (g_Rmedium r).1 = 16384 from (ri_medium hR).1, if_neg (nI_in (by omega) (by omega)), nI_clamp (by omega), hf]
theorem st_partByte {n : Nat} {g : St_Log} {r : St_Ref} (h : Rel n g r) (v p : Int32) : ∃ a, m_Log_partByte g v p = some a ∧ m_RRef_partByte r v p = some a := by
  obtain ⟨⟨hn, hC, hR, ht, ho, hts⟩, hT⟩ := id h
  unfold m_Log_partByte m_RRef_partByte
  by_cases hop : g_isOpen g = 0
  · obtain ⟨b, hb⟩ := R_fp_any hR v
    exact ⟨-3, by rw [if_pos hop], by rw [bs hb, if_pos (by rw [← ho]; exact hop)]⟩
  · have ho1 := open_1 hC hop
    have hop' : ¬ g_Ropen r = 0 := by rw [← ho]; exact hop
    obtain ⟨lp, lk, lm, L, GP, GM, hTC, hTR, hL, hA, hN, hH⟩ := hT ho1
    rw [if_neg hop]
    rcases T_find (PC_tc hTC.1) hTR.1 v with ⟨a1, a2, -⟩ | ⟨i, j, q, hi, hj, hq, e1, e2, e3, a1, a2⟩
    · exact ⟨-1, by rw [bs a1, if_pos rfl], by rw [bs a2, if_neg hop', if_pos rfl]⟩
    · have h512 := hTC.1.1.2.2
      have hlp := hTR.1.1.2.2
      obtain ⟨_, _, l, w, _, _, _, _, _, p6, p7, p8, p9, p10⟩ := (hA.1 q hq).1
      have x3 : (g_RpLength r).2 j = nI l := by rw [← p6, ← e3]; rfl
      have x3c : (g_parts g).2.2.1.2 i = nI l := by rw [← p6, ← e2]; rfl
      rw [bs a1, if_neg (nI_m1 (by omega)), bs a2, if_neg hop', if_neg (nI_m1 (by omega)), show (g_RpLength r).1 = 520 from ri_pLength hR, if_neg (nI_in (by omega) (by omega)), nI_clamp (by omega), x3]
      have ln := P_lengthAt hTC.1.1.l hi
      rw [x3c] at ln
      unfold m_RRef_isIn
      by_cases h1 : p < 0
      · exact ⟨-1, by rw [if_pos h1], by rw [if_pos h1]; rfl⟩
      · rw [if_neg h1, bs ln, if_neg h1]
        by_cases hl0 : l = 0
        · subst hl0
          refine ⟨-1, ?_, ?_⟩
          · rw [if_neg (show ¬ p < nI 0 from h1)]
          · rw [if_pos (show nI 0 - 1 < p from Int32.lt_of_lt_of_le (by decide) (Int32.not_lt.mp h1))]; rfl
        · have em : nI l - 1 = nI (l - 1) := by rw [n1, pk_sub (by omega)]
          rw [em]
          by_cases h2 : p < nI l
          · have h3 : ¬ nI (l - 1) < p := fun e => absurd ((lt_pred (by omega) (by omega)).mp e) (Int32.not_le.mpr h2)
            rcases pk_ix p (n := l) (by omega) with z | z | ⟨k, hk, rfl⟩
            · exact absurd z h1
            · exact absurd h2 (Int32.not_lt.mpr z)
            · have k1 := C_byteOfPart (g := g) (t := tri (g_medium g)) (g_mk3 hC) hn hTC.1 hi (l := l) (w := w) p7 (by rw [e2]; exact p8) p10 hk
              have k2 := R_byteOf (f := (tri (g_medium g)).1) hR (by rw [ht]; rfl) hn.2 (j := j) (by omega) (l := l) (w := w) p7 (by rw [e3]; exact p8) p10 hk
              refine ⟨_, by rw [if_pos h2, bs k1], ?_⟩
              rw [if_neg h3, Option.bind_some, if_neg e10, bs k2]
          · have h3 : nI (l - 1) < p := (lt_pred (by omega) (by omega)).mpr (Int32.not_lt.mp h2)
            exact ⟨-1, by rw [if_neg h2], by rw [if_pos h3]; rfl⟩
theorem C_tableOf {g : St_Log} (v a b : Int32) (h1 : m_Marks_find (g_kept g) v = some a) (h2 : m_Marks_find (g_made g) v = some b) : m_Log_tableOf g v = some (if a = (-1) then (if b = (-1) then 0 else 2) else 1) := by
  unfold m_Log_tableOf
  rw [bs h1]
  by_cases ha : a = (-1)
  · rw [if_pos ha, if_pos ha, bs h2]
    split <;> rfl
  · rw [if_neg ha, if_neg ha]
/-- entry k of a MARK's list, or how many -/
theorem mk_read {n : Nat} {r : St_Ref} {N P : Nat} {x : St_Marks} (hR : RI n r) (hx : ML N x P) {i j c : Nat} (hi : i < P) (hj : j < 270) (e : qrow r j = mrow x i) (hc : (mrow x i).2.1 = nI c) (hc1 : 1 ≤ c ∧ c ≤ 12) (p : Int32) : ∃ a, (if p = (-1) then ((m_Marks_countAt x (nI i)).bind fun q7 => some q7) else ((m_Marks_partAt x (nI i) p).bind fun q6 => some q6)) = some a ∧ (if nI j < 0 ∨ (g_RmCount r).1 ≤ (nI j).toNatClampNeg then none else (m_RRef_isIn p (-1) (((g_RmCount r).2 (nI j).toNatClampNeg) - 1)).bind fun q5 => if q5 = 0 then (some (-1)) else (if p = (-1) then (if nI j < 0 ∨ (g_RmCount r).1 ≤ (nI j).toNatClampNeg then none else some ((g_RmCount r).2 (nI j).toNatClampNeg)) else (if ((12 * nI j) + p) < 0 ∨ (g_RmPart r).1 ≤ (((12 * nI j) + p)).toNatClampNeg then none else some ((g_RmPart r).2 (((12 * nI j) + p)).toNatClampNeg)))) = some a := by
  have l1 : (g_RmCount r).1 = 270 := ri_mCount hR
  have l2 : (g_RmPart r).1 = 3240 := ri_mPart hR
  have ec : (g_RmCount r).2 j = nI c := (congrArg (fun z : MKQ => z.2.1) e).trans hc
  have ecx : x.2.1.2 i = nI c := hc
  have el : mls (nI c) (g_RmPart r).2 j = mls (nI c) x.2.2.2.1.2 i := by
    have h2 : mls ((g_RmCount r).2 j) (g_RmPart r).2 j = mls (x.2.1.2 i) x.2.2.2.1.2 i := congrArg (fun z : MKQ => z.2.2.2.2) e
    rw [ec, ecx] at h2
    exact h2
  have em : nI c - 1 = nI (c - 1) := by rw [n1, pk_sub (by omega)]
  have i0 : ¬ (nI j < 0 ∨ 270 ≤ (nI j).toNatClampNeg) := nI_in hj (by omega)
  have ca := M_countAt hx hi
  rw [ecx] at ca
  rw [l1, if_neg i0, nI_clamp (by omega), ec, em]
  unfold m_RRef_isIn
  by_cases hp : p = (-1)
  · subst hp
    refine ⟨nI c, by rw [if_pos rfl, bs ca], ?_⟩
    rw [if_neg (by decide), if_neg (fun e => absurd ((lt_pred (by omega) (by omega)).mp e) (Int32.not_le.mpr (Int32.lt_of_lt_of_le (by decide) (nI_pos' (n := c) (by omega))))), Option.bind_some, if_neg e10, if_pos rfl]
    rw [nI_clamp (by omega)] at i0
    rw [if_neg i0]
  · rw [if_neg hp]
    have pa := M_partAt hx hi ecx hc1.2 p
    by_cases h1 : p < (-1)
    · refine ⟨-1, ?_, by rw [if_pos h1]; rfl⟩
      rw [bs pa, if_pos (Or.inl (Int32.lt_trans h1 (by decide)))]
    · rw [if_neg h1]
      have h0 : ¬ p < 0 := by
        intro z
        have a1 := Int32.lt_iff_toInt_lt.mp z
        have a2 : ¬ p.toInt < Int32.toInt (-1) := fun e => h1 (Int32.lt_iff_toInt_lt.mpr e)
        have a3 : Int32.toInt (-1) = -1 := by decide
        have a4 : Int32.toInt 0 = 0 := by decide
        exact hp (Int32.toInt_inj.mp (by omega))
      rcases pk_ix p (n := c) (by omega) with z | z | ⟨k, hk, rfl⟩
      · exact absurd z h0
      · refine ⟨-1, by rw [bs pa, if_pos (Or.inr z)], ?_⟩
        rw [if_pos ((lt_pred (by omega) (by omega)).mpr z)]; rfl
      · refine ⟨x.2.2.2.1.2 (12 * i + k), ?_, ?_⟩
        · rw [bs pa, if_neg (fun z => z.elim h0 (nI_ge hk (by omega))), nI_clamp (by omega)]
        · rw [if_neg (nI_nlt (by omega) (by omega)), Option.bind_some, if_neg e10, if_neg hp, n12, pk_mul, nI_add, l2, if_neg (nI_in (by omega) (by omega)), nI_clamp (by omega), mls_eq hc1.2 el hk]
theorem st_markOf {n : Nat} {g : St_Log} {r : St_Ref} (h : Rel n g r) (v p : Int32) : ∃ a, m_Log_markOf g v p = some a ∧ m_RRef_markOf r v p = some a := by
  obtain ⟨⟨hn, hC, hR, ht, ho, hts⟩, hT⟩ := id h
  unfold m_Log_markOf m_RRef_markOf
  by_cases hop : g_isOpen g = 0
  · obtain ⟨b, hb⟩ := R_fm_any hR v
    exact ⟨-3, by rw [if_pos hop], by rw [bs hb, if_pos (by rw [← ho]; exact hop)]⟩
  · have ho1 := open_1 hC hop
    have hop' : ¬ g_Ropen r = 0 := by rw [← ho]; exact hop
    obtain ⟨lp, lk, lm, L, GP, GM, hTC, hTR, hL, hA, hN, hH⟩ := hT ho1
    have hML := hTR.2.2.1
    have hk2 := hTC.2.1.1.1.2.2.1
    have hm6 := hTC.2.2.1.1.1.2.2.1
    rw [if_neg hop]
    rcases F3 hR hTC.2.1 hTC.2.2.1 hTR.2 hL hA.2.2.2.2.1 v with ⟨a1, a2, a3, a4⟩ | ⟨i, j, hi, hj, a1, a2, a3, a4, a5, a6⟩ | ⟨i, j, hi, hj, a1, a2, a3, a4, a5, a6⟩
    · refine ⟨-1, ?_, by rw [bs a3, if_neg hop', if_pos rfl]⟩
      rw [bs (C_tableOf v _ _ a1 a2)]
      rfl
    · obtain ⟨_, c, w, _, _, _, p4, p5, p6, _⟩ := (hA.2.1 _ a5).1
      obtain ⟨a, b1, b2⟩ := mk_read hR hTC.2.1.1.1 hi (by omega) a4 p4 ⟨p5, p6⟩ p
      refine ⟨a, ?_, ?_⟩
      · rw [bs (C_tableOf v _ _ a1 a2), if_neg (nI_m1 (by omega)), if_pos rfl, bs a1]
        exact b1
      · rw [bs a3, if_neg hop', if_neg (nI_m1 (by omega))]
        exact b2
    · obtain ⟨_, c, _, _, _, p4, p5, p6, _⟩ := (hA.2.2.1 _ a5).1
      obtain ⟨a, b1, b2⟩ := mk_read hR hTC.2.2.1.1.1 hi (by omega) a4 p4 ⟨p5, p6⟩ p
      refine ⟨a, ?_, ?_⟩
      · rw [bs (C_tableOf v _ _ a1 a2), if_pos rfl, if_neg (nI_m1 (by omega)), if_neg (by decide), if_pos rfl, bs a2]
        exact b1
      · rw [bs a3, if_neg hop', if_neg (nI_m1 (by omega))]
        exact b2
