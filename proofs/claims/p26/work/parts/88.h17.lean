-- WHETHER A PART IS WHOLE, A MARK AS IT WAS FOUND
def wholeP (f : Nat → Int32) (num : Int32) (l w : Nat) : Int32 := if f (32 * w) &&& 255 = 1 then (if sumOk f w = 0 then 0 else (if lg_cmp (numF f (32 * w + 4) 4) num.toInt64 = 0 then (if lg_cmp (numF f (32 * w + 2) 2) (nI l).toInt64 = 0 then (if lg_cmp (numF f (32 * w + 16) 8) (digF f (32 * w + 32) (32 * bod l)) = 0 then 1 else 0) else 0) else 0)) else 0
def foundK (f : Nat → Int32) (num : Int32) (c w : Nat) (D : Int64) : Int32 := if f (32 * w) &&& 255 = 2 then (if sumOk f w = 0 then 0 else (if lg_cmp (numF f (32 * w + 4) 4) num.toInt64 = 0 then (if f (32 * w + 1) &&& 255 = nI c then (if lg_cmp (numF f (32 * w + 8) 8) D = 0 then (if lg_cmp (digF f (32 * w + 32) (32 * ent c)) D = 0 then 1 else 0) else 0) else 0) else 0)) else 0
theorem C_isPartWhole {n : Nat} {g : St_Log} {lp : List PQ} {t : T3} (hm : g_medium g = mk3 n t) (hn : 4 ≤ n ∧ n ≤ 512) (hP : PC n (g_parts g) lp) {i : Nat} (hi : i < lp.length) {l w : Nat} (hl : (crow (g_parts g) i).2.2.1 = nI l) (hl2 : l ≤ 155) (hw : (crow (g_parts g) i).2.2.2.1 = nI w) (hw2 : w + 1 + bod l ≤ n) : m_Log_isPartWhole g (nI i) = some (wholeP t.1 (crow (g_parts g) i).1 l w) := by
  have hk := mk3_ok hn.1 hn.2 t
  have a1 : m_Parts_rowAt (g_parts g) (nI i) = some (nI w) := by rw [P_rowAt hP.1.l hi]; exact congrArg some hw
  have a2 : m_Parts_lengthAt (g_parts g) (nI i) = some (nI l) := by rw [P_lengthAt hP.1.l hi]; exact congrArg some hl
  have a3 : m_Medium_at (mk3 n t) (nI w) 0 = some (t.1 (32 * w) &&& 255) := c_at hk (row := w) (i := 0) (by omega) (by omega)
  have a4 : m_Medium_isSumRight (mk3 n t) (nI w) = some (sumOk t.1 w) := c_sum hk (by omega)
  have a5 : m_Medium_number (mk3 n t) (nI w) 4 4 = some (numF t.1 (32 * w + 4) 4) := c_number hk (by omega) (i := 4) (K := 4) (by omega)
  have a6 : m_Parts_numberAt (g_parts g) (nI i) = some (crow (g_parts g) i).1 := P_numberAt hP.1.l hi
  have a7 : m_Medium_number (mk3 n t) (nI w) 2 2 = some (numF t.1 (32 * w + 2) 2) := c_number hk (by omega) (i := 2) (K := 2) (by omega)
  have a8 : m_Medium_number (mk3 n t) (nI w) 16 8 = some (numF t.1 (32 * w + 16) 8) := c_number hk (by omega) (i := 16) (K := 8) (by omega)
  have a9 : m_Medium_digest (mk3 n t) (nI w + 1) (nI (bod l)) = some (digF t.1 (32 * w + 32) (32 * bod l)) := by
    rw [nI_1, c_digest hk (first := w + 1) (count := bod l) (by omega)]
    rw [show 32 * (w + 1) = 32 * w + 32 by omega]; rfl
  unfold m_Log_isPartWhole wholeP
  rw [hm]
  refine Eq.trans (bs a1) ?_
  refine Eq.trans (bs a2) ?_
  refine Eq.trans (bs a3) ?_
  by_cases c1 : t.1 (32 * w) &&& 255 = 1
  · refine Eq.trans (if_pos c1) ?_
    rw [if_pos c1]
    refine Eq.trans (bs a4) ?_
    by_cases c2 : sumOk t.1 w = 0
    · rw [if_pos c2, if_pos c2]
    · rw [if_neg c2, if_neg c2]
      refine Eq.trans (bs a5) ?_
      refine Eq.trans (bs a6) ?_
      by_cases c3 : lg_cmp (numF t.1 (32 * w + 4) 4) ((crow (g_parts g) i).1).toInt64 = 0
      · rw [if_pos c3, if_pos c3]
        refine Eq.trans (bs a7) ?_
        by_cases c4 : lg_cmp (numF t.1 (32 * w + 2) 2) (nI l).toInt64 = 0
        · rw [if_pos c4, if_pos c4]
          refine Eq.trans (bs a8) ?_
          refine Eq.trans (bs (C_bodiesOf (by omega))) ?_
          refine Eq.trans (bs a9) ?_
          split <;> rfl
        · rw [if_neg c4, if_neg c4]
      · rw [if_neg c3, if_neg c3]
  · rw [if_neg c1, if_neg c1]
theorem R_isWholePart {n : Nat} {r : St_Ref} {lp : List PQ} {f : Nat → Int32} (hR : RI n r) (hf : (g_Rmedium r).2 = f) (hn : n ≤ 512) (hP : PR r lp) {k : Nat} (hk : k < lp.length) {l w : Nat} (hl : (rrow r k).2.2.1 = nI l) (hl2 : l ≤ 155) (hw : (rrow r k).2.2.2.1 = nI w) (hw2 : w + 1 + bod l ≤ n) : m_RRef_isWholePart r (nI k) = some (wholeP f (rrow r k).1 l w) := by
  have hlp := hP.1.2.2
  have l1 : (g_Rmedium r).1 = 16384 := (ri_medium hR).1
  have lr : (g_RpRow r).1 = 520 := ri_pRow hR
  have ln : (g_RpNumber r).1 = 520 := ri_pNumber hR
  have ll : (g_RpLength r).1 = 520 := ri_pLength hR
  have c0 : (nI k).toNatClampNeg = k := nI_clamp (by omega)
  have i0 : ¬ (nI k < 0 ∨ 520 ≤ k) := by
    have := nI_in (c := k) (N := 520) (by omega) (by omega)
    rw [c0] at this
    exact this
  have er : (g_RpRow r).2 k = nI w := hw
  have el : (g_RpLength r).2 k = nI l := hl
  have hb : bod l ≤ 5 := by unfold bod; omega
  have a3 : m_RRef_kind r (nI w) = some (f (32 * w) &&& 255) := by rw [← hf]; exact r_kind l1 (by omega)
  have a4 : m_RRef_isSummed r (nI w) = some (sumOk f w) := by rw [← hf]; exact r_sum l1 (by omega)
  have nb : ∀ a K : Nat, a + K ≤ 32 → m_RRef_number (g_Rmedium r) (32 * nI w + nI a) (nI K) = some (numF f (32 * w + a) K) := by
    intro a K h
    rw [n32, pk_mul, nI_add, ← hf]
    exact r_number (by rw [l1]; omega) (by rw [l1]; omega) (by omega)
  have a5 : m_RRef_number (g_Rmedium r) (32 * nI w + 4) 4 = some (numF f (32 * w + 4) 4) := nb 4 4 (by omega)
  have a7 : m_RRef_number (g_Rmedium r) (32 * nI w + 2) 2 = some (numF f (32 * w + 2) 2) := nb 2 2 (by omega)
  have a8 : m_RRef_number (g_Rmedium r) (32 * nI w + 16) 8 = some (numF f (32 * w + 16) 8) := nb 16 8 (by omega)
  have a9 : m_RRef_digest (g_Rmedium r) (32 * nI w + 32) (32 * nI (bod l)) = some (digF f (32 * w + 32) (32 * bod l)) := by
    rw [n32, pk_mul, pk_mul, nI_add, ← hf]
    exact r_digest (by rw [l1]; omega) (by rw [l1]; omega) (by omega)
  unfold m_RRef_isWholePart wholeP
  rw [c0, lr, ln, ll, er, el]
  refine Eq.trans (if_neg i0) ?_
  refine Eq.trans (if_neg i0) ?_
  refine Eq.trans (bs a3) ?_
  by_cases c1 : f (32 * w) &&& 255 = 1
  · refine Eq.trans (if_pos c1) ?_
    rw [if_pos c1]
    refine Eq.trans (if_neg i0) ?_
    refine Eq.trans (bs a4) ?_
    by_cases c2 : sumOk f w = 0
    · rw [if_pos c2, if_pos c2]
    · rw [if_neg c2, if_neg c2]
      refine Eq.trans (bs a5) ?_
      refine Eq.trans (if_neg i0) ?_
      by_cases c3 : lg_cmp (numF f (32 * w + 4) 4) ((rrow r k).1).toInt64 = 0
      · rw [if_pos c3]
        refine Eq.trans (if_pos c3) ?_
        refine Eq.trans (bs a7) ?_
        refine Eq.trans (if_neg i0) ?_
        by_cases c4 : lg_cmp (numF f (32 * w + 2) 2) (nI l).toInt64 = 0
        · rw [if_pos c4, if_pos c4]
          refine Eq.trans (bs a8) ?_
          refine Eq.trans (if_neg i0) ?_
          refine Eq.trans (bs (R_bodies (by omega))) ?_
          refine Eq.trans (bs a9) ?_
          split <;> rfl
        · rw [if_neg c4, if_neg c4]
      · rw [if_neg c3]
        exact if_neg c3
  · rw [if_neg c1, if_neg c1]
theorem C_isKeptAsFound {n : Nat} {g : St_Log} {lk : List MKQ} {t : T3} (hm : g_medium g = mk3 n t) (hn : 4 ≤ n ∧ n ≤ 512) (hK : MC (n / 2) (g_kept g) lk) {i : Nat} (hi : i < lk.length) {c w : Nat} (hc : (mrow (g_kept g) i).2.1 = nI c) (hc2 : c ≤ 12) (hw : (mrow (g_kept g) i).2.2.1 = nI w) (hw2 : w + 1 + ent c ≤ n) : m_Log_isKeptAsFound g (nI i) = some (foundK t.1 (mrow (g_kept g) i).1 c w (mrow (g_kept g) i).2.2.2.1) := by
  have hk := mk3_ok hn.1 hn.2 t
  have hL := hK.1.1
  have a1 : m_Marks_rowAt (g_kept g) (nI i) = some (nI w) := by rw [M_rowAt hL hi]; exact congrArg some hw
  have a2 : m_Marks_countAt (g_kept g) (nI i) = some (nI c) := by rw [M_countAt hL hi]; exact congrArg some hc
  have a0 : m_Marks_digestAt (g_kept g) (nI i) = some (mrow (g_kept g) i).2.2.2.1 := M_digestAt hL hi
  have a3 : m_Medium_at (mk3 n t) (nI w) 0 = some (t.1 (32 * w) &&& 255) := c_at hk (row := w) (i := 0) (by omega) (by omega)
  have a3b : m_Medium_at (mk3 n t) (nI w) 1 = some (t.1 (32 * w + 1) &&& 255) := c_at hk (row := w) (i := 1) (by omega) (by omega)
  have a4 : m_Medium_isSumRight (mk3 n t) (nI w) = some (sumOk t.1 w) := c_sum hk (by omega)
  have a5 : m_Medium_number (mk3 n t) (nI w) 4 4 = some (numF t.1 (32 * w + 4) 4) := c_number hk (by omega) (i := 4) (K := 4) (by omega)
  have a6 : m_Marks_numberAt (g_kept g) (nI i) = some (mrow (g_kept g) i).1 := M_numberAt hL hi
  have a8 : m_Medium_number (mk3 n t) (nI w) 8 8 = some (numF t.1 (32 * w + 8) 8) := c_number hk (by omega) (i := 8) (K := 8) (by omega)
  have a9 : m_Medium_digest (mk3 n t) (nI w + 1) (nI (ent c)) = some (digF t.1 (32 * w + 32) (32 * ent c)) := by
    rw [nI_1, c_digest hk (first := w + 1) (count := ent c) (by omega)]
    rw [show 32 * (w + 1) = 32 * w + 32 by omega]; rfl
  unfold m_Log_isKeptAsFound foundK
  rw [hm]
  refine Eq.trans (bs a1) ?_
  refine Eq.trans (bs a2) ?_
  refine Eq.trans (bs a0) ?_
  refine Eq.trans (bs a3) ?_
  by_cases c1 : t.1 (32 * w) &&& 255 = 2
  · refine Eq.trans (if_pos c1) ?_
    rw [if_pos c1]
    refine Eq.trans (bs a4) ?_
    by_cases c2 : sumOk t.1 w = 0
    · rw [if_pos c2, if_pos c2]
    · rw [if_neg c2, if_neg c2]
      refine Eq.trans (bs a5) ?_
      refine Eq.trans (bs a6) ?_
      by_cases c3 : lg_cmp (numF t.1 (32 * w + 4) 4) ((mrow (g_kept g) i).1).toInt64 = 0
      · rw [if_pos c3, if_pos c3]
        refine Eq.trans (bs a3b) ?_
        by_cases c4 : t.1 (32 * w + 1) &&& 255 = nI c
        · rw [if_pos c4, if_pos c4]
          refine Eq.trans (bs a8) ?_
          by_cases c5 : lg_cmp (numF t.1 (32 * w + 8) 8) (mrow (g_kept g) i).2.2.2.1 = 0
          · rw [if_pos c5, if_pos c5]
            refine Eq.trans (bs (C_entriesOf (by omega))) ?_
            refine Eq.trans (bs a9) ?_
            split <;> rfl
          · rw [if_neg c5, if_neg c5]
        · rw [if_neg c4, if_neg c4]
      · rw [if_neg c3, if_neg c3]
  · rw [if_neg c1, if_neg c1]
theorem lg_sym (a b : Int64) : lg_cmp a b = 0 ↔ lg_cmp b a = 0 := by
  rw [lg_cmp_eq, lg_cmp_eq]
  exact eq_comm
theorem R_isAsFound {n : Nat} {r : St_Ref} {f : Nat → Int32} (hR : RI n r) (hf : (g_Rmedium r).2 = f) (hn : n ≤ 512) {k : Nat} (hk : k < 270) {c w : Nat} (hc : (qrow r k).2.1 = nI c) (hc2 : c ≤ 12) (hw : (qrow r k).2.2.1 = nI w) (hw2 : w + 1 + ent c ≤ n) : m_RRef_isAsFound r (nI k) = some (foundK f (qrow r k).1 c w (qrow r k).2.2.2.1) := by
  have l1 : (g_Rmedium r).1 = 16384 := (ri_medium hR).1
  have lr : (g_RmRow r).1 = 270 := ri_mRow hR
  have ln : (g_RmNumber r).1 = 270 := ri_mNumber hR
  have lc : (g_RmCount r).1 = 270 := ri_mCount hR
  have ld : (g_RmDigest r).1 = 270 := ri_mDigest hR
  have c0 : (nI k).toNatClampNeg = k := nI_clamp (by omega)
  have i0 : ¬ (nI k < 0 ∨ 270 ≤ k) := by
    have := nI_in (c := k) (N := 270) (by omega) (by omega)
    rw [c0] at this
    exact this
  have er : (g_RmRow r).2 k = nI w := hw
  have ec : (g_RmCount r).2 k = nI c := hc
  have hb : ent c ≤ 6 := by unfold ent; omega
  have a3 : m_RRef_kind r (nI w) = some (f (32 * w) &&& 255) := by rw [← hf]; exact r_kind l1 (by omega)
  have a4 : m_RRef_isSummed r (nI w) = some (sumOk f w) := by rw [← hf]; exact r_sum l1 (by omega)
  have nb : ∀ a K : Nat, a + K ≤ 32 → m_RRef_number (g_Rmedium r) (32 * nI w + nI a) (nI K) = some (numF f (32 * w + a) K) := by
    intro a K h
    rw [n32, pk_mul, nI_add, ← hf]
    exact r_number (by rw [l1]; omega) (by rw [l1]; omega) (by omega)
  have a5 : m_RRef_number (g_Rmedium r) (32 * nI w + 4) 4 = some (numF f (32 * w + 4) 4) := nb 4 4 (by omega)
  have a8 : m_RRef_number (g_Rmedium r) (32 * nI w + 8) 8 = some (numF f (32 * w + 8) 8) := nb 8 8 (by omega)
  have a9 : m_RRef_digest (g_Rmedium r) (32 * nI w + 32) (32 * nI (ent c)) = some (digF f (32 * w + 32) (32 * ent c)) := by
    rw [n32, pk_mul, pk_mul, nI_add, ← hf]
    exact r_digest (by rw [l1]; omega) (by rw [l1]; omega) (by omega)
  have ea : (32 : Int32) * nI w + 1 = nI (32 * w + 1) := by rw [n32, pk_mul, nI_1]
  have ca : (nI (32 * w + 1)).toNatClampNeg = 32 * w + 1 := nI_clamp (by omega)
  have ia : ¬ (nI (32 * w + 1) < 0 ∨ 16384 ≤ 32 * w + 1) := by
    have := nI_in (c := 32 * w + 1) (N := 16384) (by omega) (by omega)
    rw [ca] at this
    exact this
  unfold m_RRef_isAsFound foundK
  rw [c0, lr, ln, lc, ld, er, ec, ea, ca, l1]
  refine Eq.trans (if_neg i0) ?_
  refine Eq.trans (if_neg i0) ?_
  refine Eq.trans (bs a3) ?_
  by_cases c1 : f (32 * w) &&& 255 = 2
  · refine Eq.trans (if_pos c1) ?_
    rw [if_pos c1]
    refine Eq.trans (if_neg i0) ?_
    refine Eq.trans (bs a4) ?_
    by_cases c2 : sumOk f w = 0
    · rw [if_pos c2, if_pos c2]
    · rw [if_neg c2, if_neg c2]
      refine Eq.trans (bs a5) ?_
      refine Eq.trans (if_neg i0) ?_
      by_cases c3 : lg_cmp (numF f (32 * w + 4) 4) ((qrow r k).1).toInt64 = 0
      · rw [if_pos c3]
        refine Eq.trans (if_pos c3) ?_
        refine Eq.trans (if_neg ia) ?_
        refine Eq.trans (if_neg i0) ?_
        rw [hf]
        by_cases c4 : f (32 * w + 1) &&& 255 = nI c
        · rw [if_pos c4, if_pos c4]
          refine Eq.trans (bs a8) ?_
          refine Eq.trans (if_neg i0) ?_
          by_cases c5 : lg_cmp (numF f (32 * w + 8) 8) (qrow r k).2.2.2.1 = 0
          · rw [if_pos c5]
            refine Eq.trans (if_pos c5) ?_
            refine Eq.trans (if_neg i0) ?_
            refine Eq.trans (if_neg i0) ?_
            refine Eq.trans (bs (R_entries (by omega))) ?_
            refine Eq.trans (bs a9) ?_
            by_cases c6 : lg_cmp (digF f (32 * w + 32) (32 * ent c)) (qrow r k).2.2.2.1 = 0
            · rw [if_pos c6]
              exact if_pos ((lg_sym _ _).mp c6)
            · rw [if_neg c6]
              exact if_neg (fun e => c6 ((lg_sym _ _).mp e))
          · rw [if_neg c5]
            exact if_neg c5
        · rw [if_neg c4, if_neg c4]
      · rw [if_neg c3]
        exact if_neg c3
  · rw [if_neg c1, if_neg c1]
-- READERS
theorem RP_ri {n : Nat} {r : St_Ref} (hR : RI n r) : ∃ P, RP r P := by
  obtain ⟨P, hP, e⟩ := ri_parts hR
  exact ⟨P, ⟨ri_pNumber hR, ri_pGroup hR, ri_pPosition hR, ri_pLength hR, ri_pRow hR⟩, e, hP⟩
theorem R_fp_any {n : Nat} {r : St_Ref} (hR : RI n r) (v : Int32) : ∃ a, m_RRef_findPart r v = some a := by
  obtain ⟨P, h⟩ := RP_ri hR
  rcases R_findPart h v with ⟨e, -⟩ | ⟨k, -, e, -⟩
  · exact ⟨_, e⟩
  · exact ⟨_, e⟩
theorem R_fm_any {n : Nat} {r : St_Ref} (hR : RI n r) (v : Int32) : ∃ a, m_RRef_findMark r v = some a := by
  obtain ⟨M, hM, e⟩ := ri_marks hR
  rcases R_findMark hR e hM v with ⟨e, -⟩ | ⟨k, -, e, -⟩
  · exact ⟨_, e⟩
  · exact ⟨_, e⟩
theorem st_partOf {n : Nat} {g : St_Log} {r : St_Ref} (h : Rel n g r) (v p : Int32) : ∃ a, m_Log_partOf g v p = some a ∧ m_RRef_partOf r v p = some a := by
  obtain ⟨⟨hn, hC, hR, ht, ho, hts⟩, hT⟩ := id h
  unfold m_Log_partOf m_RRef_partOf
  by_cases hop : g_isOpen g = 0
  · exact ⟨-3, by rw [if_pos hop], by rw [if_pos (by rw [← ho]; exact hop)]⟩
  · have ho1 := open_1 hC hop
    have hop' : ¬ g_Ropen r = 0 := by rw [← ho]; exact hop
    rw [if_neg hop, if_neg hop']
    obtain ⟨lp, lk, lm, L, GP, GM, hTC, hTR, hL, hA, hN, hH⟩ := hT ho1
    unfold m_RRef_isIn
    by_cases h1 : p < 0
    · exact ⟨-2, by rw [if_pos h1], by rw [if_pos h1]; rfl⟩
    · by_cases h2 : p ≤ 5
      · rw [if_neg h1, if_pos h2, if_neg h1, if_neg (Int32.not_lt.mpr h2)]
        simp only [Option.bind_some]
        rw [if_neg e10]
        rcases T_find (PC_tc hTC.1) hTR.1 v with ⟨a1, a2, -⟩ | ⟨i, j, q, hi, hj, hq, e1, e2, e3, a1, a2⟩
        · exact ⟨-1, by rw [bs a1, if_pos rfl], by rw [bs a2, if_pos rfl]⟩
        · have h512 := hTC.1.1.2.2
          have hlp := hTR.1.1.2.2
          have c0 : (nI j).toNatClampNeg = j := nI_clamp (by omega)
          have i0 : ∀ M, M = 520 → ¬ (nI j < 0 ∨ M ≤ j) := fun M hM => by
            have := nI_in (c := j) (N := 520) (by omega) (by omega)
            rw [c0] at this
            rw [hM]; exact this
          rw [bs a1, if_neg (nI_m1 (by omega)), bs a2, if_neg (nI_m1 (by omega)), c0]
          have x1 : (g_parts g).2.1.2 i = (g_RpGroup r).2 j := (congrArg (fun z : PQ => z.2.1) (e2.trans e3.symm))
          have x2 : (g_parts g).2.2.2.2.1.2 i = (g_RpPosition r).2 j := (congrArg (fun z : PQ => z.2.2.2.2) (e2.trans e3.symm))
          have x3 : (g_parts g).2.2.1.2 i = (g_RpLength r).2 j := (congrArg (fun z : PQ => z.2.2.1) (e2.trans e3.symm))
          have x4 : (g_parts g).2.2.2.1.2 i = (g_RpRow r).2 j := (congrArg (fun z : PQ => z.2.2.2.1) (e2.trans e3.symm))
          by_cases b0 : p = 0
          · refine ⟨((g_RpGroup r).2 j).toInt64, ?_, ?_⟩
            · rw [if_pos b0, bs (P_groupAt hTC.1.1.l hi), x1]
            · rw [if_pos b0, if_neg (i0 _ (ri_pGroup hR))]
          · rw [if_neg b0, if_neg b0]
            by_cases b1 : p = 1
            · refine ⟨(g_RpPosition r).2 j, ?_, ?_⟩
              · rw [if_pos b1, bs (P_positionAt hTC.1.1.l hi), x2]
              · rw [if_pos b1, if_neg (i0 _ (ri_pPosition hR))]
            · rw [if_neg b1, if_neg b1]
              by_cases b2 : p = 2
              · refine ⟨((g_RpLength r).2 j).toInt64, ?_, ?_⟩
                · rw [if_pos b2, bs (P_lengthAt hTC.1.1.l hi), x3]
                · rw [if_pos b2, if_neg (i0 _ (ri_pLength hR))]
              · rw [if_neg b2, if_neg b2]
                by_cases b3 : p = 3
                · refine ⟨((g_RpRow r).2 j).toInt64, ?_, ?_⟩
                  · rw [if_pos b3, bs (P_rowAt hTC.1.1.l hi), x4]
                  · rw [if_pos b3, if_neg (i0 _ (ri_pRow hR))]
                · rw [if_neg b3, if_neg b3]
                  by_cases b4 : p = 4
                  · rw [if_pos b4, if_pos b4]
                    obtain ⟨_, _, l, w, _, _, _, _, _, p6, p7, p8, p9, p10⟩ := (hA.1 q hq).1
                    have k1 := C_isPartWhole (g := g) (t := tri (g_medium g)) (g_mk3 hC) hn hTC.1 hi (l := l) (w := w) (by rw [e2]; exact p6) p7 (by rw [e2]; exact p8) p10
                    have k2 := R_isWholePart (f := (tri (g_medium g)).1) hR (by rw [ht]; rfl) hn.2 hTR.1 hj (l := l) (w := w) (by rw [e3]; exact p6) p7 (by rw [e3]; exact p8) p10
                    rw [e2] at k1
                    rw [e3] at k2
                    rw [bs k1, bs k2]
                    by_cases z : wholeP (tri (g_medium g)).1 q.1 l w = 0
                    · exact ⟨0, by rw [if_pos z], by rw [if_pos z]⟩
                    · exact ⟨1, by rw [if_neg z], by rw [if_neg z]⟩
                  · obtain ⟨w1, w2⟩ := w_named hR hTC.2.1 hTC.2.2.1 hTR.2 hL hA v
                    exact ⟨_, by rw [if_neg b4, bs w1], by rw [if_neg b4, bs w2]⟩
      · exact ⟨-2, by rw [if_neg h1, if_neg h2], by rw [if_neg h1, if_pos (Int32.not_le.mp h2)]; rfl⟩
theorem byteIx {w i : Nat} (hi : i < 2 ^ 20) : (((32 * ((nI w + 1) + (nI i / 31))) + 1) + (jrem (nI i) 31)) = nI (32 * (w + 1 + i / 31) + (1 + i % 31)) := by
  unfold jrem
  rw [n31, pk_rem (by omega) (by omega) (by omega), pk_div (by omega) (by omega) (by omega), nI_1, nI_add, n32, pk_mul, nI_1, nI_add, Nat.add_assoc]
theorem C_byteOfPart {n : Nat} {g : St_Log} {lp : List PQ} {t : T3} (hm : g_medium g = mk3 n t) (hn : 4 ≤ n ∧ n ≤ 512) (hP : PC n (g_parts g) lp) {i : Nat} (hi : i < lp.length) {l w : Nat} (hl2 : l ≤ 155) (hw : (crow (g_parts g) i).2.2.2.1 = nI w) (hw2 : w + 1 + bod l ≤ n) {k : Nat} (hk : k < l) : m_Log_byteOfPart g (nI i) (nI k) = some (t.1 (32 * (w + 1 + k / 31) + (1 + k % 31)) &&& 255) := by
  have a1 : m_Parts_rowAt (g_parts g) (nI i) = some (nI w) := by rw [P_rowAt hP.1.l hi]; exact congrArg some hw
  have hb : k / 31 < bod l := by unfold bod; omega
  have a2 : m_Medium_at (mk3 n t) ((nI w + 1) + (nI k / 31)) (1 + (jrem (nI k) 31)) = some (t.1 (32 * (w + 1 + k / 31) + (1 + k % 31)) &&& 255) := by
    unfold jrem
    rw [n31, pk_rem (by omega) (by omega) (by omega), pk_div (by omega) (by omega) (by omega), nI_1, nI_add, n1, nI_add]
    exact c_at (mk3_ok hn.1 hn.2 t) (by omega) (by omega)
  unfold m_Log_byteOfPart
  rw [hm, bs a1, bs a2]
theorem R_byteOf {n : Nat} {r : St_Ref} {f : Nat → Int32} (hR : RI n r) (hf : (g_Rmedium r).2 = f) (hn : n ≤ 512) {j : Nat} (hj : j < 520) {l w : Nat} (hl2 : l ≤ 155) (hw : (rrow r j).2.2.2.1 = nI w) (hw2 : w + 1 + bod l ≤ n) {k : Nat} (hk : k < l) : m_RRef_byteOf r (nI j) (nI k) = some (f (32 * (w + 1 + k / 31) + (1 + k % 31)) &&& 255) := by
  have hb : k / 31 < bod l := by unfold bod; omega
  have er : (g_RpRow r).2 j = nI w := hw
  unfold m_RRef_byteOf
  rw [show (g_RpRow r).1 = 520 from ri_pRow hR, if_neg (nI_in hj (by omega)), nI_clamp (by omega), er, byteIx (by omega), show (g_Rmedium r).1 = 16384 from (ri_medium hR).1, if_neg (nI_in (by omega) (by omega)), nI_clamp (by omega), hf]
theorem st_partByte {n : Nat} {g : St_Log} {r : St_Ref} (h : Rel n g r) (v p : Int32) : ∃ a, m_Log_partByte g v p = some a ∧ m_RRef_partByte r v p = some a := by
  obtain ⟨⟨hn, hC, hR, ht, ho, hts⟩, hT⟩ := id h
  unfold m_Log_partByte m_RRef_partByte
  by_cases hop : g_isOpen g = 0
  · obtain ⟨b, hb⟩ := R_fp_any hR v
    exact ⟨-3, by rw [if_pos hop], by rw [bs hb, if_pos (by rw [← ho]; exact hop)]⟩
  · have ho1 := open_1 hC hop
    have hop' : ¬ g_Ropen r = 0 := by rw [← ho]; exact hop
    obtain ⟨lp, lk, lm, L, GP, GM, hTC, hTR, hL, hA, hN, hH⟩ := hT ho1
    rw [if_neg hop]
    rcases T_find (PC_tc hTC.1) hTR.1 v with ⟨a1, a2, -⟩ | ⟨i, j, q, hi, hj, hq, e1, e2, e3, a1, a2⟩
    · exact ⟨-1, by rw [bs a1, if_pos rfl], by rw [bs a2, if_neg hop', if_pos rfl]⟩
    · have h512 := hTC.1.1.2.2
      have hlp := hTR.1.1.2.2
      obtain ⟨_, _, l, w, _, _, _, _, _, p6, p7, p8, p9, p10⟩ := (hA.1 q hq).1
      have x3 : (g_RpLength r).2 j = nI l := by rw [← p6, ← e3]; rfl
      have x3c : (g_parts g).2.2.1.2 i = nI l := by rw [← p6, ← e2]; rfl
      rw [bs a1, if_neg (nI_m1 (by omega)), bs a2, if_neg hop', if_neg (nI_m1 (by omega)), show (g_RpLength r).1 = 520 from ri_pLength hR, if_neg (nI_in (by omega) (by omega)), nI_clamp (by omega), x3]
      have ln := P_lengthAt hTC.1.1.l hi
      rw [x3c] at ln
      unfold m_RRef_isIn
      by_cases h1 : p < 0
      · exact ⟨-1, by rw [if_pos h1], by rw [if_pos h1]; rfl⟩
      · rw [if_neg h1, bs ln, if_neg h1]
        by_cases hl0 : l = 0
        · subst hl0
          refine ⟨-1, ?_, ?_⟩
          · rw [if_neg (show ¬ p < nI 0 from h1)]
          · rw [if_pos (show nI 0 - 1 < p from Int32.lt_of_lt_of_le (by decide) (Int32.not_lt.mp h1))]; rfl
        · have em : nI l - 1 = nI (l - 1) := by rw [n1, pk_sub (by omega)]
          rw [em]
          by_cases h2 : p < nI l
          · have h3 : ¬ nI (l - 1) < p := fun e => absurd ((lt_pred (by omega) (by omega)).mp e) (Int32.not_le.mpr h2)
            rcases pk_ix p (n := l) (by omega) with z | z | ⟨k, hk, rfl⟩
            · exact absurd z h1
            · exact absurd h2 (Int32.not_lt.mpr z)
            · have k1 := C_byteOfPart (g := g) (t := tri (g_medium g)) (g_mk3 hC) hn hTC.1 hi (l := l) (w := w) p7 (by rw [e2]; exact p8) p10 hk
              have k2 := R_byteOf (f := (tri (g_medium g)).1) hR (by rw [ht]; rfl) hn.2 (j := j) (by omega) (l := l) (w := w) p7 (by rw [e3]; exact p8) p10 hk
              refine ⟨_, by rw [if_pos h2, bs k1], ?_⟩
              rw [if_neg h3, Option.bind_some, if_neg e10, bs k2]
          · have h3 : nI (l - 1) < p := (lt_pred (by omega) (by omega)).mpr (Int32.not_lt.mp h2)
            exact ⟨-1, by rw [if_neg h2], by rw [if_pos h3]; rfl⟩
theorem C_tableOf {g : St_Log} (v a b : Int32) (h1 : m_Marks_find (g_kept g) v = some a) (h2 : m_Marks_find (g_made g) v = some b) : m_Log_tableOf g v = some (if a = (-1) then (if b = (-1) then 0 else 2) else 1) := by
  unfold m_Log_tableOf
  rw [bs h1]
  by_cases ha : a = (-1)
  · rw [if_pos ha, if_pos ha, bs h2]
    split <;> rfl
  · rw [if_neg ha, if_neg ha]
/-- entry k of a MARK's list, or how many -/
theorem mk_read {n : Nat} {r : St_Ref} {N P : Nat} {x : St_Marks} (hR : RI n r) (hx : ML N x P) {i j c : Nat} (hi : i < P) (hj : j < 270) (e : qrow r j = mrow x i) (hc : (mrow x i).2.1 = nI c) (hc1 : 1 ≤ c ∧ c ≤ 12) (p : Int32) : ∃ a, (if p = (-1) then ((m_Marks_countAt x (nI i)).bind fun q7 => some q7) else ((m_Marks_partAt x (nI i) p).bind fun q6 => some q6)) = some a ∧ (if nI j < 0 ∨ (g_RmCount r).1 ≤ (nI j).toNatClampNeg then none else (m_RRef_isIn p (-1) (((g_RmCount r).2 (nI j).toNatClampNeg) - 1)).bind fun q5 => if q5 = 0 then (some (-1)) else (if p = (-1) then (if nI j < 0 ∨ (g_RmCount r).1 ≤ (nI j).toNatClampNeg then none else some ((g_RmCount r).2 (nI j).toNatClampNeg)) else (if ((12 * nI j) + p) < 0 ∨ (g_RmPart r).1 ≤ (((12 * nI j) + p)).toNatClampNeg then none else some ((g_RmPart r).2 (((12 * nI j) + p)).toNatClampNeg)))) = some a := by
  have l1 : (g_RmCount r).1 = 270 := ri_mCount hR
  have l2 : (g_RmPart r).1 = 3240 := ri_mPart hR
  have ec : (g_RmCount r).2 j = nI c := (congrArg (fun z : MKQ => z.2.1) e).trans hc
  have ecx : x.2.1.2 i = nI c := hc
  have el : mls (nI c) (g_RmPart r).2 j = mls (nI c) x.2.2.2.1.2 i := by
    have h2 : mls ((g_RmCount r).2 j) (g_RmPart r).2 j = mls (x.2.1.2 i) x.2.2.2.1.2 i := congrArg (fun z : MKQ => z.2.2.2.2) e
    rw [ec, ecx] at h2
    exact h2
  have em : nI c - 1 = nI (c - 1) := by rw [n1, pk_sub (by omega)]
  have i0 : ¬ (nI j < 0 ∨ 270 ≤ (nI j).toNatClampNeg) := nI_in hj (by omega)
  have ca := M_countAt hx hi
  rw [ecx] at ca
  rw [l1, if_neg i0, nI_clamp (by omega), ec, em]
  unfold m_RRef_isIn
  by_cases hp : p = (-1)
  · subst hp
    refine ⟨nI c, by rw [if_pos rfl, bs ca], ?_⟩
    rw [if_neg (by decide), if_neg (fun e => absurd ((lt_pred (by omega) (by omega)).mp e) (Int32.not_le.mpr (Int32.lt_of_lt_of_le (by decide) (nI_pos' (n := c) (by omega))))), Option.bind_some, if_neg e10, if_pos rfl]
    rw [nI_clamp (by omega)] at i0
    rw [if_neg i0]
  · rw [if_neg hp]
    have pa := M_partAt hx hi ecx hc1.2 p
    by_cases h1 : p < (-1)
    · refine ⟨-1, ?_, by rw [if_pos h1]; rfl⟩
      rw [bs pa, if_pos (Or.inl (Int32.lt_trans h1 (by decide)))]
    · rw [if_neg h1]
      have h0 : ¬ p < 0 := by
        intro z
        have a1 := Int32.lt_iff_toInt_lt.mp z
        have a2 : ¬ p.toInt < Int32.toInt (-1) := fun e => h1 (Int32.lt_iff_toInt_lt.mpr e)
        have a3 : Int32.toInt (-1) = -1 := by decide
        have a4 : Int32.toInt 0 = 0 := by decide
        exact hp (Int32.toInt_inj.mp (by omega))
      rcases pk_ix p (n := c) (by omega) with z | z | ⟨k, hk, rfl⟩
      · exact absurd z h0
      · refine ⟨-1, by rw [bs pa, if_pos (Or.inr z)], ?_⟩
        rw [if_pos ((lt_pred (by omega) (by omega)).mpr z)]; rfl
      · refine ⟨x.2.2.2.1.2 (12 * i + k), ?_, ?_⟩
        · rw [bs pa, if_neg (fun z => z.elim h0 (nI_ge hk (by omega))), nI_clamp (by omega)]
        · rw [if_neg (nI_nlt (by omega) (by omega)), Option.bind_some, if_neg e10, if_neg hp, n12, pk_mul, nI_add, l2, if_neg (nI_in (by omega) (by omega)), nI_clamp (by omega), mls_eq hc1.2 el hk]
theorem st_markOf {n : Nat} {g : St_Log} {r : St_Ref} (h : Rel n g r) (v p : Int32) : ∃ a, m_Log_markOf g v p = some a ∧ m_RRef_markOf r v p = some a := by
  obtain ⟨⟨hn, hC, hR, ht, ho, hts⟩, hT⟩ := id h
  unfold m_Log_markOf m_RRef_markOf
  by_cases hop : g_isOpen g = 0
  · obtain ⟨b, hb⟩ := R_fm_any hR v
    exact ⟨-3, by rw [if_pos hop], by rw [bs hb, if_pos (by rw [← ho]; exact hop)]⟩
  · have ho1 := open_1 hC hop
    have hop' : ¬ g_Ropen r = 0 := by rw [← ho]; exact hop
    obtain ⟨lp, lk, lm, L, GP, GM, hTC, hTR, hL, hA, hN, hH⟩ := hT ho1
    have hML := hTR.2.2.1
    have hk2 := hTC.2.1.1.1.2.2.1
    have hm6 := hTC.2.2.1.1.1.2.2.1
    rw [if_neg hop]
    rcases F3 hR hTC.2.1 hTC.2.2.1 hTR.2 hL hA.2.2.2.2.1 v with ⟨a1, a2, a3, a4⟩ | ⟨i, j, hi, hj, a1, a2, a3, a4, a5, a6⟩ | ⟨i, j, hi, hj, a1, a2, a3, a4, a5, a6⟩
    · refine ⟨-1, ?_, by rw [bs a3, if_neg hop', if_pos rfl]⟩
      rw [bs (C_tableOf v _ _ a1 a2)]
      rfl
    · obtain ⟨_, c, w, _, _, _, p4, p5, p6, _⟩ := (hA.2.1 _ a5).1
      obtain ⟨a, b1, b2⟩ := mk_read hR hTC.2.1.1.1 hi (by omega) a4 p4 ⟨p5, p6⟩ p
      refine ⟨a, ?_, ?_⟩
      · rw [bs (C_tableOf v _ _ a1 a2), if_neg (nI_m1 (by omega)), if_pos rfl, bs a1]
        exact b1
      · rw [bs a3, if_neg hop', if_neg (nI_m1 (by omega))]
        exact b2
    · obtain ⟨_, c, _, _, _, p4, p5, p6, _⟩ := (hA.2.2.1 _ a5).1
      obtain ⟨a, b1, b2⟩ := mk_read hR hTC.2.2.1.1.1 hi (by omega) a4 p4 ⟨p5, p6⟩ p
      refine ⟨a, ?_, ?_⟩
      · rw [bs (C_tableOf v _ _ a1 a2), if_pos rfl, if_neg (nI_m1 (by omega)), if_neg (by decide), if_pos rfl, bs a2]
        exact b1
      · rw [bs a3, if_neg hop', if_neg (nI_m1 (by omega))]
        exact b2
-- marks, told
theorem lst_rank {α : Type} {f : Nat → α} {p : α → Bool} {P i : Nat} (hi : i ≤ P) (h1 : ∀ k, k < i → p (f k) = true) (h2 : ∀ k, i ≤ k → k < P → p (f k) = false) : (lst f P).countP p = i := by
  obtain ⟨b, rfl⟩ : ∃ b, P = i + b := ⟨P - i, by omega⟩
  rw [lst_app, List.countP_append]
  have e1 : (lst f i).countP p = i := by
    have : (lst f i).countP p = (lst f i).length := by
      rw [List.countP_eq_length]
      intro z hz
      obtain ⟨k, hk, rfl⟩ := mem_lst.mp hz
      exact h1 k hk
    rw [this, lst_len]
  have e2 : (lst (fun k => f (i + k)) b).countP p = 0 := by
    rw [List.countP_eq_zero]
    intro z hz
    obtain ⟨k, hk, rfl⟩ := mem_lst.mp hz
    show ¬ p (f (i + k)) = true
    rw [h2 (i + k) (by omega) (by omega)]
    decide
  rw [e1, e2]
  rfl
def rkB (v : Int32) (m : MKQ) : Bool := decide (m.2.2.1 ≠ (-1) ∧ m.1 < v)
theorem R_mk39 {n : Nat} {r : St_Ref} {M : Nat} (hR : RI n r) (hm : g_Rmarks r = nI M) (hM : M ≤ 270) (kk : Int32 → Int32 → Int32 → Option Int32) (p : Int32) {k : Nat} (hk : k < M) : ∀ (d fuel i a : Nat), i + d = M → d < fuel → m_RRef_marks_L39 r kk fuel p (nI k) (nI a) (nI i) = kk p (nI k) (nI (a + (lst (fun j => qrow r (i + j)) d).countP (rkB (qrow r k).1))) := by
  have l1 : (g_RmRow r).1 = 270 := ri_mRow hR
  have l2 : (g_RmNumber r).1 = 270 := ri_mNumber hR
  have ck : (nI k).toNatClampNeg = k := nI_clamp (by omega)
  intro d
  induction d with
  | zero =>
    intro fuel i a hi hf
    obtain ⟨fu, rfl, -⟩ := fu1 hf
    rw [m_RRef_marks_L39, hm, if_pos (nI_le (by omega) (by omega))]; rfl
  | succ d ih =>
    intro fuel i a hi hf
    obtain ⟨fu, rfl, hf'⟩ := fu1 hf
    have e : (fun j => qrow r (i + (j + 1))) = fun j => qrow r (i + 1 + j) := funext fun j => by rw [show i + (j + 1) = i + 1 + j by omega]
    have ci : (nI i).toNatClampNeg = i := nI_clamp (by omega)
    have za : nI a + 0 = nI a := by
      rw [n0, nI_add]; rfl
    have i0 : ¬ (nI i < 0 ∨ 270 ≤ i) := by
      have := nI_in (c := i) (N := 270) (by omega) (by omega)
      rw [ci] at this
      exact this
    have k0 : ¬ (nI k < 0 ∨ 270 ≤ k) := by
      have := nI_in (c := k) (N := 270) (by omega) (by omega)
      rw [ck] at this
      exact this
    rw [m_RRef_marks_L39, hm, if_neg (nI_ge (by omega) (by omega)), l1, l2, ci, ck, if_neg i0, lst_cons, e, List.countP_cons, nI_1 i, nI_1 a, za]
    show _ = kk p (nI k) (nI (a + (_ + if rkB (qrow r k).1 (qrow r i) = true then 1 else 0)))
    by_cases h1 : (g_RmRow r).2 i = (-1)
    · have hb : ¬ rkB (qrow r k).1 (qrow r i) = true := by
        unfold rkB
        rw [decide_eq_true_eq]
        exact fun z => z.1 h1
      rw [if_pos h1, ih fu (i + 1) a (by omega) (by omega), if_neg hb]
      rfl
    · rw [if_neg h1, if_neg i0, if_neg k0]
      by_cases h2 : (g_RmNumber r).2 k ≤ (g_RmNumber r).2 i
      · have hb : ¬ rkB (qrow r k).1 (qrow r i) = true := by
          unfold rkB
          rw [decide_eq_true_eq]
          exact fun z => absurd z.2 (Int32.not_lt.mpr h2)
        rw [if_pos h2, ih fu (i + 1) a (by omega) (by omega), if_neg hb]
        rfl
      · have hb : rkB (qrow r k).1 (qrow r i) = true := by
          unfold rkB
          rw [decide_eq_true_eq]
          exact ⟨h1, Int32.not_le.mp h2⟩
        rw [if_neg h2, ih fu (i + 1) (a + 1) (by omega) (by omega), if_pos hb]
        congr 2
        omega
theorem R_mk25 {n : Nat} {r : St_Ref} {L : List MKQ} (hR : RI n r) (hM : MR r L) (p : Int32) : ∀ (d fuel k : Nat), k + d = L.length → d < fuel → (m_RRef_marks_L25 r fuel p (nI k) = some (-1) ∧ ∀ j, k ≤ j → j < L.length → (qrow r j).2.2.1 ≠ (-1) → nI (L.countP (rkB (qrow r j).1)) ≠ p) ∨ ∃ j, k ≤ j ∧ j < L.length ∧ (qrow r j).2.2.1 ≠ (-1) ∧ nI (L.countP (rkB (qrow r j).1)) = p ∧ m_RRef_marks_L25 r fuel p (nI k) = some (qrow r j).1 := by
  have hm := hM.1
  have hl := hM.2.1
  have l1 : (g_RmRow r).1 = 270 := ri_mRow hR
  have l2 : (g_RmNumber r).1 = 270 := ri_mNumber hR
  have eL : lst (fun j => qrow r (0 + j)) L.length = L := by
    rw [lst_congr (g := qrow r) (fun j _ => by rw [Nat.zero_add])]; exact hM.2.2.1
  intro d
  induction d with
  | zero =>
    intro fuel k hk hf
    obtain ⟨fu, rfl, -⟩ := fu1 hf
    left
    refine ⟨?_, fun j h1 h2 => absurd h2 (by omega)⟩
    rw [m_RRef_marks_L25, hm, if_pos (nI_le (by omega) (by omega))]
  | succ d ih =>
    intro fuel k hk hf
    obtain ⟨fu, rfl, hf'⟩ := fu1 hf
    have ck : (nI k).toNatClampNeg = k := nI_clamp (by omega)
    have k0 : ¬ (nI k < 0 ∨ 270 ≤ k) := by
      have := nI_in (c := k) (N := 270) (by omega) (by omega)
      rw [ck] at this
      exact this
    have h39 := R_mk39 hR hm hl (fun (v1_11 : Int32) (v3_12 : Int32) (v4_13 : Int32) => if v3_12 < 0 ∨ (g_RmRow r).1 ≤ (v3_12).toNatClampNeg then none else if ((g_RmRow r).2 (v3_12).toNatClampNeg) = (-1) then (m_RRef_marks_L25 r fu v1_11 (v3_12 + 1)) else (if v4_13 = v1_11 then (if v3_12 < 0 ∨ (g_RmNumber r).1 ≤ (v3_12).toNatClampNeg then none else some ((g_RmNumber r).2 (v3_12).toNatClampNeg)) else (m_RRef_marks_L25 r fu v1_11 (v3_12 + 1)))) p (k := k) (by omega) L.length FU 0 0 (by omega) (FU_lt (by omega))
    rw [eL, Nat.zero_add] at h39
    have run : m_RRef_marks_L25 r (fu + 1) p (nI k) = (if (qrow r k).2.2.1 = (-1) then m_RRef_marks_L25 r fu p (nI (k + 1)) else (if nI (L.countP (rkB (qrow r k).1)) = p then some (qrow r k).1 else m_RRef_marks_L25 r fu p (nI (k + 1)))) := by
      rw [m_RRef_marks_L25, hm, if_neg (nI_ge (by omega) (by omega))]
      refine Eq.trans h39 ?_
      rw [l1, l2, ck, if_neg k0, nI_1]
      by_cases z1 : (g_RmRow r).2 k = (-1)
      · rw [if_pos z1, if_pos (show (qrow r k).2.2.1 = (-1) from z1)]
      · rw [if_neg z1, if_neg (show ¬ (qrow r k).2.2.1 = (-1) from z1)]
        by_cases z2 : nI (L.countP (rkB (qrow r k).1)) = p
        · rw [if_pos z2, if_pos z2]
          exact if_neg k0
        · rw [if_neg z2, if_neg z2]
    by_cases z1 : (qrow r k).2.2.1 = (-1)
    · rw [run, if_pos z1]
      rcases ih fu (k + 1) (by omega) (by omega) with ⟨a1, a2⟩ | ⟨j, a1, a2, a3, a4, a5⟩
      · left
        refine ⟨a1, fun j j1 j2 j3 => ?_⟩
        by_cases hj : j = k
        · rw [hj] at j3; exact absurd z1 j3
        · exact a2 j (by omega) j2 j3
      · right
        exact ⟨j, by omega, a2, a3, a4, a5⟩
    · rw [run, if_neg z1]
      by_cases z2 : nI (L.countP (rkB (qrow r k).1)) = p
      · rw [if_pos z2]
        right
        exact ⟨k, by omega, by omega, z1, z2, rfl⟩
      · rw [if_neg z2]
        rcases ih fu (k + 1) (by omega) (by omega) with ⟨a1, a2⟩ | ⟨j, a1, a2, a3, a4, a5⟩
        · left
          refine ⟨a1, fun j j1 j2 j3 => ?_⟩
          by_cases hj : j = k
          · rw [hj]; exact z2
          · exact a2 j (by omega) j2 j3
        · right
          exact ⟨j, by omega, a2, a3, a4, a5⟩
theorem st_marks {n : Nat} {g : St_Log} {r : St_Ref} (h : Rel n g r) (p : Int32) : ∃ a, m_Log_marks g p = some a ∧ m_RRef_marks r p = some a := by
  obtain ⟨⟨hn, hC, hR, ht, ho, hts⟩, hT⟩ := id h
  unfold m_Log_marks m_RRef_marks
  by_cases hop : g_isOpen g = 0
  · exact ⟨-3, by rw [if_pos hop], by rw [if_pos (by rw [← ho]; exact hop)]⟩
  · have ho1 := open_1 hC hop
    have hop' : ¬ g_Ropen r = 0 := by rw [← ho]; exact hop
    obtain ⟨lp, lk, lm, L, GP, GM, hTC, hTR, hL, hA, hN, hH⟩ := hT ho1
    have hML := hTR.2.2.1
    have hk2 := hTC.2.1.1.1.2.2.1
    have hsz : m_Marks_size (g_kept g) = some (nI lk.length) := by unfold m_Marks_size; rw [hTC.2.1.1.1.2.1]
    rw [if_neg hop, if_neg hop', bs (R_count hR hn.2 hTR.2 hL hA).2]
    by_cases hp : p = (-1)
    · exact ⟨_, by rw [if_pos hp, bs hsz], by rw [if_pos hp]⟩
    · rw [if_neg hp, if_neg hp]
      have hkr : ∀ m, m ∈ lk → m.2.2.1 ≠ (-1) := by
        intro m hm e
        obtain ⟨_, _, w, _, _, _, _, _, _, p7, _, p9⟩ := (hA.2.1 _ hm).1
        rw [p7] at e
        exact nI_m1 (by omega) e
      have hmr : ∀ m, m ∈ lm → m.2.2.1 = (-1) := by
        intro m hm
        obtain ⟨_, _, _, _, _, _, _, _, p7, _⟩ := (hA.2.2.1 _ hm).1
        exact p7
      have hrank : ∀ i, i < lk.length → L.countP (rkB (mrow (g_kept g) i).1) = i := by
        intro i hi
        have e2 : lm.countP (rkB (mrow (g_kept g) i).1) = 0 := by
          rw [List.countP_eq_zero]
          intro m hm
          unfold rkB
          rw [decide_eq_true_eq]
          exact fun z => z.1 (hmr m hm)
        rw [hL.countP_eq, List.countP_append, e2, Nat.add_zero]
        have := lst_rank (f := mrow (g_kept g)) (p := rkB (mrow (g_kept g) i).1) (P := lk.length) (i := i) (by omega) (fun k hk => by
          unfold rkB
          rw [decide_eq_true_eq]
          exact ⟨hkr _ (MC_mem hTC.2.1 (by omega)), hTC.2.1.1.2 k i hk hi⟩) (fun k k1 k2 => by
          unfold rkB
          rw [decide_eq_false_iff_not]
          intro z
          rcases Nat.lt_or_ge i k with q | q
          · exact Int32.lt_irrefl (Int32.lt_trans (hTC.2.1.1.2 i k q k2) z.2)
          · have : k = i := by omega
            rw [this] at z
            exact Int32.lt_irrefl z.2)
        rw [hTC.2.1.2] at this
        exact this
      have hof : ∀ j, j < L.length → (qrow r j).2.2.1 ≠ (-1) → ∃ i, i < lk.length ∧ mrow (g_kept g) i = qrow r j := by
        intro j hj hne
        rcases List.mem_append.mp (hL.mem_iff.mp (MR_mem hTR.2 hj)) with z | z
        · exact MC_ex hTC.2.1 z
        · exact absurd (hmr _ z) hne
      have run := R_mk25 hR hTR.2 p L.length FU 0 (by omega) (FU_lt (by omega))
      rcases pk_ix p (n := lk.length) (by omega) with z | z | ⟨i, hi, rfl⟩
      · refine ⟨-1, by rw [bs (M_numberAt0 hTC.2.1.1.1 (Or.inl z))], ?_⟩
        rcases run with ⟨a1, -⟩ | ⟨j, -, a2, a3, a4, -⟩
        · exact a1
        · obtain ⟨i, hi, e⟩ := hof j a2 a3
          rw [← e, hrank i hi] at a4
          rw [← a4] at z
          exact absurd z (nI_pos (by omega))
      · refine ⟨-1, by rw [bs (M_numberAt0 hTC.2.1.1.1 (Or.inr z))], ?_⟩
        rcases run with ⟨a1, -⟩ | ⟨j, -, a2, a3, a4, -⟩
        · exact a1
        · obtain ⟨i, hi, e⟩ := hof j a2 a3
          rw [← e, hrank i hi] at a4
          rw [← a4] at z
          exact absurd z (nI_ge hi (by omega))
      · refine ⟨(mrow (g_kept g) i).1, by rw [bs (M_numberAt hTC.2.1.1.1 hi)]; rfl, ?_⟩
        rcases run with ⟨-, a2⟩ | ⟨j, -, a2, a3, a4, a5⟩
        · obtain ⟨j, hj, e⟩ := MR_ex hTR.2 (hL.mem_iff.mpr (List.mem_append.mpr (Or.inl (MC_mem hTC.2.1 hi))))
          refine absurd ?_ (a2 j (by omega) hj (by rw [e]; exact hkr _ (MC_mem hTC.2.1 hi)))
          rw [e, hrank i hi]
        · obtain ⟨i2, hi2, e⟩ := hof j a2 a3
          rw [← e, hrank i2 hi2] at a4
          have : i2 = i := (nI_eq (by omega) (by omega)).mp a4
          subst this
          refine Eq.trans (show m_RRef_marks_L25 r FU (nI i2) 0 = _ from a5) ?_
          rw [e]
theorem st_told {n : Nat} {g : St_Log} {r : St_Ref} (h : Rel n g r) (p : Int32) : ∃ a r', m_Log_told g p = some a ∧ m_RRef_told r p = some (a, r') ∧ Rel n g r' := by
  obtain ⟨⟨hn, hC, hR, ht, ho, hts⟩, hT⟩ := id h
  have hm := ci_medium hC
  have t3 : (g_medium g).2.2.2 = g_Rwritten r := congrArg (fun z : (Nat → Int32) × Int32 × Int32 => z.2.2) ht
  unfold m_Log_told m_RRef_told m_RRef_isIn
  by_cases h1 : p < 0
  · exact ⟨-2, r, by rw [if_pos h1], by rw [if_pos h1]; rfl, h⟩
  · by_cases h2 : p < 17
    · have h16 : ¬ (16 : Int32) < p := by
        intro z
        have := Int32.lt_iff_toInt_lt.mp z
        have := Int32.lt_iff_toInt_lt.mp h2
        have a3 : Int32.toInt 16 = 16 := by decide
        have a4 : Int32.toInt 17 = 17 := by decide
        omega
      rw [if_neg h1, if_pos h2, if_neg h1, if_neg h16]
      simp only [Option.bind_some]
      rw [if_neg e10]
      by_cases b0 : p = 0
      · have h3n : ¬ (3 : Int32) ≤ p := by rw [b0]; decide
        rw [if_pos b0, if_neg h3n, if_pos b0]
        by_cases hop : g_isOpen g = 0
        · have hop' : g_Ropen r = 0 := by rw [← ho]; exact hop
          exact ⟨0, r, by rw [if_pos hop], by rw [if_pos hop'], h⟩
        · have hop' : ¬ g_Ropen r = 0 := by rw [← ho]; exact hop
          exact ⟨1, r, by rw [if_neg hop], by rw [if_neg hop'], h⟩
      · rw [if_neg b0]
        by_cases b1 : p = 1
        · have h3n : ¬ (3 : Int32) ≤ p := by rw [b1]; decide
          rw [if_pos b1, if_neg h3n, if_neg b0, if_pos b1]
          refine ⟨nI n, r, ?_, by rw [show g_Rrows r = nI n from ri_rows hR], h⟩
          unfold m_Medium_rows
          rw [Option.bind_some, hm.1.1]
        · rw [if_neg b1]
          by_cases b2 : p = 2
          · have h3n : ¬ (3 : Int32) ≤ p := by rw [b2]; decide
            rw [if_pos b2, if_neg h3n, if_neg b0, if_neg b1]
            refine ⟨g_Rwritten r, r, ?_, rfl, h⟩
            unfold m_Medium_written
            rw [Option.bind_some, t3]
          · rw [if_neg b2]
            have h3 : (3 : Int32) ≤ p := by
              rw [Int32.le_iff_toInt_le]
              have a0 : ¬ p.toInt < Int32.toInt 0 := fun e => h1 (Int32.lt_iff_toInt_lt.mpr e)
              have d0 : Int32.toInt 0 = 0 := by decide
              have d1 : Int32.toInt 1 = 1 := by decide
              have d2 : Int32.toInt 2 = 2 := by decide
              have d3 : Int32.toInt 3 = 3 := by decide
              have k0 : p.toInt ≠ Int32.toInt 0 := fun e => b0 (Int32.toInt_inj.mp e)
              have k1 : p.toInt ≠ Int32.toInt 1 := fun e => b1 (Int32.toInt_inj.mp e)
              have k2 : p.toInt ≠ Int32.toInt 2 := fun e => b2 (Int32.toInt_inj.mp e)
              omega
            rw [if_pos h3]
            by_cases hop : g_isOpen g = 0
            · have hop' : g_Ropen r = 0 := by rw [← ho]; exact hop
              exact ⟨0, r, by rw [if_pos hop], by rw [if_pos hop'], h⟩
            · have ho1 := open_1 hC hop
              have hop' : ¬ g_Ropen r = 0 := by rw [← ho]; exact hop
              obtain ⟨lp, lk, lm, L, GP, GM, hTC, hTR, hL, hA, hN, hH⟩ := hT ho1
              obtain ⟨ow, S, w1, w2, w3, w4, w5, w6⟩ := id hH
              rw [if_neg hop, if_neg hop']
              unfold m_Log_toldOpen
              by_cases b3 : p = 3
              · rw [if_pos b3, if_pos b3]
                obtain ⟨f, u1, u2⟩ := used_bits hR hn.2 hA hTC.2.2.2 hTR.1 hTR.2 hL
                have k1 := C_countFree (x := g_room g) hTC.2.2.2.1 hn
                have k2 := R_cF_L (g := s_Rused r (512, f)) (f := f) (by simp only [qR_used]) (by simp only [qR_rows]; exact ri_rows hR) hn.2 (n - 2) FU 0 2 (by omega) (FU_lt (by omega))
                rw [freeF_congr (b := f) (b' := (g_room g).2) (n - 2) 2 (fun j j1 j2 => u2 j j1 (by omega)), Nat.zero_add] at k2
                refine ⟨nI (freeF (g_room g).2 (n - 2) 2), s_Rused r (512, f), by rw [bs k1]; rfl, ?_, ?_⟩
                · rw [bs u1]; exact k2
                · refine Rel_fr h ?_ (fun e => e) rfl rfl rfl rfl rfl rfl rfl rfl (by simp only [qf_Par]) (by simp only [qf_Mrk]) (by simp only [qf_Ls]) (by simp only [qf_Hd])
                  refine ⟨hn, hC, rs_used (v := (512, f)) hR rfl, ?_, ?_, ?_⟩
                  · simp only [rtri, qR_medium, qR_cutIn, qR_written]; exact ht
                  · simp only [qR_open]; exact ho
                  · simp only [qR_tape, qR_taped]; exact hts
              · rw [if_neg b3, if_neg b3]
                by_cases b4 : p = 4
                · refine ⟨nI lp.length, r, ?_, by rw [if_pos b4, hTR.1.1.2.1], h⟩
                  unfold m_Parts_size
                  rw [if_pos b4, hTC.1.1.2.1]; rfl
                · rw [if_neg b4, if_neg b4]
                  by_cases b5 : p = 5
                  · exact ⟨nI GP, r, by rw [if_pos b5, hN.1]; rfl, by rw [if_pos b5, hN.2.1], h⟩
                  · rw [if_neg b5, if_neg b5]
                    by_cases b6 : p = 6
                    · exact ⟨nI GM, r, by rw [if_pos b6, hN.2.2.1]; rfl, by rw [if_pos b6, hN.2.2.2], h⟩
                    · rw [if_neg b6, if_neg b6]
                      by_cases b7 : p = 7
                      · exact ⟨nI S, r, by rw [if_pos b7, w3]; rfl, by rw [if_pos b7, w4], h⟩
                      · rw [if_neg b7, if_neg b7]
                        by_cases b8 : p = 8
                        · refine ⟨nI lm.length, r, ?_, by rw [if_pos b8, bs (R_count hR hn.2 hTR.2 hL hA).1], h⟩
                          unfold m_Marks_size
                          rw [if_pos b8, hTC.2.2.1.1.1.2.1]; rfl
                        · rw [if_neg b8, if_neg b8]
                          obtain ⟨b, hb8, eb⟩ : ∃ b : Nat, b < 8 ∧ p = nI (b + 9) := by
                            rcases pk_ix p (n := 17) (by omega) with z | z | ⟨k, hk, rfl⟩
                            · exact absurd z h1
                            · exact absurd h2 (Int32.not_lt.mpr z)
                            · have q3 : ¬ k = 3 := fun e => b3 (by rw [e]; rfl)
                              have q4 : ¬ k = 4 := fun e => b4 (by rw [e]; rfl)
                              have q5 : ¬ k = 5 := fun e => b5 (by rw [e]; rfl)
                              have q6 : ¬ k = 6 := fun e => b6 (by rw [e]; rfl)
                              have q7 : ¬ k = 7 := fun e => b7 (by rw [e]; rfl)
                              have q8 : ¬ k = 8 := fun e => b8 (by rw [e]; rfl)
                              have q0 : ¬ k = 0 := fun e => b0 (by rw [e]; rfl)
                              have q1 : ¬ k = 1 := fun e => b1 (by rw [e]; rfl)
                              have q2 : ¬ k = 2 := fun e => b2 (by rw [e]; rfl)
                              have k9 : 9 ≤ k := by omega
                              exact ⟨k - 9, by omega, by rw [Nat.sub_add_cancel k9]⟩
                          have e9 : p - 9 = nI b := by
                            rw [eb, show (9 : Int32) = nI 9 by decide +kernel, pk_sub (by omega), Nat.add_sub_cancel]
                          have hg : m_Log_isGroup (nI b) = some 1 := by
                            rcases isGroup_cases (nI b) with ⟨z1, -⟩ | ⟨z1, -, -⟩
                            · unfold m_Log_isGroup at z1
                              rw [if_neg (nI_pos (by omega)), n8, if_neg (nI_ge hb8 (by omega))] at z1
                              exact absurd (Option.some.inj z1) (by decide)
                            · exact z1
                          refine ⟨ow b, r, ?_, ?_, h⟩
                          · rw [e9, bs hg, if_neg e10, w1, if_neg (nI_in (show b < 8 from hb8) (by omega)), nI_clamp (by omega)]; rfl
                          · rw [e9, w2, if_neg (nI_in (show b < 8 from hb8) (by omega)), nI_clamp (by omega)]
    · have h16 : (16 : Int32) < p := by
        rw [Int32.lt_iff_toInt_lt]
        have hh : ¬ p.toInt < Int32.toInt 17 := fun e => h2 (Int32.lt_iff_toInt_lt.mpr e)
        have a3 : Int32.toInt 16 = 16 := by decide
        have a4 : Int32.toInt 17 = 17 := by decide
        omega
      exact ⟨-2, r, by rw [if_neg h1, if_neg h2], by rw [if_neg h1, if_pos h16]; rfl, h⟩
-- HEADS
def goodH (f : Nat → Int32) (w : Nat) : Int32 := if f (32 * w) &&& 255 = 4 then (if sumOk f w = 0 then 0 else (if lg_cmp (numF f (32 * w + 4) 4) 1 < 0 then 0 else (if 0 < lg_cmp (numF f (32 * w + 4) 4) 1000000000 then 0 else 1))) else 0
theorem C_isNumber (v : Int64) : m_Log_isNumber v = some (if lg_cmp v 1 < 0 then 0 else (if 0 < lg_cmp v 1000000000 then 0 else 1)) := by
  unfold m_Log_isNumber
  split
  · rfl
  · split <;> rfl
theorem C_isGoodHead {n : Nat} {g : St_Log} {t : T3} (hm : g_medium g = mk3 n t) (hn : 4 ≤ n ∧ n ≤ 512) {w : Nat} (hw : w < n) : m_Log_isGoodHead g (nI w) = some (goodH t.1 w) := by
  have hk := mk3_ok hn.1 hn.2 t
  have a3 : m_Medium_at (mk3 n t) (nI w) 0 = some (t.1 (32 * w) &&& 255) := c_at hk (row := w) (i := 0) (by omega) (by omega)
  have a4 : m_Medium_isSumRight (mk3 n t) (nI w) = some (sumOk t.1 w) := c_sum hk (by omega)
  have a5 : m_Medium_number (mk3 n t) (nI w) 4 4 = some (numF t.1 (32 * w + 4) 4) := c_number hk (by omega) (i := 4) (K := 4) (by omega)
  unfold m_Log_isGoodHead goodH
  rw [hm, bs a3]
  by_cases c1 : t.1 (32 * w) &&& 255 = 4
  · rw [if_pos c1, if_pos c1, bs a4]
    by_cases c2 : sumOk t.1 w = 0
    · rw [if_pos c2, if_pos c2]
    · rw [if_neg c2, if_neg c2, bs a5, bs (C_isNumber _)]
      by_cases c3 : lg_cmp (numF t.1 (32 * w + 4) 4) 1 < 0
      · rw [if_pos c3, if_pos rfl]
      · rw [if_neg c3]
        by_cases c4 : 0 < lg_cmp (numF t.1 (32 * w + 4) 4) 1000000000
        · rw [if_pos c4, if_pos rfl]
        · rw [if_neg c4, if_neg e10]
  · rw [if_neg c1, if_neg c1]
theorem R_isGood {n : Nat} {r : St_Ref} {f : Nat → Int32} (hR : RI n r) (hf : (g_Rmedium r).2 = f) {w : Nat} (hw : w < 512) : m_RRef_isGood r (nI w) = some (goodH f w) := by
  have l1 : (g_Rmedium r).1 = 16384 := (ri_medium hR).1
  have a3 : m_RRef_kind r (nI w) = some (f (32 * w) &&& 255) := by rw [← hf]; exact r_kind l1 (by omega)
  have a4 : m_RRef_isSummed r (nI w) = some (sumOk f w) := by rw [← hf]; exact r_sum l1 (by omega)
  have a5 : m_RRef_number (g_Rmedium r) (32 * nI w + 4) 4 = some (numF f (32 * w + 4) 4) := by
    rw [n32, pk_mul, n4, nI_add, ← hf]
    exact r_number (by rw [l1]; omega) (by rw [l1]; omega) (by omega)
  unfold m_RRef_isGood goodH
  rw [bs a5, bs a3]
  by_cases c1 : f (32 * w) &&& 255 = 4
  · rw [if_pos c1, if_pos c1, bs a4]
    by_cases c2 : sumOk f w = 0
    · rw [if_pos c2, if_pos c2]
    · rw [if_neg c2, if_neg c2]
      split
      · rfl
      · split <;> rfl
  · rw [if_neg c1, if_neg c1]
def clrS (f : Nat → Int32) : Nat → Nat → Bool
  | 0, _ => true
  | d + 1, j => if f j = 0 then clrS f d (j + 1) else false
theorem By_z {c : Int32} (h : By c) : c &&& 255 = 0 ↔ c = 0 := by
  constructor
  · intro e
    have := h.back
    rw [e] at this
    rw [← this]
    decide +kernel
  · intro e
    rw [e]; decide
theorem C_isClear_L {n : Nat} {x : St_Medium} (h : MedOk n x) (hb : ∀ j, By (x.2.1.2 j)) {w : Nat} (hw : w < n) : ∀ (d fuel j : Nat), j + d = 32 → d < fuel → m_Medium_isClear_L2 x fuel (nI w) (nI j) = some (if clrS x.2.1.2 d (32 * w + j) then 1 else 0) := by
  intro d
  induction d with
  | zero =>
    intro fuel j hj hf
    obtain ⟨fu, rfl, -⟩ := fu1 hf
    rw [m_Medium_isClear_L2, n32, if_pos (nI_le (by omega) (by omega))]; rfl
  | succ d ih =>
    intro fuel j hj hf
    obtain ⟨fu, rfl, hf'⟩ := fu1 hf
    rw [m_Medium_isClear_L2, if_neg (show ¬ (32 : Int32) ≤ nI j by rw [n32]; exact nI_ge (by omega) (by omega)), bs (c_at h hw (by omega)), clrS, nI_1]
    by_cases z : x.2.1.2 (32 * w + j) = 0
    · rw [if_pos ((By_z (hb _)).mpr z), if_pos z, ih fu (j + 1) (by omega) (by omega)]; rfl
    · rw [if_neg (fun e => z ((By_z (hb _)).mp e)), if_neg z]; rfl
theorem C_isClear {n : Nat} {x : St_Medium} (h : MedOk n x) (hb : ∀ j, By (x.2.1.2 j)) {w : Nat} (hw : w < n) : m_Medium_isClear x (nI w) = some (if clrS x.2.1.2 32 (32 * w) then 1 else 0) := C_isClear_L h hb hw 32 FU 0 (by omega) (FU_lt (by omega))
theorem R_b143 {n : Nat} {r : St_Ref} (hR : RI n r) (kk : Int32 → Int32 → Int32 → Option Int32) (v1 : Int32) {w : Nat} (hw : w < 512) : ∀ (d fuel j : Nat) (b : Bool), j + d = 32 → d < fuel → m_RRef_badAt_L143 r kk fuel v1 (nI w) (if b then 1 else 0) (nI j) = kk v1 (nI w) (if b && clrS (g_Rmedium r).2 d (32 * w + j) then 1 else 0) := by
  have l1 : (g_Rmedium r).1 = 16384 := (ri_medium hR).1
  intro d
  induction d with
  | zero =>
    intro fuel j b hj hf
    obtain ⟨fu, rfl, -⟩ := fu1 hf
    rw [m_RRef_badAt_L143, if_pos (show (32 : Int32) ≤ nI j by rw [n32]; exact nI_le (by omega) (by omega))]
    cases b <;> rfl
  | succ d ih =>
    intro fuel j b hj hf
    obtain ⟨fu, rfl, hf'⟩ := fu1 hf
    rw [m_RRef_badAt_L143, if_neg (show ¬ (32 : Int32) ≤ nI j by rw [n32]; exact nI_ge (by omega) (by omega)), clrS, nI_1]
    cases b with
    | false =>
      refine Eq.trans (if_pos (show (if false = true then (1 : Int32) else 0) = 0 from rfl)) ?_
      exact ih fu (j + 1) false (by omega) (by omega)
    | true =>
      rw [if_neg (by decide), n32, pk_mul, nI_add, l1, if_neg (nI_in (by omega) (by omega)), nI_clamp (by omega)]
      by_cases z : (g_Rmedium r).2 (32 * w + j) = 0
      · rw [if_pos z, if_pos z]
        exact ih fu (j + 1) true (by omega) (by omega)
      · rw [if_neg z, if_neg z]
        exact ih fu (j + 1) false (by omega) (by omega)
/-- a HEAD that is neither clear nor good -/
def badH (f : Nat → Int32) (w : Nat) : Bool := !clrS f 32 (32 * w) && decide (goodH f w = 0)
theorem R_b134s {n : Nat} {r : St_Ref} {f : Nat → Int32} (hR : RI n r) (hf : (g_Rmedium r).2 = f) (fu : Nat) (v : Int32) {w : Nat} (hw : w < 512) : m_RRef_badAt_L134 r (fu + 1) v (nI w) = m_RRef_badAt_L134 r fu (if badH f w then nI w else v) (nI w + (-1)) := by
  rw [m_RRef_badAt_L134, if_neg (nI_pos (by omega))]
  have k := R_b143 hR (fun (v1_9 : Int32) (v2_10 : Int32) (v3_11 : Int32) => if v3_11 = 0 then ((m_RRef_isGood r v2_10).bind fun q13 => if q13 = 0 then (m_RRef_badAt_L134 r fu v2_10 (v2_10 + (-1))) else (m_RRef_badAt_L134 r fu v1_9 (v2_10 + (-1)))) else (m_RRef_badAt_L134 r fu v1_9 (v2_10 + (-1)))) v (w := w) hw 32 FU 0 true (by omega) (FU_lt (by omega))
  refine Eq.trans k ?_
  rw [hf]
  show (if (if (true && clrS f 32 (32 * w)) = true then (1 : Int32) else 0) = 0 then _ else _) = _
  unfold badH
  cases hc : clrS f 32 (32 * w) with
  | true => rfl
  | false =>
    show ((m_RRef_isGood r (nI w)).bind fun q13 => if q13 = 0 then (m_RRef_badAt_L134 r fu (nI w) (nI w + (-1))) else (m_RRef_badAt_L134 r fu v (nI w + (-1)))) = _
    rw [bs (R_isGood hR hf hw)]
    by_cases z : goodH f w = 0
    · rw [if_pos z, if_pos (show (!false && decide (goodH f w = 0)) = true by rw [decide_eq_true z]; rfl)]
    · rw [if_neg z, if_neg (show ¬ (!false && decide (goodH f w = 0)) = true by rw [decide_eq_false z]; decide)]
theorem R_b134 {n : Nat} {r : St_Ref} {f : Nat → Int32} (hR : RI n r) (hf : (g_Rmedium r).2 = f) (v : Int32) : m_RRef_badAt_L134 r FU v 1 = some (if badH f 0 then 0 else (if badH f 1 then 1 else v)) := by
  obtain ⟨f1, e1, -⟩ := fu1 (k := 3) (fuel := FU) (FU_lt (by omega))
  obtain ⟨f2, e2, -⟩ := fu1 (k := 1) (fuel := f1) (by have := FU_ge; omega)
  obtain ⟨f3, e3, -⟩ := fu1 (k := 0) (fuel := f2) (by have := FU_ge; omega)
  rw [e1]
  refine Eq.trans (R_b134s hR hf f1 v (w := 1) (by omega)) ?_
  rw [e2]
  refine Eq.trans (show m_RRef_badAt_L134 r (f2 + 1) (if badH f 1 then nI 1 else v) (nI 0) = _ from R_b134s hR hf f2 _ (w := 0) (by omega)) ?_
  rw [e3, m_RRef_badAt_L134, if_pos (by decide)]
  rfl
-- badAt
def badP (f : Nat → Int32) (q : PQ) : Bool := decide (wholeP f q.1 q.2.2.1.toNatClampNeg q.2.2.2.1.toNatClampNeg = 0)
def badM (f : Nat → Int32) (m : MKQ) : Bool := decide (foundK f m.1 m.2.1.toNatClampNeg m.2.2.1.toNatClampNeg m.2.2.2.1 = 0)
def rowP (q : PQ) : Nat := q.2.2.2.1.toNatClampNeg
def rowM (m : MKQ) : Nat := m.2.2.1.toNatClampNeg
/-- m' is the least of m and the rows of the bad ones -/
def Lst {α : Type} (bad : α → Bool) (row : α → Nat) (l : List α) (m m' : Nat) : Prop := m' ≤ m ∧ (m' = m ∨ ∃ z, z ∈ l ∧ bad z = true ∧ row z = m') ∧ ∀ z, z ∈ l → bad z = true → m' ≤ row z
theorem Lst_nil {α : Type} (bad : α → Bool) (row : α → Nat) (m : Nat) : Lst bad row [] m m := ⟨Nat.le_refl _, Or.inl rfl, fun z hz => by cases hz⟩
theorem Lst_cons {α : Type} {bad : α → Bool} {row : α → Nat} {a : α} {l : List α} {m m1 m' : Nat} (h1 : m1 = if bad a = true ∧ row a < m then row a else m) (h : Lst bad row l m1 m') : Lst bad row (a :: l) m m' := by
  obtain ⟨a1, a2, a3⟩ := h
  have hle : m1 ≤ m := by
    rw [h1]
    split
    · rename_i h; omega
    · exact Nat.le_refl _
  refine ⟨by omega, ?_, fun z hz hb => ?_⟩
  · rcases a2 with e | ⟨z, hz, hb, e⟩
    · rw [e, h1]
      split
      · rename_i h
        exact Or.inr ⟨a, List.mem_cons_self, h.1, rfl⟩
      · exact Or.inl rfl
    · exact Or.inr ⟨z, List.mem_cons_of_mem _ hz, hb, e⟩
  · rcases List.mem_cons.mp hz with e | hz
    · rw [e] at hb ⊢
      by_cases hc : row a < m
      · rw [if_pos ⟨hb, hc⟩] at h1
        omega
      · omega
    · exact a3 z hz hb
theorem C_b102 {n : Nat} {g : St_Log} {t : T3} {lk : List MKQ} (hm : g_medium g = mk3 n t) (hn : 4 ≤ n ∧ n ≤ 512) (hK : MC (n / 2) (g_kept g) lk) (hfit : ∀ m, m ∈ lk → FitK n m) : ∀ (d fuel k m : Nat), k + d = lk.length → d < fuel → m ≤ n → ∃ m', m_Log_badAt_L102 g fuel (nI m) (nI k) = some (if n ≤ m' then (-1) else nI m') ∧ Lst (badM t.1) rowM (lst (fun j => mrow (g_kept g) (k + j)) d) m m' := by
  have hP := hK.1.1.2.2.1
  have hsz : m_Marks_size (g_kept g) = some (nI lk.length) := by unfold m_Marks_size; rw [hK.1.1.2.1]
  have hrw : m_Medium_rows (g_medium g) = some (nI n) := by rw [hm]; rfl
  intro d
  induction d with
  | zero =>
    intro fuel k m hk hf hmn
    obtain ⟨fu, rfl, -⟩ := fu1 hf
    refine ⟨m, ?_, Lst_nil _ _ _⟩
    rw [m_Log_badAt_L102, bs hsz, if_pos (nI_le (by omega) (by omega)), bs hrw]
    by_cases z : n ≤ m
    · rw [if_pos z, if_pos (nI_le z (by omega))]
    · rw [if_neg z, if_neg (nI_ge (by omega) (by omega))]
  | succ d ih =>
    intro fuel k m hk hf hmn
    obtain ⟨fu, rfl, hf'⟩ := fu1 hf
    have hkl : k < lk.length := by omega
    obtain ⟨_, c, w, _, _, _, p4, p5, p6, p7, p8, p9⟩ := hfit _ (MC_mem hK hkl)
    have a1 : m_Marks_rowAt (g_kept g) (nI k) = some (nI w) := by rw [M_rowAt hK.1.1 hkl]; exact congrArg some p7
    have a2 := C_isKeptAsFound hm hn hK hkl p4 p6 p7 p9
    have hrow : rowM (mrow (g_kept g) k) = w := by unfold rowM; rw [p7, nI_clamp (by omega)]
    have hbd : badM t.1 (mrow (g_kept g) k) = true ↔ foundK t.1 (mrow (g_kept g) k).1 c w (mrow (g_kept g) k).2.2.2.1 = 0 := by
      unfold badM
      rw [p4, p7, nI_clamp (by omega), nI_clamp (by omega), decide_eq_true_eq]
    have e : (fun j => mrow (g_kept g) (k + (j + 1))) = fun j => mrow (g_kept g) (k + 1 + j) := funext fun j => by rw [show k + (j + 1) = k + 1 + j by omega]
    rw [m_Log_badAt_L102, bs hsz, if_neg (nI_ge (by omega) (by omega)), bs a1, lst_cons, e, nI_1]
    show ∃ m', _ ∧ Lst (badM t.1) rowM (mrow (g_kept g) k :: _) m m'
    by_cases z1 : m ≤ w
    · obtain ⟨m', b1, b2⟩ := ih fu (k + 1) m (by omega) (by omega) hmn
      refine ⟨m', by rw [if_pos (nI_le z1 (by omega))]; exact b1, Lst_cons ?_ b2⟩
      rw [hrow, if_neg (fun z => absurd z.2 (by omega))]
    · rw [if_neg (nI_ge (by omega) (by omega)), bs a2]
      by_cases z2 : foundK t.1 (mrow (g_kept g) k).1 c w (mrow (g_kept g) k).2.2.2.1 = 0
      · obtain ⟨m', b1, b2⟩ := ih fu (k + 1) w (by omega) (by omega) (by omega)
        refine ⟨m', by rw [if_pos z2, bs a1]; exact b1, Lst_cons ?_ b2⟩
        rw [hrow, if_pos ⟨hbd.mpr z2, by omega⟩]
      · obtain ⟨m', b1, b2⟩ := ih fu (k + 1) m (by omega) (by omega) hmn
        refine ⟨m', by rw [if_neg z2]; exact b1, Lst_cons ?_ b2⟩
        rw [if_neg (fun z => z2 (hbd.mp z.1))]
theorem C_b54 {n : Nat} {g : St_Log} {t : T3} {lp : List PQ} (hm : g_medium g = mk3 n t) (hn : 4 ≤ n ∧ n ≤ 512) (hP : PC n (g_parts g) lp) (hfit : ∀ q, q ∈ lp → FitP n q) : ∀ (d fuel k m : Nat), k + d = lp.length → d < fuel → m ≤ n → ∃ m', m_Log_badAt_L54 g fuel (nI m) (nI k) = m_Log_badAt_L102 g FU (nI m') 0 ∧ Lst (badP t.1) rowP (lst (fun j => crow (g_parts g) (k + j)) d) m m' := by
  have hPn := hP.1.2.2
  have hsz : m_Parts_size (g_parts g) = some (nI lp.length) := by unfold m_Parts_size; rw [hP.1.2.1]
  intro d
  induction d with
  | zero =>
    intro fuel k m hk hf hmn
    obtain ⟨fu, rfl, -⟩ := fu1 hf
    refine ⟨m, ?_, Lst_nil _ _ _⟩
    rw [m_Log_badAt_L54, bs hsz, if_pos (nI_le (by omega) (by omega))]
  | succ d ih =>
    intro fuel k m hk hf hmn
    obtain ⟨fu, rfl, hf'⟩ := fu1 hf
    have hkl : k < lp.length := by omega
    obtain ⟨_, _, l, w, _, _, _, _, _, p6, p7, p8, p9, p10⟩ := hfit _ (PC_mem hP hkl)
    have a1 : m_Parts_rowAt (g_parts g) (nI k) = some (nI w) := by rw [P_rowAt hP.1.l hkl]; exact congrArg some p8
    have a2 := C_isPartWhole hm hn hP hkl p6 p7 p8 p10
    have hrow : rowP (crow (g_parts g) k) = w := by unfold rowP; rw [p8, nI_clamp (by omega)]
    have hbd : badP t.1 (crow (g_parts g) k) = true ↔ wholeP t.1 (crow (g_parts g) k).1 l w = 0 := by
      unfold badP
      rw [p6, p8, nI_clamp (by omega), nI_clamp (by omega), decide_eq_true_eq]
    have e : (fun j => crow (g_parts g) (k + (j + 1))) = fun j => crow (g_parts g) (k + 1 + j) := funext fun j => by rw [show k + (j + 1) = k + 1 + j by omega]
    rw [m_Log_badAt_L54, bs hsz, if_neg (nI_ge (by omega) (by omega)), bs a1, lst_cons, e, nI_1]
    show ∃ m', _ ∧ Lst (badP t.1) rowP (crow (g_parts g) k :: _) m m'
    by_cases z1 : m ≤ w
    · obtain ⟨m', b1, b2⟩ := ih fu (k + 1) m (by omega) (by omega) hmn
      refine ⟨m', by rw [if_pos (nI_le z1 (by omega))]; exact b1, Lst_cons ?_ b2⟩
      rw [hrow, if_neg (fun z => absurd z.2 (by omega))]
    · rw [if_neg (nI_ge (by omega) (by omega)), bs a2]
      by_cases z2 : wholeP t.1 (crow (g_parts g) k).1 l w = 0
      · obtain ⟨m', b1, b2⟩ := ih fu (k + 1) w (by omega) (by omega) (by omega)
        refine ⟨m', by rw [if_pos z2, bs a1]; exact b1, Lst_cons ?_ b2⟩
        rw [hrow, if_pos ⟨hbd.mpr z2, by omega⟩]
      · obtain ⟨m', b1, b2⟩ := ih fu (k + 1) m (by omega) (by omega) hmn
        refine ⟨m', by rw [if_neg z2]; exact b1, Lst_cons ?_ b2⟩
        rw [if_neg (fun z => z2 (hbd.mp z.1))]
/-- the reference's least: n stands for none -/
def rl (n m : Nat) : Int32 := if n ≤ m then (-1) else nI m
theorem R_b84 {n : Nat} {r : St_Ref} {f : Nat → Int32} {lp : List PQ} (hR : RI n r) (hf : (g_Rmedium r).2 = f) (hn : n ≤ 512) (hP : PR r lp) (hfit : ∀ q, q ∈ lp → FitP n q) : ∀ (d fuel k m : Nat), k + d = lp.length → d < fuel → m ≤ n → ∃ m', m' ≤ n ∧ m_RRef_badAt_L84 r fuel (rl n m) (nI k) = m_RRef_badAt_L134 r FU (rl n m') 1 ∧ Lst (badP f) rowP (lst (fun j => rrow r (k + j)) d) m m' := by
  have hlp := hP.1.2.2
  have hp := hP.1.2.1
  have lr : (g_RpRow r).1 = 520 := ri_pRow hR
  intro d
  induction d with
  | zero =>
    intro fuel k m hk hf' hmn
    obtain ⟨fu, rfl, -⟩ := fu1 hf'
    refine ⟨m, hmn, ?_, Lst_nil _ _ _⟩
    rw [m_RRef_badAt_L84, hp, if_pos (nI_le (by omega) (by omega))]
  | succ d ih =>
    intro fuel k m hk hf' hmn
    obtain ⟨fu, rfl, hf''⟩ := fu1 hf'
    have hkl : k < lp.length := by omega
    obtain ⟨_, _, l, w, _, _, _, _, _, p6, p7, p8, p9, p10⟩ := hfit _ (PR_mem hP hkl)
    have a2 := R_isWholePart hR hf hn hP hkl p6 p7 p8 p10
    have er : (g_RpRow r).2 k = nI w := p8
    have ck : (nI k).toNatClampNeg = k := nI_clamp (by omega)
    have k0 : ¬ (nI k < 0 ∨ 520 ≤ k) := by
      have := nI_in (c := k) (N := 520) (by omega) (by omega)
      rw [ck] at this
      exact this
    have hrow : rowP (rrow r k) = w := by unfold rowP; rw [p8, nI_clamp (by omega)]
    have hbd : badP f (rrow r k) = true ↔ wholeP f (rrow r k).1 l w = 0 := by
      unfold badP
      rw [p6, p8, nI_clamp (by omega), nI_clamp (by omega), decide_eq_true_eq]
    have e : (fun j => rrow r (k + (j + 1))) = fun j => rrow r (k + 1 + j) := funext fun j => by rw [show k + (j + 1) = k + 1 + j by omega]
    have hwn : ¬ n ≤ w := by omega
    rw [m_RRef_badAt_L84, hp, if_neg (nI_ge (by omega) (by omega)), bs a2, lr, ck, er, lst_cons, e, nI_1]
    show ∃ m', _ ∧ _ ∧ Lst (badP f) rowP (rrow r k :: _) m m'
    by_cases z2 : wholeP f (rrow r k).1 l w = 0
    · rw [if_pos z2]
      by_cases z1 : m ≤ w
      · obtain ⟨m', b0, b1, b2⟩ := ih fu (k + 1) m (by omega) (by omega) hmn
        have hm1 : rl n m = nI m := by unfold rl; rw [if_neg (by omega)]
        refine ⟨m', b0, ?_, Lst_cons (by rw [hrow, if_neg (fun z => absurd z.2 (by omega))]) b2⟩
        rw [hm1] at b1
        rw [hm1, if_neg (nI_m1 (by omega)), if_neg k0, if_pos (nI_le z1 (by omega))]
        exact b1
      · obtain ⟨m', b0, b1, b2⟩ := ih fu (k + 1) w (by omega) (by omega) (by omega)
        refine ⟨m', b0, ?_, Lst_cons (by rw [hrow, if_pos ⟨hbd.mpr z2, by omega⟩]) b2⟩
        have hw1 : rl n w = nI w := by unfold rl; rw [if_neg hwn]
        rw [hw1] at b1
        by_cases zz : n ≤ m
        · rw [show rl n m = (-1) by unfold rl; rw [if_pos zz], if_pos rfl, if_neg k0]
          exact b1
        · have hm1 : rl n m = nI m := by unfold rl; rw [if_neg zz]
          rw [hm1, if_neg (nI_m1 (by omega)), if_neg k0, if_neg (nI_ge (by omega) (by omega)), if_neg k0]
          exact b1
    · obtain ⟨m', b0, b1, b2⟩ := ih fu (k + 1) m (by omega) (by omega) hmn
      refine ⟨m', b0, by rw [if_neg z2]; exact b1, Lst_cons ?_ b2⟩
      rw [if_neg (fun z => z2 (hbd.mp z.1))]
def badK (f : Nat → Int32) (m : MKQ) : Bool := decide (m.2.2.1 ≠ (-1)) && badM f m
theorem R_b14 {n : Nat} {r : St_Ref} {f : Nat → Int32} {L : List MKQ} (hR : RI n r) (hf : (g_Rmedium r).2 = f) (hn : n ≤ 512) (hM : MR r L) (hfit : ∀ m, m ∈ L → FitK n m ∨ FitM m) : ∀ (d fuel k m : Nat), k + d = L.length → d < fuel → m ≤ n → ∃ m', m' ≤ n ∧ m_RRef_badAt_L14 r fuel (rl n m) (nI k) = m_RRef_badAt_L84 r FU (rl n m') 0 ∧ Lst (badK f) rowM (lst (fun j => qrow r (k + j)) d) m m' := by
  have hl := hM.2.1
  have hm := hM.1
  have lr : (g_RmRow r).1 = 270 := ri_mRow hR
  intro d
  induction d with
  | zero =>
    intro fuel k m hk hf' hmn
    obtain ⟨fu, rfl, -⟩ := fu1 hf'
    refine ⟨m, hmn, ?_, Lst_nil _ _ _⟩
    rw [m_RRef_badAt_L14, hm, if_pos (nI_le (by omega) (by omega))]
  | succ d ih =>
    intro fuel k m hk hf' hmn
    obtain ⟨fu, rfl, hf''⟩ := fu1 hf'
    have hkl : k < L.length := by omega
    have ck : (nI k).toNatClampNeg = k := nI_clamp (by omega)
    have k0 : ¬ (nI k < 0 ∨ 270 ≤ k) := by
      have := nI_in (c := k) (N := 270) (by omega) (by omega)
      rw [ck] at this
      exact this
    have e : (fun j => qrow r (k + (j + 1))) = fun j => qrow r (k + 1 + j) := funext fun j => by rw [show k + (j + 1) = k + 1 + j by omega]
    rw [m_RRef_badAt_L14, hm, if_neg (nI_ge (by omega) (by omega)), lr, ck, if_neg k0, lst_cons, e, nI_1]
    show ∃ m', _ ∧ _ ∧ Lst (badK f) rowM (qrow r k :: _) m m'
    rcases hfit _ (MR_mem hM hkl) with hK | hMd
    · obtain ⟨_, c, w, _, _, _, p4, p5, p6, p7, p8, p9⟩ := hK
      have a2 := R_isAsFound hR hf hn (k := k) (by omega) p4 p6 p7 p9
      have er : (g_RmRow r).2 k = nI w := p7
      have hrow : rowM (qrow r k) = w := by unfold rowM; rw [p7, nI_clamp (by omega)]
      have hbd : badK f (qrow r k) = true ↔ foundK f (qrow r k).1 c w (qrow r k).2.2.2.1 = 0 := by
        unfold badK badM
        rw [p4, p7, nI_clamp (by omega), nI_clamp (by omega), Bool.and_eq_true, decide_eq_true_eq, decide_eq_true_eq]
        exact ⟨fun z => z.2, fun z => ⟨nI_m1 (by omega), z⟩⟩
      have hwn : ¬ n ≤ w := by omega
      rw [er, if_neg (nI_m1 (by omega)), bs a2]
      by_cases z2 : foundK f (qrow r k).1 c w (qrow r k).2.2.2.1 = 0
      · rw [if_pos z2]
        by_cases z1 : m ≤ w
        · obtain ⟨m', b0, b1, b2⟩ := ih fu (k + 1) m (by omega) (by omega) hmn
          have hm1 : rl n m = nI m := by unfold rl; rw [if_neg (by omega)]
          refine ⟨m', b0, ?_, Lst_cons (by rw [hrow, if_neg (fun z => absurd z.2 (by omega))]) b2⟩
          rw [hm1] at b1
          rw [hm1, if_neg (nI_m1 (by omega)), if_neg k0, if_pos (nI_le z1 (by omega))]
          exact b1
        · obtain ⟨m', b0, b1, b2⟩ := ih fu (k + 1) w (by omega) (by omega) (by omega)
          refine ⟨m', b0, ?_, Lst_cons (by rw [hrow, if_pos ⟨hbd.mpr z2, by omega⟩]) b2⟩
          have hw1 : rl n w = nI w := by unfold rl; rw [if_neg hwn]
          rw [hw1] at b1
          by_cases zz : n ≤ m
          · rw [show rl n m = (-1) by unfold rl; rw [if_pos zz], if_pos rfl, if_neg k0]
            exact b1
          · have hm1 : rl n m = nI m := by unfold rl; rw [if_neg zz]
            rw [hm1, if_neg (nI_m1 (by omega)), if_neg k0, if_neg (nI_ge (by omega) (by omega)), if_neg k0]
            exact b1
      · obtain ⟨m', b0, b1, b2⟩ := ih fu (k + 1) m (by omega) (by omega) hmn
        refine ⟨m', b0, by rw [if_neg z2]; exact b1, Lst_cons ?_ b2⟩
        rw [if_neg (fun z => z2 (hbd.mp z.1))]
    · obtain ⟨_, _, _, _, _, _, _, _, p7, _⟩ := hMd
      have er : (g_RmRow r).2 k = (-1) := p7
      obtain ⟨m', b0, b1, b2⟩ := ih fu (k + 1) m (by omega) (by omega) hmn
      refine ⟨m', b0, by rw [if_pos er]; exact b1, Lst_cons ?_ b2⟩
      rw [if_neg]
      intro z
      have := z.1
      unfold badK at this
      rw [Bool.and_eq_true, decide_eq_true_eq] at this
      exact this.1 p7
theorem C_b12s {n : Nat} {g : St_Log} {t : T3} (hm : g_medium g = mk3 n t) (hn : 4 ≤ n ∧ n ≤ 512) (hb : ∀ j, By (t.1 j)) (fu : Nat) {w : Nat} (hw : w < 2) : m_Log_badAt_L12 g (fu + 1) (nI w) = if badH t.1 w then some (nI w) else m_Log_badAt_L12 g fu (nI (w + 1)) := by
  have k1 := C_isClear (x := mk3 n t) (mk3_ok hn.1 hn.2 t) hb (w := w) (by omega)
  have k2 := C_isGoodHead hm hn (w := w) (by omega)
  rw [m_Log_badAt_L12, if_neg (show ¬ (2 : Int32) ≤ nI w by rw [n2]; exact nI_ge (by omega) (by omega)), hm, bs k1, nI_1]
  show (if (if clrS t.1 32 (32 * w) = true then (1 : Int32) else 0) = 0 then _ else _) = _
  unfold badH
  cases hc : clrS t.1 32 (32 * w) with
  | true => rfl
  | false =>
    show ((m_Log_isGoodHead g (nI w)).bind fun q22 => if q22 = 0 then some (nI w) else m_Log_badAt_L12 g fu (nI (w + 1))) = _
    rw [bs k2]
    by_cases z : goodH t.1 w = 0
    · rw [if_pos z, if_pos (show (!false && decide (goodH t.1 w = 0)) = true by rw [decide_eq_true z]; rfl)]
    · rw [if_neg z, if_neg (show ¬ (!false && decide (goodH t.1 w = 0)) = true by rw [decide_eq_false z]; decide)]
theorem st_badAt {n : Nat} {g : St_Log} {r : St_Ref} (h : Rel n g r) : ∃ a, m_Log_badAt g = some a ∧ m_RRef_badAt r = some a := by
  obtain ⟨⟨hn, hC, hR, ht, ho, hts⟩, hT⟩ := id h
  unfold m_Log_badAt m_RRef_badAt
  by_cases hop : g_isOpen g = 0
  · exact ⟨-3, by rw [if_pos hop], by rw [if_pos (by rw [← ho]; exact hop)]⟩
  · have ho1 := open_1 hC hop
    have hop' : ¬ g_Ropen r = 0 := by rw [← ho]; exact hop
    obtain ⟨lp, lk, lm, L, GP, GM, hTC, hTR, hL, hA, hN, hH⟩ := hT ho1
    rw [if_neg hop, if_neg hop']
    obtain ⟨t, htd⟩ : ∃ t, t = tri (g_medium g) := ⟨_, rfl⟩
    have hmk : g_medium g = mk3 n t := by rw [htd]; exact g_mk3 hC
    have hby : ∀ k, By (t.1 k) := by rw [htd]; exact (ci_medium hC).2.2
    have htf : (g_Rmedium r).2 = t.1 := by rw [htd, ht]; rfl
    have hPn := hTC.1.1.2.2
    have hKn := hTC.2.1.1.1.2.2.1
    have hlp := hTR.1.1.2.2
    have hL2 := hTR.2.2.1
    have hfK : ∀ m, m ∈ L → FitK n m ∨ FitM m := by
      intro m hm
      rcases List.mem_append.mp (hL.mem_iff.mp hm) with z | z
      · exact Or.inl (hA.2.1 _ z).1
      · exact Or.inr (hA.2.2.1 _ z).1
    obtain ⟨m1, a1, a2⟩ := C_b54 hmk hn hTC.1 (fun q hq => (hA.1 q hq).1) lp.length FU 0 n (by omega) (FU_lt (by omega)) (Nat.le_refl _)
    have hm1 : m1 ≤ n := a2.1
    obtain ⟨m2, a3, a4⟩ := C_b102 hmk hn hTC.2.1 (fun m hm => (hA.2.1 m hm).1) lk.length FU 0 m1 (by omega) (FU_lt (by omega)) hm1
    obtain ⟨r1, b0, b1, b2⟩ := R_b14 hR htf hn.2 hTR.2 hfK L.length FU 0 n (by omega) (FU_lt (by omega)) (Nat.le_refl _)
    obtain ⟨r2, c0, c1, c2⟩ := R_b84 hR htf hn.2 hTR.1 (fun q hq => (hA.1 q hq).1) lp.length FU 0 r1 (by omega) (FU_lt (by omega)) b0
    have hd := R_b134 hR htf (rl n r2)
    have z0 : ∀ {α : Type} (f : Nat → α) (P : Nat), lst (fun j => f (0 + j)) P = lst f P := fun f P => lst_congr (fun j _ => by rw [Nat.zero_add])
    rw [z0, hTC.1.2] at a2
    rw [z0, hTC.2.1.2] at a4
    rw [z0, hTR.2.2.2.1] at b2
    rw [z0] at c2
    have hbK : ∀ m, m ∈ lk → (badK t.1 m = true ↔ badM t.1 m = true) := by
      intro m hm
      obtain ⟨_, _, w, _, _, _, _, _, _, p7, _, p9⟩ := (hA.2.1 _ hm).1
      unfold badK
      rw [Bool.and_eq_true, decide_eq_true_eq]
      exact ⟨fun z => z.2, fun z => ⟨by rw [p7]; exact nI_m1 (by omega), z⟩⟩
    have hbL : ∀ m, m ∈ L → badK t.1 m = true → m ∈ lk := by
      intro m hm hb
      rcases List.mem_append.mp (hL.mem_iff.mp hm) with z | z
      · exact z
      · obtain ⟨_, _, _, _, _, _, _, _, p7, _⟩ := (hA.2.2.1 _ z).1
        unfold badK at hb
        rw [Bool.and_eq_true, decide_eq_true_eq] at hb
        exact absurd p7 hb.1
    have hPm : ∀ q, q ∈ lst (rrow r) lp.length ↔ q ∈ lp := fun q => by
      rw [mem_lst]
      exact (hTR.1.2.1 q).symm
    have e1 : m2 ≤ r2 := by
      rcases c2.2.1 with e | ⟨q, hq, hb, e⟩
      · rcases b2.2.1 with e' | ⟨m, hm, hb, e'⟩
        · have := a4.1
          omega
        · have := a4.2.2 m (hbL m hm hb) ((hbK m (hbL m hm hb)).mp hb)
          omega
      · have := a2.2.2 q ((hPm q).mp hq) hb
        have := a4.1
        omega
    have e2 : r2 ≤ m2 := by
      rcases a4.2.1 with e | ⟨m, hm, hb, e⟩
      · rcases a2.2.1 with e' | ⟨q, hq, hb, e'⟩
        · omega
        · have := c2.2.2 q ((hPm q).mpr hq) hb
          omega
      · have := b2.2.2 m (hL.mem_iff.mpr (List.mem_append.mpr (Or.inl hm))) ((hbK m hm).mpr hb)
        have := c2.1
        omega
    have e3 : m2 = r2 := by omega
    obtain ⟨f1, g1, -⟩ := fu1 (k := 3) (fuel := FU) (FU_lt (by omega))
    obtain ⟨f2, g2, -⟩ := fu1 (k := 1) (fuel := f1) (by have := FU_ge; omega)
    obtain ⟨f3, g3, -⟩ := fu1 (k := 0) (fuel := f2) (by have := FU_ge; omega)
    have hrw : m_Medium_rows (g_medium g) = some (nI n) := by rw [hmk]; rfl
    have run : m_Log_badAt_L12 g FU 0 = some (if badH t.1 0 then 0 else (if badH t.1 1 then 1 else rl n r2)) := by
      rw [g1]
      refine Eq.trans (C_b12s hmk hn hby f1 (w := 0) (by omega)) ?_
      by_cases y0 : badH t.1 0 = true
      · rw [if_pos y0, if_pos y0]; rfl
      · rw [if_neg y0, if_neg y0, g2]
        refine Eq.trans (C_b12s hmk hn hby f2 (w := 1) (by omega)) ?_
        by_cases y1 : badH t.1 1 = true
        · rw [if_pos y1, if_pos y1]; rfl
        · rw [if_neg y1, if_neg y1, g3, m_Log_badAt_L12, if_pos (show (2 : Int32) ≤ nI (1 + 1) by decide), bs hrw]
          refine Eq.trans (show m_Log_badAt_L54 g FU (nI n) 0 = _ from a1) ?_
          refine Eq.trans (show m_Log_badAt_L102 g FU (nI m1) 0 = _ from a3) ?_
          rw [e3]
          unfold rl
          split <;> rfl
    refine ⟨_, run, ?_⟩
    have e4 : rl n n = (-1) := by unfold rl; rw [if_pos (Nat.le_refl _)]
    rw [e4] at b1
    refine Eq.trans (show m_RRef_badAt_L14 r FU (-1) 0 = _ from b1) ?_
    refine Eq.trans (show m_RRef_badAt_L84 r FU (rl n r1) 0 = _ from c1) ?_
    exact hd
