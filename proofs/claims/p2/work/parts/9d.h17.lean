-- WHETHER A PART IS WHOLE, A MARK AS IT WAS FOUND
def wholeP (f : Nat → Int32) (num : Int32) (l w : Nat) : Int32 := if f (32 * w) &&& 255 = 1 then (if sumOk f w = 0 then 0 else (if lg_cmp (numF f (32 * w + 4) 4) num.toInt64 = 0 then (if lg_cmp (numF f (32 * w + 2) 2) (nI l).toInt64 = 0 then (if lg_cmp (numF f (32 * w + 16) 8) (digF f (32 * w + 32) (32 * bod l)) = 0 then 1 else 0) else 0) else 0)) else 0
def foundK (f : Nat → Int32) (num : Int32) (c w : Nat) (D : Int64) : Int32 := if f (32 * w) &&& 255 = 2 then (if sumOk f w = 0 then 0 else (if lg_cmp (numF f (32 * w + 4) 4) num.toInt64 = 0 then (if f (32 * w + 1) &&& 255 = nI c then (if lg_cmp (numF f (32 * w + 8) 8) D = 0 then (if lg_cmp (digF f (32 * w + 32) (32 * ent c)) D = 0 then 1 else 0) else 0) else 0) else 0)) else 0
theorem C_isPartWhole {n : Nat} {g : St_Log} {lp : List PQ} {t : T3} (hm : g_medium g = mk3 n t) (hn : 4 ≤ n ∧ n ≤ 512) (hP : PC n (g_parts g) lp) {i : Nat} (hi : i < lp.length) {l w : Nat} (hl : (crow (g_parts g) i).2.2.1 = nI l) (hl2 : l ≤ 155) (hw : (crow (g_parts g) i).2.2.2.1 = nI w) (hw2 : w + 1 + bod l ≤ n) : m_Log_isPartWhole g (nI i) = some (wholeP t.1 (crow (g_parts g) i).1 l w) := by
  have hk := mk3_ok hn.1 hn.2 t
  have a1 : m_Parts_rowAt (g_parts g) (nI i) = some (nI w) := by rw [P_rowAt hP.1.l hi]; exact congrArg some hw
  have a2 : m_Parts_lengthAt (g_parts g) (nI i) = some (nI l) := by rw [P_lengthAt hP.1.l hi]; exact congrArg some hl
  have a3 : m_Medium_at (mk3 n t) (nI w) 0 = some (t.1 (32 * w) &&& 255) := c_at hk (row := w) (i := 0) (by omega) (by omega)
  have a4 : m_Medium_isSumRight (mk3 n t) (nI w) = some (sumOk t.1 w) := c_sum hk (by omega)
  have a5 : m_Medium_number (mk3 n t) (nI w) 4 4 = some (numF t.1 (32 * w + 4) 4) := c_number hk (by omega) (i := 4) (K := 4) (by omega)
  have a6 : m_Parts_numberAt (g_parts g) (nI i) = some (crow (g_parts g) i).1 := P_numberAt hP.1.l hi
  have a7 : m_Medium_number (mk3 n t) (nI w) 2 2 = some (numF t.1 (32 * w + 2) 2) := c_number hk (by omega) (i := 2) (K := 2) (by omega)
  have a8 : m_Medium_number (mk3 n t) (nI w) 16 8 = some (numF t.1 (32 * w + 16) 8) := c_number hk (by omega) (i := 16) (K := 8) (by omega)
  have a9 : m_Medium_digest (mk3 n t) (nI w + 1) (nI (bod l)) = some (digF t.1 (32 * w + 32) (32 * bod l)) := by
    rw [nI_1, c_digest hk (first := w + 1) (count := bod l) (by omega)]
    rw [show 32 * (w + 1) = 32 * w + 32 by omega]; rfl
  unfold m_Log_isPartWhole wholeP
  rw [hm]
  refine Eq.trans (bs a1) ?_
  refine Eq.trans (bs a2) ?_
  refine Eq.trans (bs a3) ?_
  by_cases c1 : t.1 (32 * w) &&& 255 = 1
  · refine Eq.trans (if_pos c1) ?_
    rw [if_pos c1]
    refine Eq.trans (bs a4) ?_
    by_cases c2 : sumOk t.1 w = 0
    · rw [if_pos c2, if_pos c2]
    · rw [if_neg c2, if_neg c2]
      refine Eq.trans (bs a5) ?_
      refine Eq.trans (bs a6) ?_
      by_cases c3 : lg_cmp (numF t.1 (32 * w + 4) 4) ((crow (g_parts g) i).1).toInt64 = 0
      · rw [if_pos c3, if_pos c3]
        refine Eq.trans (bs a7) ?_
        by_cases c4 : lg_cmp (numF t.1 (32 * w + 2) 2) (nI l).toInt64 = 0
        · rw [if_pos c4, if_pos c4]
          refine Eq.trans (bs a8) ?_
          refine Eq.trans (bs (C_bodiesOf (by omega))) ?_
          refine Eq.trans (bs a9) ?_
          split <;> rfl
        · rw [if_neg c4, if_neg c4]
      · rw [if_neg c3, if_neg c3]
  · rw [if_neg c1, if_neg c1]
theorem R_isWholePart {n : Nat} {r : St_Ref} {lp : List PQ} {f : Nat → Int32} (hR : RI n r) (hf : (g_Rmedium r).2 = f) (hn : n ≤ 512) (hP : PR r lp) {k : Nat} (hk : k < lp.length) {l w : Nat} (hl : (rrow r k).2.2.1 = nI l) (hl2 : l ≤ 155) (hw : (rrow r k).2.2.2.1 = nI w) (hw2 : w + 1 + bod l ≤ n) : m_RRef_isWholePart r (nI k) = some (wholeP f (rrow r k).1 l w) := by
  have hlp := hP.1.2.2
  have l1 : (g_Rmedium r).1 = 16384 := (ri_medium hR).1
  have lr : (g_RpRow r).1 = 520 := ri_pRow hR
  have ln : (g_RpNumber r).1 = 520 := ri_pNumber hR
  have ll : (g_RpLength r).1 = 520 := ri_pLength hR
  have c0 : (nI k).toNatClampNeg = k := nI_clamp (by omega)
  have i0 : ¬ (nI k < 0 ∨ 520 ≤ k) := by
    have := nI_in (c := k) (N := 520) (by omega) (by omega)
    rw [c0] at this
    exact this
  have er : (g_RpRow r).2 k = nI w := hw
  have el : (g_RpLength r).2 k = nI l := hl
  have hb : bod l ≤ 5 := by unfold bod; omega
  have a3 : m_RRef_kind r (nI w) = some (f (32 * w) &&& 255) := by rw [← hf]; exact r_kind l1 (by omega)
  have a4 : m_RRef_isSummed r (nI w) = some (sumOk f w) := by rw [← hf]; exact r_sum l1 (by omega)
  have nb : ∀ a K : Nat, a + K ≤ 32 → m_RRef_number (g_Rmedium r) (32 * nI w + nI a) (nI K) = some (numF f (32 * w + a) K) := by
    intro a K h
    rw [n32, pk_mul, nI_add, ← hf]
    exact r_number (by rw [l1]; omega) (by rw [l1]; omega) (by omega)
  have a5 : m_RRef_number (g_Rmedium r) (32 * nI w + 4) 4 = some (numF f (32 * w + 4) 4) := nb 4 4 (by omega)
  have a7 : m_RRef_number (g_Rmedium r) (32 * nI w + 2) 2 = some (numF f (32 * w + 2) 2) := nb 2 2 (by omega)
  have a8 : m_RRef_number (g_Rmedium r) (32 * nI w + 16) 8 = some (numF f (32 * w + 16) 8) := nb 16 8 (by omega)
  have a9 : m_RRef_digest (g_Rmedium r) (32 * nI w + 32) (32 * nI (bod l)) = some (digF f (32 * w + 32) (32 * bod l)) := by
    rw [n32, pk_mul, pk_mul, nI_add, ← hf]
    exact r_digest (by rw [l1]; omega) (by rw [l1]; omega) (by omega)
  unfold m_RRef_isWholePart wholeP
  rw [c0, lr, ln, ll, er, el]
  refine Eq.trans (if_neg i0) ?_
  refine Eq.trans (if_neg i0) ?_
  refine Eq.trans (bs a3) ?_
  by_cases c1 : f (32 * w) &&& 255 = 1
  · refine Eq.trans (if_pos c1) ?_
    rw [if_pos c1]
    refine Eq.trans (if_neg i0) ?_
    refine Eq.trans (bs a4) ?_
    by_cases c2 : sumOk f w = 0
    · rw [if_pos c2, if_pos c2]
    · rw [if_neg c2, if_neg c2]
      refine Eq.trans (bs a5) ?_
      refine Eq.trans (if_neg i0) ?_
      by_cases c3 : lg_cmp (numF f (32 * w + 4) 4) ((rrow r k).1).toInt64 = 0
      · rw [if_pos c3]
        refine Eq.trans (if_pos c3) ?_
        refine Eq.trans (bs a7) ?_
        refine Eq.trans (if_neg i0) ?_
        by_cases c4 : lg_cmp (numF f (32 * w + 2) 2) (nI l).toInt64 = 0
        · rw [if_pos c4, if_pos c4]
          refine Eq.trans (bs a8) ?_
          refine Eq.trans (if_neg i0) ?_
          refine Eq.trans (bs (R_bodies (by omega))) ?_
          refine Eq.trans (bs a9) ?_
          split <;> rfl
        · rw [if_neg c4, if_neg c4]
      · rw [if_neg c3]
        exact if_neg c3
  · rw [if_neg c1, if_neg c1]
theorem C_isKeptAsFound {n : Nat} {g : St_Log} {lk : List MKQ} {t : T3} (hm : g_medium g = mk3 n t) (hn : 4 ≤ n ∧ n ≤ 512) (hK : MC (n / 2) (g_kept g) lk) {i : Nat} (hi : i < lk.length) {c w : Nat} (hc : (mrow (g_kept g) i).2.1 = nI c) (hc2 : c ≤ 12) (hw : (mrow (g_kept g) i).2.2.1 = nI w) (hw2 : w + 1 + ent c ≤ n) : m_Log_isKeptAsFound g (nI i) = some (foundK t.1 (mrow (g_kept g) i).1 c w (mrow (g_kept g) i).2.2.2.1) := by
  have hk := mk3_ok hn.1 hn.2 t
  have hL := hK.1.1
  have a1 : m_Marks_rowAt (g_kept g) (nI i) = some (nI w) := by rw [M_rowAt hL hi]; exact congrArg some hw
  have a2 : m_Marks_countAt (g_kept g) (nI i) = some (nI c) := by rw [M_countAt hL hi]; exact congrArg some hc
  have a0 : m_Marks_digestAt (g_kept g) (nI i) = some (mrow (g_kept g) i).2.2.2.1 := M_digestAt hL hi
  have a3 : m_Medium_at (mk3 n t) (nI w) 0 = some (t.1 (32 * w) &&& 255) := c_at hk (row := w) (i := 0) (by omega) (by omega)
  have a3b : m_Medium_at (mk3 n t) (nI w) 1 = some (t.1 (32 * w + 1) &&& 255) := c_at hk (row := w) (i := 1) (by omega) (by omega)
  have a4 : m_Medium_isSumRight (mk3 n t) (nI w) = some (sumOk t.1 w) := c_sum hk (by omega)
  have a5 : m_Medium_number (mk3 n t) (nI w) 4 4 = some (numF t.1 (32 * w + 4) 4) := c_number hk (by omega) (i := 4) (K := 4) (by omega)
  have a6 : m_Marks_numberAt (g_kept g) (nI i) = some (mrow (g_kept g) i).1 := M_numberAt hL hi
  have a8 : m_Medium_number (mk3 n t) (nI w) 8 8 = some (numF t.1 (32 * w + 8) 8) := c_number hk (by omega) (i := 8) (K := 8) (by omega)
  have a9 : m_Medium_digest (mk3 n t) (nI w + 1) (nI (ent c)) = some (digF t.1 (32 * w + 32) (32 * ent c)) := by
    rw [nI_1, c_digest hk (first := w + 1) (count := ent c) (by omega)]
    rw [show 32 * (w + 1) = 32 * w + 32 by omega]; rfl
  unfold m_Log_isKeptAsFound foundK
  rw [hm]
  refine Eq.trans (bs a1) ?_
  refine Eq.trans (bs a2) ?_
  refine Eq.trans (bs a0) ?_
  refine Eq.trans (bs a3) ?_
  by_cases c1 : t.1 (32 * w) &&& 255 = 2
  · refine Eq.trans (if_pos c1) ?_
    rw [if_pos c1]
    refine Eq.trans (bs a4) ?_
    by_cases c2 : sumOk t.1 w = 0
    · rw [if_pos c2, if_pos c2]
    · rw [if_neg c2, if_neg c2]
      refine Eq.trans (bs a5) ?_
      refine Eq.trans (bs a6) ?_
      by_cases c3 : lg_cmp (numF t.1 (32 * w + 4) 4) ((mrow (g_kept g) i).1).toInt64 = 0
      · rw [if_pos c3, if_pos c3]
        refine Eq.trans (bs a3b) ?_
        by_cases c4 : t.1 (32 * w + 1) &&& 255 = nI c
        · rw [if_pos c4, if_pos c4]
          refine Eq.trans (bs a8) ?_
          by_cases c5 : lg_cmp (numF t.1 (32 * w + 8) 8) (mrow (g_kept g) i).2.2.2.1 = 0
          · rw [if_pos c5, if_pos c5]
            refine Eq.trans (bs (C_entriesOf (by omega))) ?_
            refine Eq.trans (bs a9) ?_
            split <;> rfl
          · rw [if_neg c5, if_neg c5]
        · rw [if_neg c4, if_neg c4]
      · rw [if_neg c3, if_neg c3]
  · rw [if_neg c1, if_neg c1]
theorem lg_sym (a b : Int64) : lg_cmp a b = 0 ↔ lg_cmp b a = 0 := by
  rw [lg_cmp_eq, lg_cmp_eq]
  exact eq_comm
theorem R_isAsFound {n : Nat} {r : St_Ref} {f : Nat → Int32} (hR : RI n r) (hf : (g_Rmedium r).2 = f) (hn : n ≤ 512) {k : Nat} (hk : k < 270) {c w : Nat} (hc : (qrow r k).2.1 = nI c) (hc2 : c ≤ 12) (hw : (qrow r k).2.2.1 = nI w) (hw2 : w + 1 + ent c ≤ n) : m_RRef_isAsFound r (nI k) = some (foundK f (qrow r k).1 c w (qrow r k).2.2.2.1) := by
  have l1 : (g_Rmedium r).1 = 16384 := (ri_medium hR).1
  have lr : (g_RmRow r).1 = 270 := ri_mRow hR
  have ln : (g_RmNumber r).1 = 270 := ri_mNumber hR
  have lc : (g_RmCount r).1 = 270 := ri_mCount hR
  have ld : (g_RmDigest r).1 = 270 := ri_mDigest hR
  have c0 : (nI k).toNatClampNeg = k := nI_clamp (by omega)
  have i0 : ¬ (nI k < 0 ∨ 270 ≤ k) := by
    have := nI_in (c := k) (N := 270) (by omega) (by omega)
    rw [c0] at this
    exact this
  have er : (g_RmRow r).2 k = nI w := hw
  have ec : (g_RmCount r).2 k = nI c := hc
  have hb : ent c ≤ 6 := by unfold ent; omega
  have a3 : m_RRef_kind r (nI w) = some (f (32 * w) &&& 255) := by rw [← hf]; exact r_kind l1 (by omega)
  have a4 : m_RRef_isSummed r (nI w) = some (sumOk f w) := by rw [← hf]; exact r_sum l1 (by omega)
  have nb : ∀ a K : Nat, a + K ≤ 32 → m_RRef_number (g_Rmedium r) (32 * nI w + nI a) (nI K) = some (numF f (32 * w + a) K) := by
    intro a K h
    rw [n32, pk_mul, nI_add, ← hf]
    exact r_number (by rw [l1]; omega) (by rw [l1]; omega) (by omega)
  have a5 : m_RRef_number (g_Rmedium r) (32 * nI w + 4) 4 = some (numF f (32 * w + 4) 4) := nb 4 4 (by omega)
  have a8 : m_RRef_number (g_Rmedium r) (32 * nI w + 8) 8 = some (numF f (32 * w + 8) 8) := nb 8 8 (by omega)
  have a9 : m_RRef_digest (g_Rmedium r) (32 * nI w + 32) (32 * nI (ent c)) = some (digF f (32 * w + 32) (32 * ent c)) := by
    rw [n32, pk_mul, pk_mul, nI_add, ← hf]
    exact r_digest (by rw [l1]; omega) (by rw [l1]; omega) (by omega)
  have ea : (32 : Int32) * nI w + 1 = nI (32 * w + 1) := by rw [n32, pk_mul, nI_1]
  have ca : (nI (32 * w + 1)).toNatClampNeg = 32 * w + 1 := nI_clamp (by omega)
  have ia : ¬ (nI (32 * w + 1) < 0 ∨ 16384 ≤ 32 * w + 1) := by
    have := nI_in (c := 32 * w + 1) (N := 16384) (by omega) (by omega)
    rw [ca] at this
    exact this
  unfold m_RRef_isAsFound foundK
  rw [c0, lr, ln, lc, ld, er, ec, ea, ca, l1]
  refine Eq.trans (if_neg i0) ?_
  refine Eq.trans (if_neg i0) ?_
  refine Eq.trans (bs a3) ?_
  by_cases c1 : f (32 * w) &&& 255 = 2
  · refine Eq.trans (if_pos c1) ?_
    rw [if_pos c1]
    refine Eq.trans (if_neg i0) ?_
    refine Eq.trans (bs a4) ?_
    by_cases c2 : sumOk f w = 0
    · rw [if_pos c2, if_pos c2]
    · rw [if_neg c2, if_neg c2]
      refine Eq.trans (bs a5) ?_
      refine Eq.trans (if_neg i0) ?_
      by_cases c3 : lg_cmp (numF f (32 * w + 4) 4) ((qrow r k).1).toInt64 = 0
      · rw [if_pos c3]
        refine Eq.trans (if_pos c3) ?_
        refine Eq.trans (if_neg ia) ?_
        refine Eq.trans (if_neg i0) ?_
        rw [hf]
        by_cases c4 : f (32 * w + 1) &&& 255 = nI c
        · rw [if_pos c4, if_pos c4]
          refine Eq.trans (bs a8) ?_
          refine Eq.trans (if_neg i0) ?_
          by_cases c5 : lg_cmp (numF f (32 * w + 8) 8) (qrow r k).2.2.2.1 = 0
          · rw [if_pos c5]
            refine Eq.trans (if_pos c5) ?_
            refine Eq.trans (if_neg i0) ?_
            refine Eq.trans (if_neg i0) ?_
            refine Eq.trans (bs (R_entries (by omega))) ?_
            refine Eq.trans (bs a9) ?_
            by_cases c6 : lg_cmp (digF f (32 * w + 32) (32 * ent c)) (qrow r k).2.2.2.1 = 0
            · rw [if_pos c6]
              exact if_pos ((lg_sym _ _).mp c6)
            · rw [if_neg c6]
              exact if_neg (fun e => c6 ((lg_sym _ _).mp e))
          · rw [if_neg c5]
            exact if_neg c5
        · rw [if_neg c4, if_neg c4]
      · rw [if_neg c3]
        exact if_neg c3
  · rw [if_neg c1, if_neg c1]
