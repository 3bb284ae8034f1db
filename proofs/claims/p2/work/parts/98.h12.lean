-- A MARK IS DRAWN
def entAt (k : Nat) : Nat := 32 * (1 + k / 2) + (1 + 14 * (k % 2))
/-- one ENTRY more: number, row, digest -/
def entF (f : Nat → Int32) (k : Nat) (e : Int32 × Int32 × Int64) : Nat → Int32 := pF (pF (pF (pF f (32 * (1 + k / 2)) 1 6) (entAt k) 4 e.1.toInt64) (entAt k + 4) 2 e.2.1.toInt64) (entAt k + 6) 8 e.2.2
def entsF (es : Nat → Int32 × Int32 × Int64) : Nat → Nat → (Nat → Int32) → (Nat → Int32)
  | 0, _, f => f
  | d + 1, k, f => entsF es d (k + 1) (entF f k (es k))
theorem entsF_snoc (es : Nat → Int32 × Int32 × Int64) : ∀ (d k : Nat) (f : Nat → Int32), entsF es (d + 1) k f = entF (entsF es d k f) (k + d) (es (k + d)) := by
  intro d
  induction d with
  | zero => intro k f; rfl
  | succ d ih =>
    intro k f
    rw [entsF, ih (k + 1) (entF f k (es k)), show k + 1 + d = k + (d + 1) by omega]
    rfl
def mkH (F : Nat → Int32) (c : Nat) (num : Int32) (D : Int64) : Nat → Int32 := pF (pF (pF (pF F 0 1 2) 1 1 (nI c).toInt64) 4 4 num.toInt64) 8 8 D
def markImg (F : Nat → Int32) (c : Nat) (num : Int32) : Nat → Int32 := pF (mkH F c num (digF F 32 (32 * ent c))) 24 8 (digF (mkH F c num (digF F 32 (32 * ent c))) 0 24)
theorem By_ent {f : Nat → Int32} (h : ∀ j, By (f j)) (k : Nat) (e : Int32 × Int32 × Int64) : ∀ j, By (entF f k e j) := by
  unfold entF
  exact By_pF (By_pF (By_pF (By_pF h _ _ _) _ _ _) _ _ _) _ _ _
theorem By_ents (es : Nat → Int32 × Int32 × Int64) : ∀ (d k : Nat) (f : Nat → Int32), (∀ j, By (f j)) → ∀ j, By (entsF es d k f j) := by
  intro d
  induction d with
  | zero => intro k f h; exact h
  | succ d ih => intro k f h; exact ih _ _ (By_ent h _ _)
theorem By_mark {f : Nat → Int32} (h : ∀ j, By (f j)) (c : Nat) (num : Int32) : ∀ j, By (markImg f c num j) := by
  unfold markImg mkH
  exact By_pF (By_pF (By_pF (By_pF (By_pF h _ _ _) _ _ _) _ _ _) _ _ _) _ _ _
theorem ents_hi (es : Nat → Int32 × Int32 × Int64) : ∀ (d k : Nat) (f : Nat → Int32) (j : Nat), k + d ≤ 12 → 224 ≤ j → entsF es d k f j = f j := by
  intro d
  induction d with
  | zero => intro k f j _ _; rfl
  | succ d ih =>
    intro k f j h1 h2
    have h3 : entAt k + 14 ≤ 224 := by unfold entAt; omega
    have h4 : 32 * (1 + k / 2) + 1 ≤ 224 := by omega
    rw [entsF, ih _ _ _ (by omega) h2]
    unfold entF
    rw [pF_hi (by omega), pF_hi (by omega), pF_hi (by omega), pF_hi (by omega)]
theorem mark_hi {f : Nat → Int32} {c : Nat} {num : Int32} {j : Nat} (h : 224 ≤ j) : markImg f c num j = f j := by
  unfold markImg mkH
  rw [pF_hi (by omega), pF_hi (by omega), pF_hi (by omega), pF_hi (by omega), pF_hi (by omega)]
theorem n14 : (14 : Int32) = nI 14 := by decide +kernel
theorem n6 : (6 : Int32) = nI 6 := by decide +kernel
theorem C_entryRow {w k : Nat} (hk : k < 2 ^ 20) : m_Log_entryRow (nI w) (nI k) = some (nI (w + 1 + k / 2)) := by
  unfold m_Log_entryRow
  rw [n1, n2, pk_div (by omega) (by omega) (by omega), nI_add, nI_add]
theorem C_entryByte {k : Nat} (hk : k < 2 ^ 20) : m_Log_entryByte (nI k) = some (nI (1 + 14 * (k % 2))) := by
  unfold m_Log_entryByte jrem
  rw [n1, n2, n14, pk_rem (by omega) (by omega) (by omega), pk_mul, nI_add]
theorem C_drawEntry {n : Nat} {g : St_Log} {im : St_Bytes} {t : T3} {lp : List PQ} (him : g_image g = im) (hI : BBe 224 im) (hm : g_medium g = mk3 n t) (hn : 4 ≤ n ∧ n ≤ 512) (hP : PC n (g_parts g) lp) {k i : Nat} (hk : k < 12) (hi : i < lp.length) {num : Int32} (hnum : m_Parts_find (g_parts g) num = some (nI i)) {w : Nat} (hw : (crow (g_parts g) i).2.2.2.1 = nI w) (hwn : w < n) : ∃ im', m_Log_drawEntry g (nI k) num = some (s_image g im') ∧ im'.1.2 = entF im.1.2 k (num, nI w, numF t.1 (32 * w + 16) 8) ∧ BBe 224 im' := by
  have h3 : entAt k + 14 ≤ 224 := by unfold entAt; omega
  obtain ⟨y1, p1, c1, b1⟩ := Be_put hI (by omega) (i := 32 * (1 + k / 2)) (K := 1) (by omega) (by omega) 6
  obtain ⟨y2, p2, c2, b2⟩ := Be_put b1 (by omega) (i := entAt k) (K := 4) (by omega) (by omega) num.toInt64
  obtain ⟨y3, p3, c3, b3⟩ := Be_put b2 (by omega) (i := entAt k + 4) (K := 2) (by omega) (by omega) (nI w).toInt64
  obtain ⟨y4, p4, c4, b4⟩ := Be_put b3 (by omega) (i := entAt k + 6) (K := 8) (by omega) (by omega) (numF t.1 (32 * w + 16) 8)
  refine ⟨y4, ?_, ?_, b4⟩
  · have hrow : m_Parts_rowAt (g_parts g) (nI i) = some (nI w) := by
      rw [P_rowAt hP.1.l hi]
      exact congrArg some hw
    have er : m_Log_entryRow 0 (nI k) = some (nI (1 + k / 2)) := by
      have := C_entryRow (w := 0) (k := k) (by omega)
      rw [Nat.zero_add] at this
      rw [n0]; exact this
    have e1 : (32 : Int32) * nI (1 + k / 2) = nI (32 * (1 + k / 2)) := by rw [n32, pk_mul]
    have e2 : nI (32 * (1 + k / 2)) + nI (1 + 14 * (k % 2)) = nI (entAt k) := by rw [nI_add]; rfl
    have e3 : nI (entAt k) + 4 = nI (entAt k + 4) := by rw [n4, nI_add]
    have e4 : nI (entAt k) + 6 = nI (entAt k + 6) := by rw [n6, nI_add]
    have hnm : m_Medium_number (mk3 n t) (nI w) 16 8 = some (numF t.1 (32 * w + 16) 8) := c_number (mk3_ok hn.1 hn.2 t) hwn (i := 16) (K := 8) (by omega)
    unfold m_Log_drawEntry
    rw [him, hm]
    refine Eq.trans (bs hnum) ?_
    refine Eq.trans (bs hrow) ?_
    refine Eq.trans (bs er) ?_
    rw [e1]
    refine Eq.trans (bs (show m_Bytes_put im (nI (32 * (1 + k / 2))) 6 1 = some y1 from p1)) ?_
    refine Eq.trans (bs (C_entryByte (by omega))) ?_
    rw [e2, e3, e4]
    refine Eq.trans (bs (show m_Bytes_put y1 (nI (entAt k)) num.toInt64 4 = some y2 from p2)) ?_
    refine Eq.trans (bs (show m_Bytes_put y2 (nI (entAt k + 4)) (nI w).toInt64 2 = some y3 from p3)) ?_
    refine Eq.trans (bs hnm) ?_
    refine Eq.trans (bs (show m_Bytes_put y3 (nI (entAt k + 6)) (numF t.1 (32 * w + 16) 8) 8 = some y4 from p4)) ?_
    rfl
  · rw [c4, c3, c2, c1]
    rfl
/-- what a MARK's ENTRIES tell: number, row, digest, out of the PARTS' table and the medium -/
def EsOk (x : St_Parts) (P : Nat) (t : T3) (n : Nat) (pn : Nat → Int32) (c : Nat) (es : Nat → Int32 × Int32 × Int64) : Prop := ∀ k, k < c → ∃ i w : Nat, i < P ∧ m_Parts_find x (pn k) = some (nI i) ∧ (crow x i).1 = pn k ∧ (crow x i).2.2.2.1 = nI w ∧ w < n ∧ es k = (pn k, nI w, numF t.1 (32 * w + 16) 8)
theorem C_dM_L {n : Nat} {g : St_Log} {t : T3} {lp : List PQ} {Q : Nat} (hm : g_medium g = mk3 n t) (hn : 4 ≤ n ∧ n ≤ 512) (hP : PC n (g_parts g) lp) (hML : ML 6 (g_made g) Q) {a c : Nat} (ha : a < Q) (hc : (g_made g).2.1.2 a = nI c) (hc2 : 1 ≤ c ∧ c ≤ 12) {es : Nat → Int32 × Int32 × Int64} (hes : EsOk (g_parts g) lp.length t n (fun k => (g_made g).2.2.2.1.2 (12 * a + k)) c es) : ∀ (d fuel k : Nat) (im : St_Bytes), BBe 224 im → k + d = c → d < fuel → ∃ im', m_Log_drawMark_L18 fuel (s_image g im) (nI a) (nI c) (nI k) = some (digF (entsF es d k im.1.2) 32 (32 * ent c), s_image g im') ∧ im'.1.2 = markImg (entsF es d k im.1.2) c ((g_made g).1.2 a) ∧ BBe 224 im' := by
  have he6 : ent c ≤ 6 := by unfold ent; omega
  intro d
  induction d with
  | zero =>
    intro fuel k im hI hk hf
    obtain ⟨fu, rfl, -⟩ := fu1 hf
    show ∃ im', m_Log_drawMark_L18 (fu + 1) (s_image g im) (nI a) (nI c) (nI k) = some (digF im.1.2 32 (32 * ent c), s_image g im') ∧ im'.1.2 = markImg im.1.2 c ((g_made g).1.2 a) ∧ BBe 224 im'
    have d1 : m_Bytes_digest im 32 (32 * nI (1 + ent c)) = some (digF im.1.2 32 (32 * ent c)) := by
      rw [n32, pk_mul]
      have h := Be_dig hI (by omega) (a := 32) (b := 32 * (1 + ent c)) (by omega) (by omega)
      rw [show 32 * (1 + ent c) - 32 = 32 * ent c by omega] at h
      exact h
    obtain ⟨y1, p1, c1, b1⟩ := Be_put hI (by omega) (i := 0) (K := 1) (by omega) (by omega) 2
    obtain ⟨y2, p2, c2, b2⟩ := Be_put b1 (by omega) (i := 1) (K := 1) (by omega) (by omega) (nI c).toInt64
    obtain ⟨y3, p3, c3, b3⟩ := Be_put b2 (by omega) (i := 4) (K := 4) (by omega) (by omega) ((g_made g).1.2 a).toInt64
    obtain ⟨y4, p4, c4, b4⟩ := Be_put b3 (by omega) (i := 8) (K := 8) (by omega) (by omega) (digF im.1.2 32 (32 * ent c))
    obtain ⟨im', s1, s2, s3⟩ := C_drawSum (g := s_image g y4) (im := y4) rfl b4
    refine ⟨im', ?_, ?_, s3⟩
    · rw [m_Log_drawMark_L18]
      refine Eq.trans (if_pos (nI_le (by omega) (by omega))) ?_
      simp only [q_image, q_made, ss_image]
      refine Eq.trans (bs (C_rowsOfMark (by omega))) ?_
      refine Eq.trans (bs d1) ?_
      refine Eq.trans (bs (show m_Bytes_put im 0 2 1 = some y1 from p1)) ?_
      refine Eq.trans (bs (show m_Bytes_put y1 1 (nI c).toInt64 1 = some y2 from p2)) ?_
      refine Eq.trans (bs (M_numberAt hML ha)) ?_
      refine Eq.trans (bs (show m_Bytes_put y2 4 ((g_made g).1.2 a).toInt64 4 = some y3 from p3)) ?_
      refine Eq.trans (bs (show m_Bytes_put y3 8 (digF im.1.2 32 (32 * ent c)) 8 = some y4 from p4)) ?_
      refine Eq.trans (bs s1) ?_
      rfl
    · rw [s2, c4, c3, c2, c1]; rfl
  | succ d ih =>
    intro fuel k im hI hk hf
    obtain ⟨fu, rfl, hf'⟩ := fu1 hf
    obtain ⟨i, w, hi, z1, z2, z3, z4, z5⟩ := hes k (by omega)
    obtain ⟨im1, a1, a2, a3⟩ := C_drawEntry (g := s_image g im) (im := im) (t := t) (n := n) (lp := lp) rfl hI (by simp only [q_medium]; exact hm) hn (by simp only [q_parts]; exact hP) (k := k) (i := i) (by omega) hi (num := (g_made g).2.2.2.1.2 (12 * a + k)) (by simp only [q_parts]; exact z1) (w := w) (by simp only [q_parts]; exact z3) z4
    obtain ⟨im', b1, b2, b3⟩ := ih fu (k + 1) im1 a3 (by omega) (by omega)
    have he : im1.1.2 = entF im.1.2 k (es k) := by rw [a2, z5]
    rw [he] at b1 b2
    refine ⟨im', ?_, b2, b3⟩
    rw [m_Log_drawMark_L18]
    refine Eq.trans (if_neg (nI_ge (by omega) (by omega))) ?_
    simp only [q_made]
    have hpa := M_partAt hML ha hc hc2.2 (nI k)
    rw [if_neg (show ¬ (nI k < 0 ∨ nI c ≤ nI k) from fun e => e.elim (nI_pos (by omega)) (nI_ge (by omega) (by omega))), nI_clamp (by omega)] at hpa
    refine Eq.trans (bs hpa) ?_
    refine Eq.trans (bs a1) ?_
    simp only [ss_image]
    rw [nI_1]
    exact b1
theorem C_drawMark {n : Nat} {g : St_Log} {t : T3} {lp : List PQ} {Q : Nat} (hm : g_medium g = mk3 n t) (hn : 4 ≤ n ∧ n ≤ 512) (hI : BBe 224 (g_image g)) (hP : PC n (g_parts g) lp) (hML : ML 6 (g_made g) Q) {a c : Nat} (ha : a < Q) (hc : (g_made g).2.1.2 a = nI c) (hc2 : 1 ≤ c ∧ c ≤ 12) {es : Nat → Int32 × Int32 × Int64} (hes : EsOk (g_parts g) lp.length t n (fun k => (g_made g).2.2.2.1.2 (12 * a + k)) c es) : ∃ im', m_Log_drawMark g (nI a) = some (digF (entsF es c 0 (fun _ => 0)) 32 (32 * ent c), s_image g im') ∧ im'.1.2 = markImg (entsF es c 0 (fun _ => 0)) c ((g_made g).1.2 a) ∧ BBe 224 im' := by
  obtain ⟨e1, e2⟩ := Be_clear hI (by omega)
  obtain ⟨im', h1, h2, h3⟩ := C_dM_L hm hn hP hML ha hc hc2 hes c FU 0 ((224, fun _ => 0), 0) e2 (by omega) (FU_lt (by omega))
  refine ⟨im', ?_, h2, h3⟩
  unfold m_Log_drawMark
  refine Eq.trans (bs (M_countAt hML ha)) ?_
  rw [hc]
  refine Eq.trans (bs e1) ?_
  rw [n0]
  exact h1
