-- A MARK IS DRAWN
def entAt (k : Nat) : Nat := 32 * (1 + k / 2) + (1 + 14 * (k % 2))
/-- one ENTRY more: number, row, digest -/
def entF (f : Nat → Int32) (k : Nat) (e : Int32 × Int32 × Int64) : Nat → Int32 := pF (pF (pF (pF f (32 * (1 + k / 2)) 1 6) (entAt k) 4 e.1.toInt64) (entAt k + 4) 2 e.2.1.toInt64) (entAt k + 6) 8 e.2.2
def entsF (es : Nat → Int32 × Int32 × Int64) : Nat → Nat → (Nat → Int32) → (Nat → Int32)
  | 0, _, f => f
  | d + 1, k, f => entsF es d (k + 1) (entF f k (es k))
theorem entsF_snoc (es : Nat → Int32 × Int32 × Int64) : ∀ (d k : Nat) (f : Nat → Int32), entsF es (d + 1) k f = entF (entsF es d k f) (k + d) (es (k + d)) := by
  intro d
  induction d with
  | zero => intro k f; rfl
  | succ d ih =>
    intro k f
    rw [entsF, ih (k + 1) (entF f k (es k)), show k + 1 + d = k + (d + 1) by omega]
    rfl
def mkH (F : Nat → Int32) (c : Nat) (num : Int32) (D : Int64) : Nat → Int32 := pF (pF (pF (pF F 0 1 2) 1 1 (nI c).toInt64) 4 4 num.toInt64) 8 8 D
def markImg (F : Nat → Int32) (c : Nat) (num : Int32) : Nat → Int32 := pF (mkH F c num (digF F 32 (32 * ent c))) 24 8 (digF (mkH F c num (digF F 32 (32 * ent c))) 0 24)
theorem By_ent {f : Nat → Int32} (h : ∀ j, By (f j)) (k : Nat) (e : Int32 × Int32 × Int64) : ∀ j, By (entF f k e j) := by
  unfold entF
  exact By_pF (By_pF (By_pF (By_pF h _ _ _) _ _ _) _ _ _) _ _ _
theorem By_ents (es : Nat → Int32 × Int32 × Int64) : ∀ (d k : Nat) (f : Nat → Int32), (∀ j, By (f j)) → ∀ j, By (entsF es d k f j) := by
  intro d
  induction d with
  | zero => intro k f h; exact h
  | succ d ih => intro k f h; exact ih _ _ (By_ent h _ _)
theorem By_mark {f : Nat → Int32} (h : ∀ j, By (f j)) (c : Nat) (num : Int32) : ∀ j, By (markImg f c num j) := by
  unfold markImg mkH
  exact By_pF (By_pF (By_pF (By_pF (By_pF h _ _ _) _ _ _) _ _ _) _ _ _) _ _ _
theorem ents_hi (es : Nat → Int32 × Int32 × Int64) : ∀ (d k : Nat) (f : Nat → Int32) (j : Nat), k + d ≤ 12 → 224 ≤ j → entsF es d k f j = f j := by
  intro d
  induction d with
  | zero => intro k f j _ _; rfl
  | succ d ih =>
    intro k f j h1 h2
    have h3 : entAt k + 14 ≤ 224 := by unfold entAt; omega
    have h4 : 32 * (1 + k / 2) + 1 ≤ 224 := by omega
    rw [entsF, ih _ _ _ (by omega) h2]
    unfold entF
    rw [pF_hi (by omega), pF_hi (by omega), pF_hi (by omega), pF_hi (by omega)]
theorem mark_hi {f : Nat → Int32} {c : Nat} {num : Int32} {j : Nat} (h : 224 ≤ j) : markImg f c num j = f j := by
  unfold markImg mkH
  rw [pF_hi (by omega), pF_hi (by omega), pF_hi (by omega), pF_hi (by omega), pF_hi (by omega)]
theorem n14 : (14 : Int32) = nI 14 := by decide +kernel
theorem n6 : (6 : Int32) = nI 6 := by decide +kernel
theorem C_entryRow {w k : Nat} (hk : k < 2 ^ 20) : m_Log_entryRow (nI w) (nI k) = some (nI (w + 1 + k / 2)) := by
  unfold m_Log_entryRow
  rw [n1, n2, pk_div (by omega) (by omega) (by omega), nI_add, nI_add]
theorem C_entryByte {k : Nat} (hk : k < 2 ^ 20) : m_Log_entryByte (nI k) = some (nI (1 + 14 * (k % 2))) := by
  unfold m_Log_entryByte jrem
  rw [n1, n2, n14, pk_rem (by omega) (by omega) (by omega), pk_mul, nI_add]
theorem C_drawEntry {n : Nat} {g : St_Log} {im : St_Bytes} {t : T3} {lp : List PQ} (him : g_image g = im) (hI : BBe 224 im) (hm : g_medium g = mk3 n t) (hn : 4 ≤ n ∧ n ≤ 512) (hP : PC n (g_parts g) lp) {k i : Nat} (hk : k < 12) (hi : i < lp.length) {num : Int32} (hnum : m_Parts_find (g_parts g) num = some (nI i)) {w : Nat} (hw : (crow (g_parts g) i).2.2.2.1 = nI w) (hwn : w < n) : ∃ im', m_Log_drawEntry g (nI k) num = some (s_image g im') ∧ im'.1.2 = entF im.1.2 k (num, nI w, numF t.1 (32 * w + 16) 8) ∧ BBe 224 im' := by
  have h3 : entAt k + 14 ≤ 224 := by unfold entAt; omega
  obtain ⟨y1, p1, c1, b1⟩ := Be_put hI (by omega) (i := 32 * (1 + k / 2)) (K := 1) (by omega) (by omega) 6
  obtain ⟨y2, p2, c2, b2⟩ := Be_put b1 (by omega) (i := entAt k) (K := 4) (by omega) (by omega) num.toInt64
  obtain ⟨y3, p3, c3, b3⟩ := Be_put b2 (by omega) (i := entAt k + 4) (K := 2) (by omega) (by omega) (nI w).toInt64
  obtain ⟨y4, p4, c4, b4⟩ := Be_put b3 (by omega) (i := entAt k + 6) (K := 8) (by omega) (by omega) (numF t.1 (32 * w + 16) 8)
  refine ⟨y4, ?_, ?_, b4⟩
  · have hrow : m_Parts_rowAt (g_parts g) (nI i) = some (nI w) := by
      rw [P_rowAt hP.1.l hi]
      exact congrArg some hw
    have er : m_Log_entryRow 0 (nI k) = some (nI (1 + k / 2)) := by
      have := C_entryRow (w := 0) (k := k) (by omega)
      rw [Nat.zero_add] at this
      rw [n0]; exact this
    have e1 : (32 : Int32) * nI (1 + k / 2) = nI (32 * (1 + k / 2)) := by rw [n32, pk_mul]
    have e2 : nI (32 * (1 + k / 2)) + nI (1 + 14 * (k % 2)) = nI (entAt k) := by rw [nI_add]; rfl
    have e3 : nI (entAt k) + 4 = nI (entAt k + 4) := by rw [n4, nI_add]
    have e4 : nI (entAt k) + 6 = nI (entAt k + 6) := by rw [n6, nI_add]
    have hnm : m_Medium_number (mk3 n t) (nI w) 16 8 = some (numF t.1 (32 * w + 16) 8) := c_number (mk3_ok hn.1 hn.2 t) hwn (i := 16) (K := 8) (by omega)
    unfold m_Log_drawEntry
    rw [him, hm]
    refine Eq.trans (bs hnum) ?_
    refine Eq.trans (bs hrow) ?_
    refine Eq.trans (bs er) ?_
    rw [e1]
    refine Eq.trans (bs (show m_Bytes_put im (nI (32 * (1 + k / 2))) 6 1 = some y1 from p1)) ?_
    refine Eq.trans (bs (C_entryByte (by omega))) ?_
    rw [e2, e3, e4]
    refine Eq.trans (bs (show m_Bytes_put y1 (nI (entAt k)) num.toInt64 4 = some y2 from p2)) ?_
    refine Eq.trans (bs (show m_Bytes_put y2 (nI (entAt k + 4)) (nI w).toInt64 2 = some y3 from p3)) ?_
    refine Eq.trans (bs hnm) ?_
    refine Eq.trans (bs (show m_Bytes_put y3 (nI (entAt k + 6)) (numF t.1 (32 * w + 16) 8) 8 = some y4 from p4)) ?_
    rfl
  · rw [c4, c3, c2, c1]
    rfl
/-- what a MARK's ENTRIES tell: number, row, digest, out of the PARTS' table and the medium -/
def EsOk (x : St_Parts) (P : Nat) (t : T3) (n : Nat) (pn : Nat → Int32) (c : Nat) (es : Nat → Int32 × Int32 × Int64) : Prop := ∀ k, k < c → ∃ i w : Nat, i < P ∧ m_Parts_find x (pn k) = some (nI i) ∧ (crow x i).1 = pn k ∧ (crow x i).2.2.2.1 = nI w ∧ w < n ∧ es k = (pn k, nI w, numF t.1 (32 * w + 16) 8)
theorem C_dM_L {n : Nat} {g : St_Log} {t : T3} {lp : List PQ} {Q : Nat} (hm : g_medium g = mk3 n t) (hn : 4 ≤ n ∧ n ≤ 512) (hP : PC n (g_parts g) lp) (hML : ML 6 (g_made g) Q) {a c : Nat} (ha : a < Q) (hc : (g_made g).2.1.2 a = nI c) (hc2 : 1 ≤ c ∧ c ≤ 12) {es : Nat → Int32 × Int32 × Int64} (hes : EsOk (g_parts g) lp.length t n (fun k => (g_made g).2.2.2.1.2 (12 * a + k)) c es) : ∀ (d fuel k : Nat) (im : St_Bytes), BBe 224 im → k + d = c → d < fuel → ∃ im', m_Log_drawMark_L18 fuel (s_image g im) (nI a) (nI c) (nI k) = some (digF (entsF es d k im.1.2) 32 (32 * ent c), s_image g im') ∧ im'.1.2 = markImg (entsF es d k im.1.2) c ((g_made g).1.2 a) ∧ BBe 224 im' := by
  have he6 : ent c ≤ 6 := by unfold ent; omega
  intro d
  induction d with
  | zero =>
    intro fuel k im hI hk hf
    obtain ⟨fu, rfl, -⟩ := fu1 hf
    show ∃ im', m_Log_drawMark_L18 (fu + 1) (s_image g im) (nI a) (nI c) (nI k) = some (digF im.1.2 32 (32 * ent c), s_image g im') ∧ im'.1.2 = markImg im.1.2 c ((g_made g).1.2 a) ∧ BBe 224 im'
    have d1 : m_Bytes_digest im 32 (32 * nI (1 + ent c)) = some (digF im.1.2 32 (32 * ent c)) := by
      rw [n32, pk_mul]
      have h := Be_dig hI (by omega) (a := 32) (b := 32 * (1 + ent c)) (by omega) (by omega)
      rw [show 32 * (1 + ent c) - 32 = 32 * ent c by omega] at h
      exact h
    obtain ⟨y1, p1, c1, b1⟩ := Be_put hI (by omega) (i := 0) (K := 1) (by omega) (by omega) 2
    obtain ⟨y2, p2, c2, b2⟩ := Be_put b1 (by omega) (i := 1) (K := 1) (by omega) (by omega) (nI c).toInt64
    obtain ⟨y3, p3, c3, b3⟩ := Be_put b2 (by omega) (i := 4) (K := 4) (by omega) (by omega) ((g_made g).1.2 a).toInt64
    obtain ⟨y4, p4, c4, b4⟩ := Be_put b3 (by omega) (i := 8) (K := 8) (by omega) (by omega) (digF im.1.2 32 (32 * ent c))
    obtain ⟨im', s1, s2, s3⟩ := C_drawSum (g := s_image g y4) (im := y4) rfl b4
    refine ⟨im', ?_, ?_, s3⟩
    · rw [m_Log_drawMark_L18]
      refine Eq.trans (if_pos (nI_le (by omega) (by omega))) ?_
      simp only [q_image, q_made, ss_image]
      refine Eq.trans (bs (C_rowsOfMark (by omega))) ?_
      refine Eq.trans (bs d1) ?_
      refine Eq.trans (bs (show m_Bytes_put im 0 2 1 = some y1 from p1)) ?_
      refine Eq.trans (bs (show m_Bytes_put y1 1 (nI c).toInt64 1 = some y2 from p2)) ?_
      refine Eq.trans (bs (M_numberAt hML ha)) ?_
      refine Eq.trans (bs (show m_Bytes_put y2 4 ((g_made g).1.2 a).toInt64 4 = some y3 from p3)) ?_
      refine Eq.trans (bs (show m_Bytes_put y3 8 (digF im.1.2 32 (32 * ent c)) 8 = some y4 from p4)) ?_
      refine Eq.trans (bs s1) ?_
      rfl
    · rw [s2, c4, c3, c2, c1]; rfl
  | succ d ih =>
    intro fuel k im hI hk hf
    obtain ⟨fu, rfl, hf'⟩ := fu1 hf
    obtain ⟨i, w, hi, z1, z2, z3, z4, z5⟩ := hes k (by omega)
    obtain ⟨im1, a1, a2, a3⟩ := C_drawEntry (g := s_image g im) (im := im) (t := t) (n := n) (lp := lp) rfl hI (by simp only [q_medium]; exact hm) hn (by simp only [q_parts]; exact hP) (k := k) (i := i) (by omega) hi (num := (g_made g).2.2.2.1.2 (12 * a + k)) (by simp only [q_parts]; exact z1) (w := w) (by simp only [q_parts]; exact z3) z4
    obtain ⟨im', b1, b2, b3⟩ := ih fu (k + 1) im1 a3 (by omega) (by omega)
    have he : im1.1.2 = entF im.1.2 k (es k) := by rw [a2, z5]
    rw [he] at b1 b2
    refine ⟨im', ?_, b2, b3⟩
    rw [m_Log_drawMark_L18]
    refine Eq.trans (if_neg (nI_ge (by omega) (by omega))) ?_
    simp only [q_made]
    have hpa := M_partAt hML ha hc hc2.2 (nI k)
    rw [if_neg (show ¬ (nI k < 0 ∨ nI c ≤ nI k) from fun e => e.elim (nI_pos (by omega)) (nI_ge (by omega) (by omega))), nI_clamp (by omega)] at hpa
    refine Eq.trans (bs hpa) ?_
    refine Eq.trans (bs a1) ?_
    simp only [ss_image]
    rw [nI_1]
    exact b1
theorem C_drawMark {n : Nat} {g : St_Log} {t : T3} {lp : List PQ} {Q : Nat} (hm : g_medium g = mk3 n t) (hn : 4 ≤ n ∧ n ≤ 512) (hI : BBe 224 (g_image g)) (hP : PC n (g_parts g) lp) (hML : ML 6 (g_made g) Q) {a c : Nat} (ha : a < Q) (hc : (g_made g).2.1.2 a = nI c) (hc2 : 1 ≤ c ∧ c ≤ 12) {es : Nat → Int32 × Int32 × Int64} (hes : EsOk (g_parts g) lp.length t n (fun k => (g_made g).2.2.2.1.2 (12 * a + k)) c es) : ∃ im', m_Log_drawMark g (nI a) = some (digF (entsF es c 0 (fun _ => 0)) 32 (32 * ent c), s_image g im') ∧ im'.1.2 = markImg (entsF es c 0 (fun _ => 0)) c ((g_made g).1.2 a) ∧ BBe 224 im' := by
  obtain ⟨e1, e2⟩ := Be_clear hI (by omega)
  obtain ⟨im', h1, h2, h3⟩ := C_dM_L hm hn hP hML ha hc hc2 hes c FU 0 ((224, fun _ => 0), 0) e2 (by omega) (FU_lt (by omega))
  refine ⟨im', ?_, h2, h3⟩
  unfold m_Log_drawMark
  refine Eq.trans (bs (M_countAt hML ha)) ?_
  rw [hc]
  refine Eq.trans (bs e1) ?_
  rw [n0]
  exact h1
-- THE REFERENCE KEEPS A MARK
theorem R_entryAt0 {k : Nat} (hk : k < 2 ^ 20) : m_RRef_entryAt 0 (nI k) = some (nI (entAt k)) := by
  unfold m_RRef_entryAt jrem entAt
  rw [n0, n1, n2, n14, n32, pk_rem (by omega) (by omega) (by omega), pk_div (by omega) (by omega) (by omega), nI_add, nI_add, pk_mul, pk_mul, nI_add, nI_add, Nat.zero_add, ← Nat.add_assoc]
/-- the same but for what is only drawn upon -/
def FrK (r G : St_Ref) : Prop := fMed G = fMed r ∧ fTap G = fTap r ∧ fPar G = fPar r ∧ fMrk G = fMrk r ∧ fHd G = fHd r ∧ fLs G = fLs r
theorem FrK.rf (r : St_Ref) : FrK r r := ⟨rfl, rfl, rfl, rfl, rfl, rfl⟩
theorem FrK.tr {a b c : St_Ref} (h : FrK a b) (k : FrK b c) : FrK a c := ⟨k.1.trans h.1, k.2.1.trans h.2.1, k.2.2.1.trans h.2.2.1, k.2.2.2.1.trans h.2.2.2.1, k.2.2.2.2.1.trans h.2.2.2.2.1, k.2.2.2.2.2.trans h.2.2.2.2.2⟩
theorem rtri_fr {r G : St_Ref} (h : fMed G = fMed r) : rtri G = rtri r := by
  unfold rtri
  rw [e_medium h, e_cutIn h, e_written h]
/-- what keeping leaves -/
def KpOut (n : Nat) (r : St_Ref) (j w c : Nat) (D : Int64) (q : Int32 × T3) (o : Option (Int32 × St_Ref)) : Prop := ∃ r', o = some (if q.1 = 0 then (-5) else 1, r') ∧ RI n r' ∧ rtri r' = q.2 ∧ (q.1 = 0 → g_Ropen r' = 0) ∧ (q.1 = 1 → g_Ropen r' = g_Ropen r) ∧ fTap r' = fTap r ∧ fPar r' = fPar r ∧ fHd r' = fHd r ∧ fLs r' = fLs r ∧ g_Rmarks r' = g_Rmarks r ∧ (q.1 = 1 → ∀ k, qrow r' k = if k = j then ((g_RmNumber r).2 j, (g_RmCount r).2 j, nI w, D, mls ((g_RmCount r).2 j) (g_RmPart r).2 j) else qrow r k)
theorem R_kp_run {n : Nat} {G : St_Ref} (hG : RI n G) {F : Nat → Int32} (hd : g_Rdraft G = (256, F)) {j i w : Nat} (hj : j < 270) (hcG : (g_RmCount G).2 j = nI i) (hc2 : 1 ≤ i ∧ i ≤ 12) (v : Int32) (fu : Nat) {D : Int64} (hD : D = digF F 32 (32 * ent i)) {G1 : St_Ref} (hG1 : G1 = s_RmDigest G ((g_RmDigest G).1, vp_updL (g_RmDigest G).2 j D)) {I : Nat → Int32} (hI : I = markImg F i v) {q : Int32} {R1 : St_Ref} (hw2 : m_RRef_writeAll (s_Rdraft G1 (256, I)) (nI w) (nI (1 + ent i)) = some (q, R1)) (hR1 : (g_RmRow R1).1 = 270) : m_RRef_keep_L72 (fu + 1) G v (nI j) (nI (ent i)) (nI w) (nI i) = (if q = 0 then some ((-5), R1) else some (1, (s_RmRow R1 ((g_RmRow R1).1, upd (g_RmRow R1).2 j (nI w))))) := by
  have he6 : ent i ≤ 6 := by unfold ent; omega
  have c0 : (nI j).toNatClampNeg = j := nI_clamp (by omega)
  have l1 : (g_RmCount G).1 = 270 := ri_mCount hG
  have l2 : (g_RmDigest G).1 = 270 := ri_mDigest hG
  have i0 : ∀ M, M = 270 → ¬ (nI j < 0 ∨ M ≤ j) := fun M hM => by
    have := nI_in (c := j) (N := 270) hj (by omega)
    rw [c0] at this
    rw [hM]; exact this
  have d1 : m_RRef_digest (256, F) 32 (32 * nI (ent i)) = some D := by
    rw [n32, pk_mul, hD]
    exact r_digest (x := (256, F)) (by show 32 + 32 * ent i ≤ 256; omega) (by show 256 < 2 ^ 31; omega) (by omega)
  have u0 : upd (upd F (0 : Int32).toNatClampNeg (vp_nar .byte 2)) (1 : Int32).toNatClampNeg (vp_nar .byte ((nI i).toInt8.toInt32)) = pF (pF F 0 1 2) 1 1 (nI i).toInt64 := by
    rw [pF1, pF1, bv_i]; rfl
  obtain ⟨F1, hF1⟩ : ∃ F1, F1 = pF (pF F 0 1 2) 1 1 (nI i).toInt64 := ⟨_, rfl⟩
  have u1 : m_RRef_put (256, F1) 4 4 v.toInt64 = some (256, pF F1 4 4 v.toInt64) := R_put (x := (256, F1)) (i := 4) (K := 4) (by show 256 < 2 ^ 31; omega) (by omega) (by show 4 + 4 ≤ 256; omega) _
  obtain ⟨F3, hF3⟩ : ∃ F3, F3 = pF F1 4 4 v.toInt64 := ⟨_, rfl⟩
  have u2 : m_RRef_put (256, F3) 8 8 D = some (256, pF F3 8 8 D) := R_put (x := (256, F3)) (i := 8) (K := 8) (by show 256 < 2 ^ 31; omega) (by omega) (by show 8 + 8 ≤ 256; omega) _
  obtain ⟨F2, hF2⟩ : ∃ F2, F2 = pF F3 8 8 D := ⟨_, rfl⟩
  have hI2 : pF F2 24 8 (digF F2 0 24) = I := by rw [hI, hF2, hF3, hF1, hD]; rfl
  have s1 := R_sumDraft (g := s_Rdraft G1 (256, F2)) rfl
  rw [sr_draft, hI2] at s1
  rw [← hF3] at u1
  rw [← hF2] at u2
  rw [← hF1] at u0
  rw [m_RRef_keep_L72, c0, hd, hcG]
  refine Eq.trans (if_neg (i0 _ l1)) ?_
  refine Eq.trans (if_pos (Int32.le_refl _)) ?_
  refine Eq.trans (bs d1) ?_
  refine Eq.trans (if_neg (i0 _ l2)) ?_
  refine Eq.trans (if_neg (show ¬ ((0 : Int32) < 0 ∨ 256 ≤ (0 : Int32).toNatClampNeg) by decide)) ?_
  refine Eq.trans (if_neg (i0 _ l1)) ?_
  refine Eq.trans (if_neg (show ¬ ((1 : Int32) < 0 ∨ 256 ≤ (1 : Int32).toNatClampNeg) by decide)) ?_
  simp only
  rw [u0]
  refine Eq.trans (bs u1) ?_
  refine Eq.trans (if_neg (i0 _ l2)) ?_
  rw [pk_uLs]
  refine Eq.trans (bs u2) ?_
  rw [sr_draft, sr_draft, sr_draft, ← hG1]
  refine Eq.trans (bs s1) ?_
  rw [n1, nI_add]
  refine Eq.trans (bs hw2) ?_
  simp only
  by_cases h0 : q = 0
  · rw [if_pos h0, if_pos h0]
  · rw [if_neg h0, if_neg h0]
    exact if_neg (i0 _ hR1)
theorem R_kp_exit {n : Nat} {r G : St_Ref} (hG : RI n G) (hF : FrK r G) {F : Nat → Int32} (hd : g_Rdraft G = (256, F)) (hB : ∀ j, By (F j)) (hz : ∀ j, 224 ≤ j → F j = 0) {j c w : Nat} (hj : j < 270) (hc : (g_RmCount r).2 j = nI c) (hc2 : 1 ≤ c ∧ c ≤ 12) (hw : w + 1 + ent c ≤ 512) (v : Int32) (fu : Nat) {i : Nat} (hi : i = c) : KpOut n r j w c (digF F 32 (32 * ent c)) (wrM (markImg F c v) w (ent c) 1 (rtri r)) (m_RRef_keep_L72 (fu + 1) G v (nI j) (nI (ent c)) (nI w) (nI i)) := by
  subst hi
  have he6 : ent i ≤ 6 := by unfold ent; omega
  have c0 : (nI j).toNatClampNeg = j := nI_clamp (by omega)
  have l1 : (g_RmCount G).1 = 270 := ri_mCount hG
  have l2 : (g_RmDigest G).1 = 270 := ri_mDigest hG
  have l3 : (g_RmRow G).1 = 270 := ri_mRow hG
  have i0 : ∀ M, M = 270 → ¬ (nI j < 0 ∨ M ≤ j) := fun M hM => by
    have := nI_in (c := j) (N := 270) hj (by omega)
    rw [c0] at this
    rw [hM]; exact this
  have hcG : (g_RmCount G).2 j = nI i := by rw [e_mCount hF.2.2.2.1]; exact hc
  obtain ⟨D, hD⟩ : ∃ D, D = digF F 32 (32 * ent i) := ⟨_, rfl⟩
  obtain ⟨I, hI⟩ : ∃ I, I = markImg F i v := ⟨_, rfl⟩
  have hIB : ∀ k, By (I k) := by rw [hI]; exact By_mark hB _ _
  have hIz : kDr (256, I) := ⟨rfl, fun k hk => by show I k = 0; rw [hI, mark_hi (by omega)]; exact hz k (by omega)⟩
  obtain ⟨G1, hG1⟩ : ∃ G1, G1 = s_RmDigest G ((g_RmDigest G).1, vp_updL (g_RmDigest G).2 j D) := ⟨_, rfl⟩
  have hRG1 : RI n G1 := by
    rw [hG1]
    refine rs_mDigest hG ?_
    exact l2
  have hRG2 : RI n (s_Rdraft G1 (256, I)) := rs_draft hRG1 hIz
  have hw1 := R_writeAll (g := s_Rdraft G1 (256, I)) (ri_medium hRG2).1 rfl hIB (row := w) (count := 1 + ent i) (by omega) (by omega) (ri_cutIn hRG2)
  have htr : rtri (s_Rdraft G1 (256, I)) = rtri r := by
    have : rtri (s_Rdraft G1 (256, I)) = rtri G := by
      rw [hG1]
      simp only [rtri, qR_medium, qR_cutIn, qR_written]
    rw [this, rtri_fr hF.1]
  have hw2 : m_RRef_writeAll (s_Rdraft G1 (256, I)) (nI w) (nI (1 + ent i)) = some ((wrM I w (ent i) 1 (rtri r)).1, rout (s_Rdraft G1 (256, I)) (wrM I w (ent i) 1 (rtri r))) := by
    rw [htr, show 1 + ent i - 1 = ent i by omega] at hw1
    exact hw1
  have hpw : Pw (rtri r).2.1 := by rw [← rtri_fr hF.1]; exact ri_cutIn hG
  have hby : ∀ k, By ((rtri r).1 k) := by rw [← rtri_fr hF.1]; exact (ri_medium hG).2
  have q1 := wrM_ok I w (ent i) 1 (rtri r)
  have q2 := wrM_pw I w (ent i) 1 (rtri r) hpw
  have q3 := wrM_by I hIB w (ent i) 1 (rtri r) hby
  rw [← hI]
  obtain ⟨q, hq⟩ : ∃ q, q = wrM I w (ent i) 1 (rtri r) := ⟨_, rfl⟩
  rw [← hq] at hw2 q1 q2 q3 ⊢
  obtain ⟨f1, f2, f3, f4, f5, -, -, -⟩ := fr_rout (s_Rdraft G1 (256, I)) q
  obtain ⟨R1, hR1⟩ : ∃ R1, R1 = rout (s_Rdraft G1 (256, I)) q := ⟨_, rfl⟩
  have hRR1 : RI n R1 := by rw [hR1]; exact RI_rout hRG2 q2 q3
  rw [← hR1] at hw2 f1 f2 f3 f4 f5
  rw [hG1] at f1 f2 f4 f5
  simp only [qf_Tap, qf_Par, qf_Hd, qf_Ls] at f1 f2 f4 f5
  have ftri : rtri R1 = q.2 := by rw [hR1]; exact rout_tri _ _
  have m1 : g_Rmarks R1 = g_Rmarks r := by rw [e_marks f3, hG1]; simp only [qR_marks]; exact e_marks hF.2.2.2.1
  have m2 : g_RmNumber R1 = g_RmNumber r := by rw [e_mNumber f3, hG1]; simp only [qR_mNumber]; exact e_mNumber hF.2.2.2.1
  have m3 : g_RmRow R1 = g_RmRow r := by rw [e_mRow f3, hG1]; simp only [qR_mRow]; exact e_mRow hF.2.2.2.1
  have m4 : g_RmCount R1 = g_RmCount r := by rw [e_mCount f3, hG1]; simp only [qR_mCount]; exact e_mCount hF.2.2.2.1
  have m5 : g_RmPart R1 = g_RmPart r := by rw [e_mPart f3, hG1]; simp only [qR_mPart]; exact e_mPart hF.2.2.2.1
  have m6 : g_RmDigest R1 = ((g_RmDigest r).1, vp_updL (g_RmDigest r).2 j D) := by rw [e_mDigest f3, hG1]; simp only [qR_mDigest]; rw [e_mDigest hF.2.2.2.1]
  have hop : q.1 = 1 → g_Ropen R1 = g_Ropen r := fun h => by
    rw [hR1, rout_open1 h, hG1]
    simp only [qR_open]
    exact e_open hF.1
  have run := R_kp_run (n := n) (w := w) hG hd hj hcG hc2 v fu hD hG1 hI hw2 (ri_mRow hRR1)
  rw [run]
  by_cases h0 : q.1 = 0
  · rw [if_pos h0]
    refine ⟨R1, by rw [if_pos h0], hRR1, ftri, fun _ => by rw [hR1, rout_open0 h0], hop, f1.trans hF.2.1, f2.trans hF.2.2.1, f4.trans hF.2.2.2.2.1, f5.trans hF.2.2.2.2.2, m1, fun h1 => ?_⟩
    rw [h0] at h1
    exact absurd h1 (by decide)
  · rw [if_neg h0]
    refine ⟨s_RmRow R1 ((g_RmRow R1).1, upd (g_RmRow R1).2 j (nI w)), by rw [if_neg h0], ?_, ?_, fun h => absurd h h0, fun h => ?_, ?_, ?_, ?_, ?_, ?_, fun _ k => ?_⟩
    · refine rs_mRow hRR1 ?_
      exact ri_mRow hRR1
    · have : rtri (s_RmRow R1 ((g_RmRow R1).1, upd (g_RmRow R1).2 j (nI w))) = rtri R1 := by simp only [rtri, qR_medium, qR_cutIn, qR_written]
      rw [this]; exact ftri
    · simp only [qR_open]; exact hop h
    · simp only [qf_Tap]; exact f1.trans hF.2.1
    · simp only [qf_Par]; exact f2.trans hF.2.2.1
    · simp only [qf_Hd]; exact f4.trans hF.2.2.2.2.1
    · simp only [qf_Ls]; exact f5.trans hF.2.2.2.2.2
    · simp only [qR_marks]; exact m1
    · unfold qrow
      simp only [qR_mNumber, qR_mCount, qR_mRow, qR_mDigest, qR_mPart]
      rw [m2, m3, m4, m5, m6]
      unfold upd vp_updL
      by_cases hk : k = j
      · subst hk
        simp only [if_pos]
        rw [hD]
      · simp only [if_neg hk]
theorem R_kp_L {n : Nat} {r : St_Ref} {lp : List PQ} {x : St_Parts} {t : T3} (ht : t.1 = (g_Rmedium r).2) (hP : PR r lp) (hPC : PC n x lp) (hn : n ≤ 512) {j c w : Nat} (hj : j < 270) (hc : (g_RmCount r).2 j = nI c) (hc2 : 1 ≤ c ∧ c ≤ 12) (hw : w + 1 + ent c ≤ 512) (v : Int32) {es : Nat → Int32 × Int32 × Int64} (hes : EsOk x lp.length t n (fun k => (g_RmPart r).2 (12 * j + k)) c es) : ∀ (d fuel i : Nat) (G : St_Ref) (f : Nat → Int32), RI n G → FrK r G → g_Rdraft G = (256, f) → (∀ k, By (f k)) → (∀ k, 224 ≤ k → f k = 0) → i + d = c → d < fuel → KpOut n r j w c (digF (entsF es d i f) 32 (32 * ent c)) (wrM (markImg (entsF es d i f) c v) w (ent c) 1 (rtri r)) (m_RRef_keep_L72 fuel G v (nI j) (nI (ent c)) (nI w) (nI i)) := by
  intro d
  induction d with
  | zero =>
    intro fuel i G f hG hF hd hB hz hi hf
    obtain ⟨fu, rfl, -⟩ := fu1 hf
    exact R_kp_exit hG hF hd hB hz hj hc hc2 hw v fu (by omega)
  | succ d ih =>
    intro fuel i G f hG hF hd hB hz hi hf
    obtain ⟨fu, rfl, hf'⟩ := fu1 hf
    obtain ⟨i2, w2, hi2, z1, z2, z3, z4, z5⟩ := hes i (by omega)
    have hPG : PR G lp := PR_fr hF.2.2.1 hP
    have hlp := hPG.1.2.2
    have h3 : entAt i + 14 ≤ 224 := by unfold entAt; omega
    have c0 : (nI j).toNatClampNeg = j := nI_clamp (by omega)
    have l1 : (g_RmCount G).1 = 270 := ri_mCount hG
    have l4 : (g_RmPart G).1 = 3240 := ri_mPart hG
    have l5 : (g_RmPartRow G).1 = 3240 := ri_mPartRow hG
    have l6 : (g_RmPartDigest G).1 = 3240 := ri_mPartDigest hG
    have l7 : (g_RpRow G).1 = 520 := ri_pRow hG
    have l8 : (g_RpNumber G).1 = 520 := ri_pNumber hG
    have lm : (g_Rmedium G).1 = 16384 := (ri_medium hG).1
    have i0 : ∀ M, M = 270 → ¬ (nI j < 0 ∨ M ≤ j) := fun M hM => by
      have := nI_in (c := j) (N := 270) hj (by omega)
      rw [c0] at this
      rw [hM]; exact this
    have e0 : (12 : Int32) * nI j + nI i = nI (12 * j + i) := by rw [n12, pk_mul, nI_add]
    have c1 : (nI (12 * j + i)).toNatClampNeg = 12 * j + i := nI_clamp (by omega)
    have i1 : ∀ M, M = 3240 → ¬ (nI (12 * j + i) < 0 ∨ M ≤ 12 * j + i) := fun M hM => by
      have := nI_in (c := 12 * j + i) (N := 3240) (by omega) (by omega)
      rw [c1] at this
      rw [hM]; exact this
    have hcG : (g_RmCount G).2 j = nI c := by rw [e_mCount hF.2.2.2.1]; exact hc
    have hpG : (g_RmPart G).2 (12 * j + i) = (g_RmPart r).2 (12 * j + i) := by rw [e_mPart hF.2.2.2.1]
    have hmem : crow x i2 ∈ lp := PC_mem hPC hi2
    obtain ⟨b, hb, fb, eb⟩ : ∃ b, b < lp.length ∧ m_RRef_findPart G ((g_RmPart r).2 (12 * j + i)) = some (nI b) ∧ rrow G b = crow x i2 := by
      rcases R_findPart hPG.1 ((g_RmPart r).2 (12 * j + i)) with ⟨q1, q2⟩ | ⟨b, hb, q1, q2⟩
      · obtain ⟨k, hk, e⟩ := (hPG.2.1 _).mp hmem
        exact absurd (show (rrow G k).1 = (g_RmPart r).2 (12 * j + i) by rw [e]; exact z2) (q2 k hk)
      · exact ⟨b, hb, q1, (TC_un (PC_tc hPC) hmem (PR_mem hPG hb) (by rw [q2]; exact z2)).symm⟩
    have c2 : (nI b).toNatClampNeg = b := nI_clamp (by omega)
    have i2' : ∀ M, M = 520 → ¬ (nI b < 0 ∨ M ≤ b) := fun M hM => by
      have := nI_in (c := b) (N := 520) (by omega) (by omega)
      rw [c2] at this
      rw [hM]; exact this
    have er : (g_RpRow G).2 b = nI w2 := by
      have := congrArg (fun q : PQ => q.2.2.2.1) eb
      exact this.trans z3
    have en : (g_RpNumber G).2 b = (g_RmPart r).2 (12 * j + i) := by
      have := congrArg (fun q : PQ => q.1) eb
      exact this.trans z2
    obtain ⟨dg, hdg⟩ : ∃ dg, dg = numF t.1 (32 * w2 + 16) 8 := ⟨_, rfl⟩
    have hnum : m_RRef_number (g_Rmedium G) (32 * nI w2 + 16) 8 = some dg := by
      rw [n32, pk_mul, n16, nI_add, n8]
      have := r_number (x := g_Rmedium G) (a := 32 * w2 + 16) (K := 8) (by rw [lm]; omega) (by rw [lm]; omega) (by omega)
      rw [this, hdg, ht, e_medium hF.1]
    have e32 : (32 : Int32) * (1 + nI i / 2) = nI (32 * (1 + i / 2)) := by rw [n1, n2, pk_div (by omega) (by omega) (by omega), nI_add, n32, pk_mul]
    have e4 : nI (entAt i) + 4 = nI (entAt i + 4) := by rw [n4, nI_add]
    have e6 : nI (entAt i) + 6 = nI (entAt i + 6) := by rw [n6, nI_add]
    have hes0 : es i = ((g_RmPart r).2 (12 * j + i), nI w2, dg) := by rw [z5, hdg]
    have u6 : upd f (32 * (1 + i / 2)) (vp_nar .byte 6) = pF f (32 * (1 + i / 2)) 1 6 := by
      rw [pF1]; rfl
    have hent : pF (pF (pF (pF f (32 * (1 + i / 2)) 1 6) (entAt i) 4 ((g_RmPart r).2 (12 * j + i)).toInt64) (entAt i + 4) 2 (nI w2).toInt64) (entAt i + 6) 8 dg = entF f i (es i) := by rw [hes0]; rfl
    obtain ⟨G1, hG1⟩ : ∃ G1, G1 = s_Rdraft (s_RmPartDigest (s_RmPartRow G ((g_RmPartRow G).1, upd (g_RmPartRow G).2 (12 * j + i) (nI w2))) ((g_RmPartDigest G).1, vp_updL (g_RmPartDigest G).2 (12 * j + i) dg)) (256, entF f i (es i)) := ⟨_, rfl⟩
    have hB1 : ∀ k, By (entF f i (es i) k) := By_ent hB _ _
    have hz1 : ∀ k, 224 ≤ k → entF f i (es i) k = 0 := by
      intro k hk
      have := ents_hi es 1 i f k (by omega) hk
      rw [show entsF es 1 i f = entF f i (es i) from rfl] at this
      rw [this]; exact hz k hk
    have hRG1 : RI n G1 := by
      rw [hG1]
      refine rs_draft (rs_mPartDigest (rs_mPartRow hG ?_) ?_) ?_
      · exact l5
      · exact l6
      · exact ⟨rfl, fun k hk => hz1 k (by omega)⟩
    have hFG1 : FrK r G1 := by
      refine hF.tr ?_
      rw [hG1]
      refine ⟨?_, ?_, ?_, ?_, ?_, ?_⟩ <;> simp only [qf_Med, qf_Tap, qf_Par, qf_Mrk, qf_Hd, qf_Ls]
    have hdG1 : g_Rdraft G1 = (256, entF f i (es i)) := by rw [hG1]; simp only [qR_draft]
    have k := ih fu (i + 1) G1 (entF f i (es i)) hRG1 hFG1 hdG1 hB1 hz1 (by omega) (by omega)
    have run : m_RRef_keep_L72 (fu + 1) G v (nI j) (nI (ent c)) (nI w) (nI i) = m_RRef_keep_L72 fu G1 v (nI j) (nI (ent c)) (nI w) (nI (i + 1)) := by
      rw [m_RRef_keep_L72, e0, c0, c1, hd, hcG, hpG, e32]
      refine Eq.trans (if_neg (i0 _ l1)) ?_
      refine Eq.trans (if_neg (nI_ge (by omega) (by omega))) ?_
      refine Eq.trans (if_neg (i1 _ l4)) ?_
      refine Eq.trans (bs fb) ?_
      refine Eq.trans (bs (R_entryAt0 (by omega))) ?_
      rw [c2, er, en, e4, e6]
      refine Eq.trans (if_neg (i2' _ l7)) ?_
      refine Eq.trans (if_neg (i1 _ l5)) ?_
      refine Eq.trans (if_neg (i2' _ l7)) ?_
      refine Eq.trans (bs hnum) ?_
      refine Eq.trans (if_neg (i1 _ l6)) ?_
      refine Eq.trans (if_neg (nI_in (show 32 * (1 + i / 2) < 256 by omega) (by omega))) ?_
      refine Eq.trans (if_neg (i2' _ l8)) ?_
      rw [nI_clamp (show 32 * (1 + i / 2) < 2 ^ 31 by omega), u6]
      refine Eq.trans (bs (show m_RRef_put (256, pF f (32 * (1 + i / 2)) 1 6) (nI (entAt i)) 4 _ = _ from R_put (x := (256, pF f (32 * (1 + i / 2)) 1 6)) (i := entAt i) (K := 4) (by show 256 < 2 ^ 31; omega) (by omega) (by show entAt i + 4 ≤ 256; omega) ((g_RmPart r).2 (12 * j + i)).toInt64)) ?_
      refine Eq.trans (if_neg (i2' _ l7)) ?_
      refine Eq.trans (bs (show m_RRef_put (256, pF (pF f (32 * (1 + i / 2)) 1 6) (entAt i) 4 ((g_RmPart r).2 (12 * j + i)).toInt64) (nI (entAt i + 4)) 2 _ = _ from R_put (x := (256, pF (pF f (32 * (1 + i / 2)) 1 6) (entAt i) 4 ((g_RmPart r).2 (12 * j + i)).toInt64)) (i := entAt i + 4) (K := 2) (by show 256 < 2 ^ 31; omega) (by omega) (by show entAt i + 4 + 2 ≤ 256; omega) (nI w2).toInt64)) ?_
      refine Eq.trans (if_neg (i1 _ l6)) ?_
      simp only [pk_uLs]
      refine Eq.trans (bs (show m_RRef_put (256, pF (pF (pF f (32 * (1 + i / 2)) 1 6) (entAt i) 4 ((g_RmPart r).2 (12 * j + i)).toInt64) (entAt i + 4) 2 (nI w2).toInt64) (nI (entAt i + 6)) 8 dg = _ from R_put (x := (256, pF (pF (pF f (32 * (1 + i / 2)) 1 6) (entAt i) 4 ((g_RmPart r).2 (12 * j + i)).toInt64) (entAt i + 4) 2 (nI w2).toInt64)) (i := entAt i + 6) (K := 8) (by show 256 < 2 ^ 31; omega) (by omega) (by show entAt i + 6 + 8 ≤ 256; omega) dg)) ?_
      rw [sr_draft, sr_draft, sr_draft, nI_1]
      simp only
      rw [hent, ← hG1]
    rw [run]
    exact k
-- keep
theorem lst_upd {α : Type} {f f' : Nat → α} {P j : Nat} {z : α} (hj : j < P) (h : ∀ k, k < P → f' k = if k = j then z else f k) : (f j :: lst f' P).Perm (z :: lst f P) := by
  obtain ⟨b, rfl⟩ : ∃ b, P = j + (b + 1) := ⟨P - j - 1, by omega⟩
  have e1 : lst f' j = lst f j := lst_congr (fun k hk => by rw [h k (by omega), if_neg (by omega)])
  have e2 : lst (fun k => f' (j + k)) (b + 1) = z :: lst (fun k => f (j + (k + 1))) b := by
    rw [lst_cons]
    congr 1
    · show f' (j + 0) = z
      rw [h _ (by omega), if_pos (by omega)]
    · refine lst_congr (fun k hk => ?_)
      show f' (j + (k + 1)) = f (j + (k + 1))
      rw [h _ (by omega), if_neg (by omega)]
  rw [lst_app f' j (b + 1), e1, e2, lst_app f j (b + 1), lst_cons (fun k => f (j + k)) b]
  show (f j :: (lst f j ++ z :: lst (fun k => f (j + (k + 1))) b)).Perm (z :: (lst f j ++ f j :: lst (fun k => f (j + (k + 1))) b))
  refine List.Perm.trans (List.Perm.cons _ List.perm_middle) ?_
  refine List.Perm.trans (List.Perm.swap _ _ _) ?_
  exact List.Perm.cons _ List.perm_middle.symm
noncomputable def esOf (x : St_Parts) (t : T3) (pn : Nat → Int32) (k : Nat) : Int32 × Int32 × Int64 := match m_Parts_find x (pn k) with
  | some v => (pn k, (crow x v.toNatClampNeg).2.2.2.1, numF t.1 (32 * ((crow x v.toNatClampNeg).2.2.2.1).toNatClampNeg + 16) 8)
  | none => (0, 0, 0)
theorem EsOk_of {n : Nat} {x : St_Parts} {lp : List PQ} {t : T3} {pn pn' : Nat → Int32} {c : Nat} (hP : PC n x lp) (hn : n ≤ 512) (hfit : ∀ q, q ∈ lp → FitP n q) (h : ∀ k, k < c → ∃ q, q ∈ lp ∧ q.1 = pn k) (he : ∀ k, k < c → pn' k = pn k) : EsOk x lp.length t n pn' c (esOf x t pn) := by
  intro k hk
  have h512 := hP.1.2.2
  rcases P_find hP.1 (pn k) with ⟨e1, e2⟩ | ⟨i, hi, e1, e2⟩
  · obtain ⟨q, hq, e⟩ := h k hk
    obtain ⟨i, hi, rfl⟩ := ((PC_tc hP).2 q).mp hq
    exact absurd e (e2 i hi)
  · obtain ⟨_, _, l, w, -, -, -, -, -, -, -, q8, q9, q10⟩ := hfit _ (PC_mem hP hi)
    refine ⟨i, w, hi, by rw [he k hk]; exact e1, by rw [he k hk]; exact e2, q8, by omega, ?_⟩
    unfold esOf
    rw [e1, he k hk]
    simp only
    rw [nI_clamp (show i < 2 ^ 31 by omega), q8, nI_clamp (by omega)]
theorem mls_eq {c : Nat} (hc : c ≤ 12) {pn pn' : Nat → Int32} {a b : Nat} (h : mls (nI c) pn a = mls (nI c) pn' b) {k : Nat} (hk : k < c) : pn (12 * a + k) = pn' (12 * b + k) := by
  unfold mls at h
  rw [nI_clamp (by omega)] at h
  exact List.map_inj_left.mp h k (List.mem_range.mpr hk)
theorem mls_lst {c : Nat} (hc : c ≤ 12) (pn : Nat → Int32) (a : Nat) : mls (nI c) pn a = lst (fun k => pn (12 * a + k)) c := by
  unfold mls lst
  rw [nI_clamp (by omega)]
theorem ss_kept (g : St_Log) (a b : St_Marks) : s_kept (s_kept g a) b = s_kept g b := rfl
theorem C_kp_L {Q Q2 N : Nat} {g : St_Log} {x : St_Marks} (hx : ML N x Q) {p c a : Nat} (hp : p < Q) (hc : x.2.1.2 p = nI c) (hc2 : c ≤ 12) (hM : ML 6 (g_made g) Q2) (ha : a < Q2) (hca : (g_made g).2.1.2 a = nI c) {y : St_Marks} (hy : m_Marks_remove (g_made g) (nI a) = some y) : ∀ (d fuel i : Nat), i + d = c → d < fuel → m_Log_keep_L98 fuel (s_kept g (mfl x p (fun k => (g_made g).2.2.2.1.2 (12 * a + k)) i)) (nI a) (nI c) (nI p) (nI i) = some (1, s_made (s_kept g (mfl x p (fun k => (g_made g).2.2.2.1.2 (12 * a + k)) c)) y) := by
  intro d
  induction d with
  | zero =>
    intro fuel i hi hf
    obtain ⟨fu, rfl, -⟩ := fu1 hf
    rw [m_Log_keep_L98, if_pos (nI_le (by omega) (by omega))]
    simp only [q_made]
    rw [bs hy, show i = c by omega]
  | succ d ih =>
    intro fuel i hi hf
    obtain ⟨fu, rfl, hf'⟩ := fu1 hf
    rw [m_Log_keep_L98, if_neg (nI_ge (by omega) (by omega))]
    simp only [q_made, q_kept, ss_kept]
    have hpa := M_partAt hM ha hca hc2 (nI i)
    rw [if_neg (show ¬ (nI i < 0 ∨ nI c ≤ nI i) from fun e => e.elim (nI_pos (by omega)) (nI_ge (by omega) (by omega))), nI_clamp (by omega)] at hpa
    refine Eq.trans (bs hpa) ?_
    have hs := M_setPart (ML_mfl hx p (fun k => (g_made g).2.2.2.1.2 (12 * a + k)) i) (k := p) (i := i) (c := c) hp hc hc2 (by omega) ((g_made g).2.2.2.1.2 (12 * a + i))
    refine Eq.trans (bs hs) ?_
    have e : mpt (mfl x p (fun k => (g_made g).2.2.2.1.2 (12 * a + k)) i) p i ((g_made g).2.2.2.1.2 (12 * a + i)) = mfl x p (fun k => (g_made g).2.2.2.1.2 (12 * a + k)) (i + 1) := mfl_step x p (fun k => (g_made g).2.2.2.1.2 (12 * a + k)) i
    rw [e, nI_1]
    exact ih fu (i + 1) (by omega) (by omega)
theorem Abs_keep {n : Nat} {lp : List PQ} {lk lm lm' : List MKQ} {GP GM : Nat} {m : MKQ} {c w : Nat} (h : Abs n lp lk lm GP GM) (hp : (m :: lm').Perm lm) (hc : m.2.1 = nI c) (D : Int64) (hw : 2 ≤ w) (hw2 : w + (1 + ent c) ≤ n) (hn : n ≤ 512) (hf : ∀ j, w ≤ j → j < w + (1 + ent c) → cov (ivs lp lk) j = 0) : Abs n lp ((m.1, m.2.1, nI w, D, m.2.2.2.2) :: lk) lm' GP GM := by
  obtain ⟨h1, h2, h3, h4, h5, h6, h7⟩ := Abs_perm (List.Perm.refl _) (List.Perm.refl _) hp.symm h
  obtain ⟨⟨a, c', p1, p2, p3, p4, p5, p6, p7, p8⟩, k2, k3, k4⟩ := h3 m List.mem_cons_self
  have ecc : c' = c := by
    rw [hc] at p4
    by_cases hb : c < 2 ^ 31
    · exact ((nI_eq hb (by omega)).mp p4).symm
    · unfold ent at hw2
      omega
  subst ecc
  refine ⟨h1, fun z hz => ?_, fun z hz => h3 z (List.mem_cons_of_mem _ hz), ?_, ?_, h6, h7⟩
  · rcases List.mem_cons.mp hz with rfl | hz
    · exact ⟨⟨a, c', w, p1, p2, p3, p4, p5, p6, rfl, hw, by omega⟩, k2, k3⟩
    · exact h2 z hz
  · have e : mIv (m.1, m.2.1, nI w, D, m.2.2.2.2) = (w, 1 + ent c') := by
      unfold mIv
      show ((nI w).toNatClampNeg, 1 + ent (m.2.1).toNatClampNeg) = _
      rw [hc, nI_clamp (by omega), nI_clamp (by omega)]
    have hj : DJ n (mIv (m.1, m.2.1, nI w, D, m.2.2.2.2) :: ivs lp lk) := by
      rw [e]
      exact DJ_cons h4 ⟨hw, by show 1 ≤ 1 + ent c'; omega, hw2⟩ hf
    refine DJ_perm ?_ hj
    unfold ivs
    rw [List.map_cons]
    exact List.perm_middle.symm
  · have hj : (m :: (lk ++ lm')).Pairwise (fun a b => a.1 ≠ b.1) := (List.perm_middle.pairwise_iff (fun hr => hr.symm)).mp h5
    obtain ⟨q1, q2⟩ := List.pairwise_cons.mp hj
    exact List.pairwise_cons.mpr ⟨q1, q2⟩
theorem BT_takeK {n : Nat} {x : St_Room} {lp : List PQ} {lk : List MKQ} {m : MKQ} {c w : Nat} (h : BT n x (ivs lp lk)) (hc : m.2.1 = nI c) (hc2 : c ≤ 12) (hw : w < 2 ^ 31) (D : Int64) : BT n (n, setF x.2 w (1 + ent c) 1) (ivs lp ((m.1, m.2.1, nI w, D, m.2.2.2.2) :: lk)) := by
  have e : mIv (m.1, m.2.1, nI w, D, m.2.2.2.2) = (w, 1 + ent c) := by
    unfold mIv
    show ((nI w).toNatClampNeg, 1 + ent (m.2.1).toNatClampNeg) = _
    rw [hc, nI_clamp (by omega), nI_clamp (by omega)]
  refine BT_perm (l := (w, 1 + ent c) :: ivs lp lk) ?_ (BT_take h _ _)
  unfold ivs
  rw [List.map_cons, e]
  exact List.perm_middle.symm
theorem st_keep {n : Nat} {g : St_Log} {r : St_Ref} (h : Rel n g r) (v : Int32) : ∃ a g' r', m_Log_keep g v = some (a, g') ∧ m_RRef_keep r v = some (a, r') ∧ Rel n g' r' := by
  obtain ⟨⟨hn, hC, hR, ht, ho, hts⟩, hT⟩ := id h
  unfold m_Log_keep m_RRef_keep
  by_cases hop : g_isOpen g = 0
  · exact ⟨-3, g, r, by rw [if_pos hop], by rw [if_pos (by rw [← ho]; exact hop)], h⟩
  · have ho1 := open_1 hC hop
    have hop' : ¬ g_Ropen r = 0 := by rw [← ho]; exact hop
    rw [if_neg hop, if_neg hop']
    obtain ⟨lp, lk, lm, L, GP, GM, hTC, hTR, hL, hA, hN, hH⟩ := hT ho1
    have lr : (g_RmRow r).1 = 270 := ri_mRow hR
    have hML := hTR.2.2.1
    rcases F3 hR hTC.2.1 hTC.2.2.1 hTR.2 hL hA.2.2.2.2.1 v with ⟨a1, a2, a3, a4⟩ | ⟨i, j, hi, hj, a1, a2, a3, a4, a5, a6⟩ | ⟨i, j, hi, hj, a1, a2, a3, a4, a5, a6⟩
    · exact ⟨-1, g, r, by rw [bs a2, if_pos rfl], by rw [bs a3, if_pos rfl], h⟩
    · refine ⟨-1, g, r, by rw [bs a2, if_pos rfl], ?_, h⟩
      obtain ⟨_, _, w, _, _, _, _, _, _, p7, _, p9⟩ := (hA.2.1 _ a5).1
      have e : (g_RmRow r).2 j = nI w := (congrArg (fun z : MKQ => z.2.2.1) a4).trans p7
      rw [bs a3, if_neg (nI_m1 (by omega)), lr, if_neg (nI_in (by omega) (by omega)), nI_clamp (by omega), e, if_neg (nI_m1 (by omega))]
    · have hlm : lm.length ≤ 6 := hTC.2.2.1.1.1.2.2.1
      obtain ⟨⟨_, c, _, _, _, p4, p5, p6, p7, p8⟩, hRis, hNum, hmem⟩ := hA.2.2.1 _ a5
      have e7 : (g_RmRow r).2 j = (-1) := (congrArg (fun z : MKQ => z.2.2.1) a4).trans p7
      have ecR : (g_RmCount r).2 j = nI c := (congrArg (fun z : MKQ => z.2.1) a4).trans p4
      have ecC : (g_made g).2.1.2 i = nI c := p4
      have enR : (g_RmNumber r).2 j = v := (congrArg (fun z : MKQ => z.1) a4).trans a6
      have enC : (g_made g).1.2 i = v := a6
      have elst : mls (nI c) (g_RmPart r).2 j = mls (nI c) (g_made g).2.2.2.1.2 i := by
        have := congrArg (fun z : MKQ => z.2.2.2.2) a4
        have h2 : mls ((g_RmCount r).2 j) (g_RmPart r).2 j = mls ((g_made g).2.1.2 i) (g_made g).2.2.2.1.2 i := this
        rw [ecR, ecC] at h2
        exact h2
      have hpn : ∀ k, k < c → (g_RmPart r).2 (12 * j + k) = (g_made g).2.2.2.1.2 (12 * i + k) := fun k hk => mls_eq p6 elst hk
      have hin : ∀ k, k < c → ∃ q, q ∈ lp ∧ q.1 = (g_made g).2.2.2.1.2 (12 * i + k) := by
        intro k hk
        refine hmem _ ?_
        show _ ∈ mls ((g_made g).2.1.2 i) (g_made g).2.2.2.1.2 i
        rw [ecC, mls_lst p6]
        exact mem_lst.mpr ⟨k, hk, rfl⟩
      have hfit : ∀ q, q ∈ lp → FitP n q := fun q hq => (hA.1 q hq).1
      obtain ⟨f, u1, u2⟩ := used_bits hR hn.2 hA hTC.2.2.2 hTR.1 hTR.2 hL
      have hR1 : RI n (s_Rused r (512, f)) := rs_used (v := (512, f)) hR rfl
      have hF1 : FrK r (s_Rused r (512, f)) := by refine ⟨?_, ?_, ?_, ?_, ?_, ?_⟩ <;> simp only [qf_Med, qf_Tap, qf_Par, qf_Mrk, qf_Hd, qf_Ls]
      have hrc : 1 ≤ 1 + ent c ∧ 1 + ent c ≤ 1000 := by unfold ent; omega
      have he6 : ent c ≤ 6 := by unfold ent; omega
      have k1 := C_firstRun (x := g_room g) hTC.2.2.2.1 hn hrc
      have k2 := R_room (g := s_Rused r (512, f)) (f := f) (by simp only [qR_used]) (by simp only [qR_rows]; exact ri_rows hR) hn hrc
      rw [runF_congr (b := f) (b' := (g_room g).2) (1 + ent c) (n - 2) 0 2 (fun j j1 j2 => u2 j j1 (by omega))] at k2
      have e1b : (1 : Int32) + nI (ent c) = nI (1 + ent c) := by rw [n1, nI_add]
      have hcA := M_countAt hTC.2.2.1.1.1 hi
      rw [ecC] at hcA
      rw [bs a2, if_neg (nI_m1 (by omega)), bs hcA, bs (C_rowsOfMark (by omega)), bs k1, bs a3, if_neg (nI_m1 (by omega)), lr, if_neg (nI_in (by omega) (by omega)), nI_clamp (by omega), e7, if_pos rfl, bs u1]
      simp only [qR_mCount]
      have i270 : ¬ (nI j < 0 ∨ 270 ≤ j) := by
        have := nI_in (c := j) (N := 270) (by omega) (by omega)
        rw [nI_clamp (by omega)] at this
        exact this
      rw [show (g_RmCount r).1 = 270 from ri_mCount hR, if_neg i270, ecR, bs (R_entries (by omega)), e1b, bs k2]
      have hRu : Rel n g (s_Rused r (512, f)) := by
        refine Rel_fr h ?_ (fun e => e) rfl rfl rfl rfl rfl rfl rfl rfl hF1.2.2.1 hF1.2.2.2.1 hF1.2.2.2.2.2 hF1.2.2.2.2.1
        refine ⟨hn, hC, hR1, ?_, ?_, ?_⟩
        · rw [rtri_fr hF1.1]; exact ht
        · simp only [qR_open]; exact ho
        · simp only [qR_tape, qR_taped]; exact hts
      cases hrun : runF (g_room g).2 (1 + ent c) (n - 2) 0 2 with
      | none => exact ⟨-4, g, _, by rw [if_pos (rv_none rfl)], by rw [if_pos (rv_none rfl)], hRu⟩
      | some w =>
        obtain ⟨s1, s2, s3⟩ := runF_spec (n - 2) 0 2 w (by omega) (fun j j1 j2 => absurd j2 (by omega)) hrun
        have hne : ¬ rv (some w) = (-1) := nI_m1 (by omega)
        have hrv : rv (some w) = nI w := rfl
        rw [if_neg hne, if_neg hne, hrv]
        have hm := ci_medium hC
        obtain ⟨t, htd⟩ : ∃ t, t = tri (g_medium g) := ⟨_, rfl⟩
        have hmk : g_medium g = mk3 n t := by rw [htd]; exact g_mk3 hC
        have hpw : Pw t.2.1 := by rw [htd]; exact hm.2.1
        have hby : ∀ k, By (t.1 k) := by rw [htd]; exact hm.2.2
        have htr : rtri r = t := by rw [htd]; exact ht.symm
        obtain ⟨es, hesd⟩ : ∃ es, es = esOf (g_parts g) t (fun k => (g_made g).2.2.2.1.2 (12 * i + k)) := ⟨_, rfl⟩
        have hesC : EsOk (g_parts g) lp.length t n (fun k => (g_made g).2.2.2.1.2 (12 * i + k)) c es := by rw [hesd]; exact EsOk_of hTC.1 hn.2 hfit hin (fun _ _ => rfl)
        have hesR : EsOk (g_parts g) lp.length t n (fun k => (g_RmPart r).2 (12 * j + k)) c es := by rw [hesd]; exact EsOk_of hTC.1 hn.2 hfit hin hpn
        obtain ⟨im, d1, d2, d3⟩ := C_drawMark hmk hn (ci_image hC) hTC.1 hTC.2.2.1.1.1 hi ecC ⟨p5, p6⟩ hesC
        rw [enC] at d2
        obtain ⟨sI, hsI⟩ := id d3
        have hcl : m_RRef_clearDraft (s_Rused r (512, f)) = some (s_Rdraft (s_Rused r (512, f)) (256, fun _ => 0)) := R_clear (g := s_Rused r (512, f)) (ri_draft hR1)
        have hkp := R_kp_L (n := n) (r := r) (lp := lp) (x := g_parts g) (t := t) (by rw [← htr]; rfl) hTR.1 hTC.1 hn.2 (j := j) (c := c) (w := w) (by omega) ecR ⟨p5, p6⟩ (by omega) v hesR c FU 0 (s_Rdraft (s_Rused r (512, f)) (256, fun _ => 0)) (fun _ => 0) (rs_draft hR1 ⟨rfl, fun _ _ => rfl⟩) (hF1.tr (by refine ⟨?_, ?_, ?_, ?_, ?_, ?_⟩ <;> simp only [qf_Med, qf_Tap, qf_Par, qf_Mrk, qf_Hd, qf_Ls])) (by simp only [qR_draft]) (fun _ => By0) (fun _ _ => rfl) (by omega) (FU_lt (by omega))
        rw [htr] at hkp
        obtain ⟨I, hI⟩ : ∃ I, I = markImg (entsF es c 0 (fun _ => 0)) c v := ⟨_, rfl⟩
        obtain ⟨D, hD⟩ : ∃ D, D = digF (entsF es c 0 (fun _ => 0)) 32 (32 * ent c) := ⟨_, rfl⟩
        rw [← hI, ← hD] at hkp
        rw [← hD] at d1
        rw [← hI] at d2
        have hIB : ∀ k, By (I k) := by rw [hI]; exact By_mark (By_ents es _ _ _ (fun _ => By0)) _ _
        have hT2 := C_take (x := g_room g) (n := n) (a := w) (c := 1 + ent c) hTC.2.2.2.1 hn.2 (by omega)
        have hw1 := C_writeImage (n := n) (g := s_image g im) (t := t) (im := im) (by simp only [q_medium]; exact hmk) (by simp only [q_isOpen]; exact ho1) rfl hsI (by rw [d2]; exact hIB) hn.1 hn.2 (row := w) (count := 1 + ent c) (by omega) (by omega) (by simp only [q_room]; exact hT2) hpw
        rw [show 1 + ent c - 1 = ent c by omega, d2] at hw1
        have q1 := wrM_ok I w (ent c) 1 t
        have q2 := wrM_pw I w (ent c) 1 t hpw
        have q3 := wrM_by I hIB w (ent c) 1 t hby
        obtain ⟨q, hq⟩ : ∃ q, q = wrM I w (ent c) 1 t := ⟨_, rfl⟩
        rw [← hq] at hw1 q1 q2 q3 hkp
        obtain ⟨r', o1, o2, o3, o4, o5, o6, o7, o8, o9, o10, o11⟩ := hkp
        rw [bs d1, bs (C_rowsOfMark (by omega)), bs hw1, bs hcl]
        simp only
        obtain ⟨G1, hG1⟩ : ∃ G1, G1 = s_room (wi n (s_image g im) q) (n, setF (g_room g).2 w (1 + ent c) 1) := ⟨_, rfl⟩
        have hCG1 : CI n G1 := by rw [hG1]; exact cs_room (CI_wi (cs_image hC d3) hn q1 q2 q3) (kRm_set (ci_room hC).2 (Or.inr rfl))
        have gt : g_tape G1 = g_tape g := by rw [hG1]; simp only [wi, q_tape]
        have gm : g_medium G1 = mk3 n q.2 := by rw [hG1]; simp only [wi, q_medium]
        have go : g_isOpen G1 = q.1 := by rw [hG1]; simp only [wi, q_isOpen]
        have gp : g_parts G1 = g_parts g := by rw [hG1]; simp only [wi, q_parts]
        have gk : g_kept G1 = g_kept g := by rw [hG1]; simp only [wi, q_kept]
        have gd : g_made G1 = g_made g := by rw [hG1]; simp only [wi, q_made]
        have gow : g_owners G1 = g_owners g := by rw [hG1]; simp only [wi, q_owners]
        have gse : g_serial G1 = g_serial g := by rw [hG1]; simp only [wi, q_serial]
        have ggm : g_greatestMark G1 = g_greatestMark g := by rw [hG1]; simp only [wi, q_greatestMark]
        have ggp : g_greatestPart G1 = g_greatestPart g := by rw [hG1]; simp only [wi, q_greatestPart]
        have gro : g_room G1 = (n, setF (g_room g).2 w (1 + ent c) 1) := by rw [hG1]; simp only [q_room]
        rw [← hG1]
        by_cases hz : q.1 = 0
        · refine ⟨-5, G1, r', by rw [if_pos hz], o1.trans (by rw [if_pos hz]), ⟨hn, hCG1, o2, ?_, ?_, ?_⟩, fun e => ?_⟩
          · rw [gm, o3]; rfl
          · rw [go, hz, o4 hz]
          · rw [gt, e_tape o6, e_taped o6]; exact hts
          · rw [go, hz] at e
            exact absurd e (by decide)
        · have h1 : q.1 = 1 := q1.resolve_left hz
          obtain ⟨y, lm', y1, y2, y3⟩ := MC_remove hTC.2.2.1 hi
          have hmE : mrow (g_made g) i = (v, nI c, (-1), 0, mls (nI c) (g_made g).2.2.2.1.2 i) := by
            refine Prod.ext enC (Prod.ext ecC (Prod.ext p7 (Prod.ext p8 ?_)))
            show mls ((g_made g).2.1.2 i) _ i = _
            rw [ecC]
          have hA' := Abs_keep (w := w) hA y3 p4 D (by omega) (by omega) hn.2 (fun j j1 j2 => (hTC.2.2.2.2 j (by omega) (by omega)).mp (s3 j j1 j2))
          have hB' := BT_takeK (w := w) (m := mrow (g_made g) i) hTC.2.2.2 p4 p6 (by omega) D
          have hroom := Abs_room hA' hn.2
          rw [List.length_cons] at hroom
          have hfr : ∀ m, m ∈ lk → m.1 ≠ v := by
            intro m hmk2 e
            have hd := (List.pairwise_append.mp hA.2.2.2.2.1).2.2 _ hmk2 _ a5
            exact hd (by rw [e, a6])
          have hMK : MC (n / 2) (g_kept G1) lk := by rw [gk]; exact hTC.2.1
          obtain ⟨x', p, z1, z2, z3, z4, z5⟩ := MC_add hMK (by omega) v (nI w) D p6 hfr
          obtain ⟨lk', b1, b2⟩ := z5 (fun k => (g_made g).2.2.2.1.2 (12 * i + k))
          have hkl := C_kp_L (N := n / 2) (g := G1) (x := x') z3.1 z2 z4 p6 (by rw [gd]; exact hTC.2.2.1.1.1) hi (by rw [gd]; exact ecC) (y := y) (by rw [gd]; exact y1) c FU 0 (by omega) (FU_lt (by omega))
          rw [gd, mfl_0] at hkl
          have hnew : (v, nI c, nI w, D, lst (fun k => (g_made g).2.2.2.1.2 (12 * i + k)) c) = ((mrow (g_made g) i).1, (mrow (g_made g) i).2.1, nI w, D, (mrow (g_made g) i).2.2.2.2) := by
            rw [hmE, mls_lst p6]
          rw [hnew] at b2
          have hLp : (mrow (g_made g) i :: lst (qrow r') L.length).Perm (((mrow (g_made g) i).1, (mrow (g_made g) i).2.1, nI w, D, (mrow (g_made g) i).2.2.2.2) :: L) := by
            have := lst_upd (f := qrow r) (f' := qrow r') (P := L.length) (z := ((mrow (g_made g) i).1, (mrow (g_made g) i).2.1, nI w, D, (mrow (g_made g) i).2.2.2.2)) hj (fun k _ => by
              rw [o11 h1 k]
              by_cases hk : k = j
              · rw [if_pos hk, if_pos hk, hmE, ecR, enR, elst]
              · rw [if_neg hk, if_neg hk])
            rw [a4, hTR.2.2.2.1] at this
            exact this
          have hLfin : (lst (qrow r') L.length).Perm (lk' ++ lm') := by
            have : (mrow (g_made g) i :: lst (qrow r') L.length).Perm (mrow (g_made g) i :: (lk' ++ lm')) := by
              refine hLp.trans ?_
              refine (List.Perm.cons _ (hL.trans ((List.Perm.append_left lk y3.symm).trans List.perm_middle))).trans ?_
              refine (List.Perm.swap _ _ _).trans ?_
              refine List.Perm.cons _ ?_
              exact List.Perm.append_right lm' b2.symm
            exact this.cons_inv
          have hK12 : ∀ m, m ∈ lst (qrow r') L.length → K12 m := by
            intro m hmm
            obtain ⟨k, hk, rfl⟩ := mem_lst.mp hmm
            rw [o11 h1 k]
            by_cases hkj : k = j
            · rw [if_pos hkj]
              exact ⟨c, p5, p6, ecR⟩
            · rw [if_neg hkj]
              exact hTR.2.2.2.2 _ (MR_mem hTR.2 hk)
          refine ⟨1, s_made (s_kept G1 (mfl x' p (fun k => (g_made g).2.2.2.1.2 (12 * i + k)) c)) y, r', ?_, ?_, ⟨hn, cs_made (cs_kept hCG1 ⟨_, b1.1.1⟩) ⟨_, y2.1.1⟩, o2, ?_, ?_, ?_⟩, fun _ => ⟨lp, lk', lm', lst (qrow r') L.length, GP, GM, ⟨?_, ?_, ?_, ?_⟩, ⟨PR_fr o7 hTR.1, ⟨?_, ?_, ?_, hK12⟩⟩, hLfin, ?_, ⟨?_, ?_, ?_, ?_⟩, ?_⟩⟩
          · rw [if_neg hz, bs z1, n0]; exact hkl
          · exact o1.trans (by rw [if_neg hz])
          · simp only [q_medium]; rw [gm, o3]; rfl
          · simp only [q_isOpen]; rw [go, h1, o5 h1, ← ho, ho1]
          · simp only [q_tape]; rw [gt, e_tape o6, e_taped o6]; exact hts
          · simp only [q_parts]; rw [gp]; exact hTC.1
          · simp only [q_kept]; exact b1
          · simp only [q_made]; exact y2
          · simp only [q_room]; rw [gro]
            exact BT_perm (ivs_perm (List.Perm.refl _) b2.symm) hB'
          · rw [lst_len, o10]; exact hTR.2.1
          · rw [lst_len]; exact hTR.2.2.1
          · rw [lst_len]
          · exact Abs_perm (List.Perm.refl _) b2.symm (List.Perm.refl _) hA'
          · simp only [q_greatestPart]; rw [ggp]; exact hN.1
          · rw [e_lastPart o9]; exact hN.2.1
          · simp only [q_greatestMark]; rw [ggm]; exact hN.2.2.1
          · rw [e_lastMark o9]; exact hN.2.2.2
          · exact Hds_fr (by simp only [q_owners]; exact gow) (by simp only [q_serial]; exact gse) o8 hH
-- owner
theorem st_owner {n : Nat} {g : St_Log} {r : St_Ref} (h : Rel n g r) (p : Int32) : ∃ a g' r', m_Log_owner g p = some (a, g') ∧ m_RRef_owner r p = some (a, r') ∧ Rel n g' r' := by
  obtain ⟨⟨hn, hC, hR, ht, ho, hts⟩, hT⟩ := id h
  unfold m_Log_owner m_RRef_owner
  by_cases hop : g_isOpen g = 0
  · exact ⟨-3, g, r, by rw [if_pos hop], by rw [if_pos (by rw [← ho]; exact hop)], h⟩
  · have ho1 := open_1 hC hop
    have hop' : ¬ g_Ropen r = 0 := by rw [← ho]; exact hop
    rw [if_neg hop, if_neg hop']
    obtain ⟨lp, lk, lm, L, GP, GM, hTC, hTR, hL, hA, hN, hH⟩ := hT ho1
    obtain ⟨ow, S, w1, w2, w3, w4, w5, w6⟩ := id hH
    rcases isGroup_cases p with ⟨z1, z2⟩ | ⟨z1, z2, b, hb8, rfl⟩
    · exact ⟨-2, g, r, by rw [bs z1, if_pos rfl], by rw [bs z2, if_pos rfl], h⟩
    · obtain ⟨o, ho5, eo⟩ := w6 b hb8
      have i0 : ¬ (nI b < 0 ∨ 8 ≤ (nI b).toNatClampNeg) := nI_in hb8 (by omega)
      have c0 : (nI b).toNatClampNeg = b := nI_clamp (by omega)
      rw [c0] at i0
      rw [bs z1, if_neg e10, bs z2, if_neg e10, c0, w1, w2, if_neg i0, if_neg i0]
      simp only [eo, w3, w4]
      have e65 : (65535 : Int32) = nI 65535 := by decide +kernel
      by_cases h1 : o = 65535
      · have b1 : (65535 : Int32) ≤ nI o := by rw [e65]; exact nI_le (by omega) (by omega)
        have b2 : nI o = 65535 := by rw [e65, h1]
        exact ⟨-4, g, r, by rw [if_pos b1], by rw [if_pos b2, if_neg i0], h⟩
      · have b1 : ¬ (65535 : Int32) ≤ nI o := by rw [e65]; exact nI_ge (by omega) (by omega)
        have b2 : ¬ nI o = 65535 := by rw [e65]; exact fun e => h1 ((nI_eq (by omega) (by omega)).mp e)
        rw [if_neg b1, if_neg b2]
        by_cases h2 : S < 1000000000
        · have b3 : nI S < 1000000000 := by rw [nMO]; exact nI_lt h2 (by omega)
          have b4 : ¬ nI S = 1000000000 := by rw [nMO]; exact fun e => absurd ((nI_eq (by omega) (by omega)).mp e) (by omega)
          rw [if_pos b3, if_neg b4, if_neg i0, if_neg i0, nI_1, nI_1]
          obtain ⟨ow', how'⟩ : ∃ ow', ow' = upd ow b (nI (o + 1)) := ⟨_, rfl⟩
          rw [← how']
          have hkO : kOw (8, ow') := by
            refine ⟨rfl, fun j hj => ?_⟩
            show ow' j = 0
            have h8 := (ci_owners hC).2 j hj
            rw [w1] at h8
            rw [how']
            unfold upd
            rw [if_neg (by omega)]
            exact h8
          have hm := ci_medium hC
          obtain ⟨t, htd⟩ : ∃ t, t = tri (g_medium g) := ⟨_, rfl⟩
          have hmk : g_medium g = mk3 n t := by rw [htd]; exact g_mk3 hC
          have hpw : Pw t.2.1 := by rw [htd]; exact hm.2.1
          have hby : ∀ k, By (t.1 k) := by rw [htd]; exact hm.2.2
          have htr : rtri r = t := by rw [htd]; exact ht.symm
          obtain ⟨G0, hG0⟩ : ∃ G0, G0 = s_serial (s_owners g (8, ow')) (nI (S + 1)) := ⟨_, rfl⟩
          have hCG0 : CI n G0 := by rw [hG0]; exact cs_serial (cs_owners (v := (8, ow')) hC hkO)
          have gm0 : g_medium G0 = mk3 n t := by rw [hG0]; simp only [q_medium]; exact hmk
          have go0 : g_isOpen G0 = 1 := by rw [hG0]; simp only [q_isOpen]; exact ho1
          have gr0 : g_room G0 = g_room g := by rw [hG0]; simp only [q_room]
          have gow0 : g_owners G0 = (8, ow') := by rw [hG0]; simp only [q_owners]
          have gse0 : g_serial G0 = nI (S + 1) := by rw [hG0]; simp only [q_serial]
          obtain ⟨im, d1, d2, d3⟩ := C_drawHead (g := G0) (ow := ow') (ser := nI (S + 1)) gow0 gse0 (ci_image hCG0)
          obtain ⟨sI, hsI⟩ := id d3
          obtain ⟨I, hI⟩ : ∃ I, I = headImg ow' (nI (S + 1)) := ⟨_, rfl⟩
          have hIB : ∀ k, By (I k) := by rw [hI]; exact By_head _ _
          rw [← hI] at d2
          have hr2 : (S + 1) % 2 < 2 := Nat.mod_lt _ (by omega)
          have hj2 : jrem (nI (S + 1)) 2 = nI ((S + 1) % 2) := by
            unfold jrem
            rw [n2, pk_rem (by omega) (by omega) (by omega)]
          have hT2 := C_take (x := g_room g) (n := n) (a := (S + 1) % 2) (c := 1) hTC.2.2.2.1 hn.2 (by omega)
          have hw1 := C_writeImage (n := n) (g := s_image G0 im) (t := t) (im := im) (by simp only [q_medium]; exact gm0) (by simp only [q_isOpen]; exact go0) rfl hsI (by rw [d2]; exact hIB) hn.1 hn.2 (row := (S + 1) % 2) (count := 1) (by omega) (by omega) (by simp only [q_room]; rw [gr0]; exact hT2) hpw
          rw [show 1 - 1 = 0 from rfl, d2] at hw1
          have hwr : wrM I ((S + 1) % 2) 0 1 t = wrS (fun j => I (0 + j)) (32 * ((S + 1) % 2)) 32 0 t := rfl
          rw [hwr] at hw1
          obtain ⟨R0, hR0⟩ : ∃ R0, R0 = s_Rserial (s_Rowners (s_Rdraft r (256, fun _ => 0)) (8, ow')) (nI (S + 1)) := ⟨_, rfl⟩
          have hRR0 : RI n R0 := by rw [hR0]; exact rs_serial (rs_owners (v := (8, ow')) (rs_draft (v := (256, fun _ => 0)) hR ⟨rfl, fun _ _ => rfl⟩) hkO)
          have rtr0 : rtri R0 = t := by
            rw [hR0, ← htr]
            simp only [rtri, qR_medium, qR_cutIn, qR_written]
          have hfb : pF (pF (fun _ => 0) 0 1 4) 4 4 (nI (S + 1)).toInt64 = pF (upd (fun _ => 0) (0 : Int32).toNatClampNeg (vp_nar .byte 4)) 4 4 (nI (S + 1)).toInt64 := by rw [pF1]; rfl
          have hoL := R_oL (g := R0) (ow := ow') (by rw [hR0]; simp only [qR_owners]) (ri_medium hRR0).1 (ri_cutIn hRR0) (S := S + 1) (by rw [hR0]; simp only [qR_serial]) (by omega) (a := b) hb8 8 FU (pF (pF (fun _ => 0) 0 1 4) 4 4 (nI (S + 1)).toInt64) 0 (By_pF (By_pF (fun _ => By0) _ _ _) _ _ _) (by omega) (FU_lt (by omega))
          have hIe : pF (ownF ow' 8 0 (pF (pF (fun _ => 0) 0 1 4) 4 4 (nI (S + 1)).toInt64)) 24 8 (digF (ownF ow' 8 0 (pF (pF (fun _ => 0) 0 1 4) 4 4 (nI (S + 1)).toInt64)) 0 24) = I := by rw [hI]; rfl
          rw [hIe, rtr0] at hoL
          have q1 := wrS_ok (fun j => I (0 + j)) (32 * ((S + 1) % 2)) 32 0 t
          have q2 := wrS_pw (fun j => I (0 + j)) (32 * ((S + 1) % 2)) 32 0 t hpw
          have q3 := wrS_by (fun j => I (0 + j)) (fun j => hIB _) (32 * ((S + 1) % 2)) 32 0 t hby
          obtain ⟨q, hq⟩ : ∃ q, q = wrS (fun j => I (0 + j)) (32 * ((S + 1) % 2)) 32 0 t := ⟨_, rfl⟩
          rw [← hq] at hw1 hoL q1 q2 q3
          have hcl : m_RRef_clearDraft r = some (s_Rdraft r (256, fun _ => 0)) := R_clear (ri_draft hR)
          rw [bs hcl]
          simp only [qR_owners, qR_serial, qR_draft]
          rw [w2, w4, if_neg i0, if_neg i0, if_neg (by decide)]
          simp only
          rw [eo, nI_1, nI_1, ← how']
          have hput : m_RRef_put (256, upd (fun _ => 0) (0 : Int32).toNatClampNeg (vp_nar .byte 4)) 4 4 (nI (S + 1)).toInt64 = some (256, pF (pF (fun _ => 0) 0 1 4) 4 4 (nI (S + 1)).toInt64) := by
            rw [hfb]
            exact R_put (x := (256, upd (fun _ => 0) (0 : Int32).toNatClampNeg (vp_nar .byte 4))) (i := 4) (K := 4) (by show 256 < 2 ^ 31; omega) (by omega) (by show 4 + 4 ≤ 256; omega) _
          rw [bs hput, sr_draft, ← hR0, ← hG0]
          have hkDr : kDr (256, I) := ⟨rfl, fun k hk => by show I k = 0; rw [hI]; exact head_hi _ _ (by omega)⟩
          obtain ⟨R1, hR1⟩ : ∃ R1, R1 = rout (s_Rdraft R0 (256, I)) q := ⟨_, rfl⟩
          have hRR1 : RI n R1 := by rw [hR1]; exact RI_rout (rs_draft hRR0 hkDr) q2 q3
          have ftri : rtri R1 = q.2 := by rw [hR1]; exact rout_tri _ _
          obtain ⟨f1, f2, f3, f4, f5, -, -, -⟩ := fr_rout (s_Rdraft R0 (256, I)) q
          rw [← hR1] at f1 f2 f3 f4 f5 hoL
          rw [hR0] at f1 f2 f3 f5
          simp only [qf_Tap, qf_Par, qf_Mrk, qf_Ls] at f1 f2 f3 f5
          have fo : g_Rowners R1 = (8, ow') := by rw [e_owners f4, hR0]; simp only [qR_owners]
          have fs : g_Rserial R1 = nI (S + 1) := by rw [e_serial f4, hR0]; simp only [qR_serial]
          obtain ⟨G1, hG1⟩ : ∃ G1, G1 = s_room (wi n (s_image G0 im) q) (n, setF (g_room g).2 ((S + 1) % 2) 1 1) := ⟨_, rfl⟩
          have hCG1 : CI n G1 := by rw [hG1]; exact cs_room (CI_wi (cs_image hCG0 d3) hn q1 q2 q3) (kRm_set (ci_room hC).2 (Or.inr rfl))
          have gt : g_tape G1 = g_tape g := by rw [hG1, hG0]; simp only [wi, q_tape]
          have gm : g_medium G1 = mk3 n q.2 := by rw [hG1]; simp only [wi, q_medium]
          have go : g_isOpen G1 = q.1 := by rw [hG1]; simp only [wi, q_isOpen]
          have gp : g_parts G1 = g_parts g := by rw [hG1, hG0]; simp only [wi, q_parts]
          have gk : g_kept G1 = g_kept g := by rw [hG1, hG0]; simp only [wi, q_kept]
          have gd : g_made G1 = g_made g := by rw [hG1, hG0]; simp only [wi, q_made]
          have gow : g_owners G1 = (8, ow') := by rw [hG1]; simp only [wi, q_owners]; exact gow0
          have gse : g_serial G1 = nI (S + 1) := by rw [hG1]; simp only [wi, q_serial]; exact gse0
          have ggm : g_greatestMark G1 = g_greatestMark g := by rw [hG1, hG0]; simp only [wi, q_greatestMark]
          have ggp : g_greatestPart G1 = g_greatestPart g := by rw [hG1, hG0]; simp only [wi, q_greatestPart]
          have gro : g_room G1 = (n, setF (g_room g).2 ((S + 1) % 2) 1 1) := by rw [hG1]; simp only [q_room]
          rw [← hG1] at hw1
          have gsi : g_serial (s_image G0 im) = nI (S + 1) := by simp only [q_serial]; exact gse0
          have hw1' : m_Log_writeImage (s_image G0 im) (nI ((S + 1) % 2)) 1 = some (q.1, G1) := hw1
          rw [bs d1, gsi, hj2, bs hw1']
          simp only
          by_cases hz : q.1 = 0
          · refine ⟨-5, G1, R1, by rw [if_pos hz], hoL.trans (by rw [if_pos hz]), ⟨hn, hCG1, hRR1, ?_, ?_, ?_⟩, fun e => ?_⟩
            · rw [gm, ftri]; rfl
            · rw [go, hz, hR1, rout_open0 hz]
            · rw [gt, e_tape f1, e_taped f1]; exact hts
            · rw [go, hz] at e
              exact absurd e (by decide)
          · have h1q : q.1 = 1 := q1.resolve_left hz
            refine ⟨ow' b, G1, R1, ?_, hoL.trans (by rw [if_neg hz]), ⟨hn, hCG1, hRR1, ?_, ?_, ?_⟩, fun _ => ⟨lp, lk, lm, L, GP, GM, ⟨?_, ?_, ?_, ?_⟩, ⟨PR_fr f2 hTR.1, MR_fr f3 hTR.2⟩, hL, hA, ⟨?_, ?_, ?_, ?_⟩, ⟨ow', S + 1, gow, fo, gse, fs, by omega, ?_⟩⟩⟩
            · rw [if_neg hz, gow, if_neg i0]
            · rw [gm, ftri]; rfl
            · rw [go, h1q, hR1, rout_open1 h1q, hR0]
              simp only [qR_open]
              rw [← ho, ho1]
            · rw [gt, e_tape f1, e_taped f1]; exact hts
            · rw [gp]; exact hTC.1
            · rw [gk]; exact hTC.2.1
            · rw [gd]; exact hTC.2.2.1
            · rw [gro]
              refine ⟨rfl, fun k k1 k2 => ?_⟩
              show (if (S + 1) % 2 ≤ k ∧ k < (S + 1) % 2 + 1 then 1 else (g_room g).2 k) = 0 ↔ _
              rw [if_neg (by omega)]
              exact hTC.2.2.2.2 k k1 k2
            · rw [ggp]; exact hN.1
            · rw [e_lastPart f5]; exact hN.2.1
            · rw [ggm]; exact hN.2.2.1
            · rw [e_lastMark f5]; exact hN.2.2.2
            · intro k hk
              rw [how']
              unfold upd
              by_cases hkb : k = b
              · rw [if_pos hkb]
                exact ⟨o + 1, by omega, rfl⟩
              · rw [if_neg hkb]
                exact w6 k hk
        · have b3 : ¬ nI S < 1000000000 := by rw [nMO]; exact nI_nlt (by omega) (by omega)
          have b4 : nI S = 1000000000 := by rw [nMO, show S = 1000000000 by omega]
          exact ⟨-4, g, r, by rw [if_neg b3], by rw [if_pos b4, if_neg i0], h⟩
-- WHO NAMES A PART
def namB (v : Int32) (m : MKQ) : Bool := decide (v ∈ m.2.2.2.2)
theorem C_iN_L {N P : Nat} {x : St_Marks} (h : ML N x P) {i c : Nat} (hi : i < P) (hc : x.2.1.2 i = nI c) (hc2 : c ≤ 12) (v : Int32) : ∀ (d fuel k : Nat), k + d = c → d < fuel → m_Marks_isNaming_L2 x fuel (nI i) v (nI k) = some (if v ∈ lst (fun j => x.2.2.2.1.2 (12 * i + (k + j))) d then 1 else 0) := by
  intro d
  induction d with
  | zero =>
    intro fuel k hk hf
    obtain ⟨fu, rfl, -⟩ := fu1 hf
    rw [m_Marks_isNaming_L2, bs (M_countAt h hi), hc, if_pos (nI_le (by omega) (by omega)), lst_zero, if_neg (by simp)]
  | succ d ih =>
    intro fuel k hk hf
    obtain ⟨fu, rfl, hf'⟩ := fu1 hf
    have hpa := M_partAt h hi hc hc2 (nI k)
    rw [if_neg (show ¬ (nI k < 0 ∨ nI c ≤ nI k) from fun e => e.elim (nI_pos (by omega)) (nI_ge (by omega) (by omega))), nI_clamp (by omega)] at hpa
    rw [m_Marks_isNaming_L2, bs (M_countAt h hi), hc, if_neg (nI_ge (by omega) (by omega)), bs hpa, lst_cons]
    have e : (fun j => x.2.2.2.1.2 (12 * i + (k + (j + 1)))) = fun j => x.2.2.2.1.2 (12 * i + (k + 1 + j)) := funext fun j => by rw [show k + (j + 1) = k + 1 + j by omega]
    rw [e, Nat.add_zero]
    by_cases hv : x.2.2.2.1.2 (12 * i + k) = v
    · rw [if_pos hv, if_pos (List.mem_cons.mpr (Or.inl hv.symm))]
    · rw [if_neg hv, nI_1, ih fu (k + 1) (by omega) (by omega)]
      by_cases hm : v ∈ lst (fun j => x.2.2.2.1.2 (12 * i + (k + 1 + j))) d
      · rw [if_pos hm, if_pos (List.mem_cons_of_mem _ hm)]
      · rw [if_neg hm, if_neg (fun e => (List.mem_cons.mp e).elim (fun z => hv z.symm) hm)]
theorem C_isNaming {N P : Nat} {x : St_Marks} (h : ML N x P) {i : Nat} (hi : i < P) (v : Int32) : m_Marks_isNaming x (nI i) v = some (if namB v (mrow x i) then 1 else 0) := by
  have hP := h.2.2.1
  obtain ⟨c, hc2, hc⟩ := h.2.2.2.2 i (by omega)
  unfold m_Marks_isNaming
  refine Eq.trans (show m_Marks_isNaming_L2 x FU (nI i) v 0 = _ from C_iN_L h hi hc hc2 v c FU 0 (by omega) (FU_lt (by omega))) ?_
  have e : lst (fun j => x.2.2.2.1.2 (12 * i + (0 + j))) c = (mrow x i).2.2.2.2 := by
    show _ = mls (x.2.1.2 i) _ i
    rw [hc, mls_lst hc2]
    exact lst_congr (fun k _ => by rw [Nat.zero_add])
  rw [e]
  unfold namB
  by_cases hm : v ∈ (mrow x i).2.2.2.2
  · rw [if_pos hm, if_pos (decide_eq_true hm)]
  · rw [if_neg hm, if_neg (by simp [hm])]
theorem C_cN_L {N P : Nat} {x : St_Marks} (h : ML N x P) (v : Int32) : ∀ (d fuel k a : Nat), k + d = P → d < fuel → m_Marks_countNaming_L4 x fuel v (nI a) (nI k) = some (nI (a + (lst (fun j => mrow x (k + j)) d).countP (namB v))) := by
  have hP := h.2.2.1
  have hN := h.2.2.2.1
  intro d
  induction d with
  | zero =>
    intro fuel k a hk hf
    obtain ⟨fu, rfl, -⟩ := fu1 hf
    rw [m_Marks_countNaming_L4, h.2.1, if_pos (nI_le (by omega) (by omega))]; rfl
  | succ d ih =>
    intro fuel k a hk hf
    obtain ⟨fu, rfl, hf'⟩ := fu1 hf
    have e : (fun j => mrow x (k + (j + 1))) = fun j => mrow x (k + 1 + j) := funext fun j => by rw [show k + (j + 1) = k + 1 + j by omega]
    rw [m_Marks_countNaming_L4, h.2.1, if_neg (nI_ge (by omega) (by omega)), bs (C_isNaming h (show k < P by omega) v), lst_cons, e, List.countP_cons, nI_1 k, nI_1 a]
    show _ = some (nI (a + (_ + if namB v (mrow x k) = true then 1 else 0)))
    by_cases hv : namB v (mrow x k) = true
    · rw [if_pos hv, if_neg (by decide), ih fu (k + 1) (a + 1) (by omega) (by omega), if_pos hv]
      congr 2
      omega
    · rw [if_neg hv, if_pos rfl, ih fu (k + 1) a (by omega) (by omega), if_neg hv]
      rfl
theorem C_countNaming {N : Nat} {x : St_Marks} {l : List MKQ} (h : MC N x l) (v : Int32) : m_Marks_countNaming x v = some (nI (l.countP (namB v))) := by
  have h1 := h.1.1.2.2.1
  have h2 := h.1.1.2.2.2.1
  have k := C_cN_L h.1.1 v l.length FU 0 0 (by omega) (FU_lt (by omega))
  have e : lst (fun j => mrow x (0 + j)) l.length = l := by
    rw [lst_congr (g := mrow x) (fun j _ => by rw [Nat.zero_add])]; exact h.2
  rw [e, Nat.zero_add] at k
  exact k
theorem R_nm15 {n : Nat} {r : St_Ref} (hR : RI n r) (kk : Int32 → Int32 → Int32 → Option Int32) {k c : Nat} (hk : k < 270) (hc : (g_RmCount r).2 k = nI c) (hc2 : c ≤ 12) (v : Int32) : ∀ (d fuel i a : Nat), i + d = c → d < fuel → m_RRef_named0_L15 r kk fuel v (nI a) (nI k) (nI i) = kk v (nI (a + (lst (fun j => (g_RmPart r).2 (12 * k + (i + j))) d).count v)) (nI k) := by
  have l1 : (g_RmCount r).1 = 270 := ri_mCount hR
  have l2 : (g_RmPart r).1 = 3240 := ri_mPart hR
  intro d
  induction d with
  | zero =>
    intro fuel i a hi hf
    obtain ⟨fu, rfl, -⟩ := fu1 hf
    rw [m_RRef_named0_L15, l1, if_neg (nI_in hk (by omega)), nI_clamp (by omega), hc, if_pos (nI_le (by omega) (by omega))]; rfl
  | succ d ih =>
    intro fuel i a hi hf
    obtain ⟨fu, rfl, hf'⟩ := fu1 hf
    have e : (fun j => (g_RmPart r).2 (12 * k + (i + (j + 1)))) = fun j => (g_RmPart r).2 (12 * k + (i + 1 + j)) := funext fun j => by rw [show i + (j + 1) = i + 1 + j by omega]
    rw [m_RRef_named0_L15, l1, if_neg (nI_in hk (by omega)), nI_clamp (show k < 2 ^ 31 by omega), hc, if_neg (nI_ge (by omega) (by omega)), n12, pk_mul, nI_add, l2, if_neg (nI_in (by omega) (by omega)), nI_clamp (show 12 * k + i < 2 ^ 31 by omega), lst_cons, e, List.count_cons, nI_1 i, nI_1 a]
    by_cases hv : (g_RmPart r).2 (12 * k + i) = v
    · rw [if_pos hv, ih fu (i + 1) (a + 1) (by omega) (by omega), if_pos (show ((g_RmPart r).2 (12 * k + (i + 0)) == v) = true by rw [Nat.add_zero, hv]; exact beq_self_eq_true v)]
      congr 2
      omega
    · rw [if_neg hv, n0, nI_add, show nI (a + 0) = nI a from rfl, ih fu (i + 1) a (by omega) (by omega), if_neg (show ¬ ((g_RmPart r).2 (12 * k + (i + 0)) == v) = true by rw [Nat.add_zero]; exact fun e => hv (eq_of_beq e))]
      rfl
def cntS (v : Int32) (l : List MKQ) : Nat := (l.map (fun m => m.2.2.2.2.count v)).sum
theorem R_nm4 {n : Nat} {r : St_Ref} {M : Nat} (hR : RI n r) (hm : g_Rmarks r = nI M) (hM : M ≤ 270) (h12 : ∀ k, k < M → K12 (qrow r k)) (v : Int32) : ∀ (d fuel k a : Nat), k + d = M → d < fuel → m_RRef_named0_L4 r fuel v (nI a) (nI k) = some (nI (a + cntS v (lst (fun j => qrow r (k + j)) d))) := by
  intro d
  induction d with
  | zero =>
    intro fuel k a hk hf
    obtain ⟨fu, rfl, -⟩ := fu1 hf
    rw [m_RRef_named0_L4, hm, if_pos (nI_le (by omega) (by omega))]; rfl
  | succ d ih =>
    intro fuel k a hk hf
    obtain ⟨fu, rfl, hf'⟩ := fu1 hf
    obtain ⟨c, -, hc2, hc⟩ := h12 k (by omega)
    have hc' : (g_RmCount r).2 k = nI c := hc
    have e : (fun j => qrow r (k + (j + 1))) = fun j => qrow r (k + 1 + j) := funext fun j => by rw [show k + (j + 1) = k + 1 + j by omega]
    rw [m_RRef_named0_L4, hm, if_neg (nI_ge (by omega) (by omega)), n0]
    refine Eq.trans (R_nm15 hR (fun (v1_6 : Int32) (v2_7 : Int32) (v3_8 : Int32) => m_RRef_named0_L4 r fu v1_6 v2_7 (v3_8 + 1)) (k := k) (c := c) (by omega) hc' hc2 v c FU 0 a (by omega) (FU_lt (by omega))) ?_
    show m_RRef_named0_L4 r fu v (nI (a + (lst (fun j => (g_RmPart r).2 (12 * k + (0 + j))) c).count v)) (nI k + 1) = _
    have e2 : lst (fun j => (g_RmPart r).2 (12 * k + (0 + j))) c = (qrow r k).2.2.2.2 := by
      show _ = mls ((g_RmCount r).2 k) _ k
      rw [hc', mls_lst hc2]
      exact lst_congr (fun j _ => by rw [Nat.zero_add])
    rw [e2, nI_1, ih fu (k + 1) _ (by omega) (by omega), lst_cons, e]
    congr 2
    unfold cntS
    rw [List.map_cons, List.sum_cons]
    show _ = a + ((qrow r k).2.2.2.2.count v + _)
    omega
theorem Ris_nodup {GP : Nat} (hG : GP ≤ 1000000000) {m : MKQ} (h : Ris GP m) : m.2.2.2.2.Nodup := by
  obtain ⟨ns, a1, -, -, -, a5, a6⟩ := h
  rw [a1]
  unfold List.Nodup
  rw [List.pairwise_map]
  refine List.Pairwise.imp_of_mem (fun {a b} ha hb hab => ?_) a5
  intro e
  have := (nI_eq (by have := a6 a ha; omega) (by have := a6 b hb; omega)).mp e
  omega
theorem cntS_eq (v : Int32) : ∀ (l : List MKQ), (∀ m, m ∈ l → m.2.2.2.2.Nodup) → cntS v l = l.countP (namB v) := by
  intro l
  induction l with
  | nil => intro _; rfl
  | cons m l ih =>
    intro h
    have h1 := (h m List.mem_cons_self).count (a := v)
    have h2 := ih (fun z hz => h z (List.mem_cons_of_mem _ hz))
    rw [List.countP_cons, ← h2]
    unfold cntS
    rw [List.map_cons, List.sum_cons, h1, Nat.add_comm]
    congr 1
    unfold namB
    by_cases hm : v ∈ m.2.2.2.2
    · rw [if_pos hm, if_pos (decide_eq_true hm)]
    · rw [if_neg hm, if_neg (by simp [hm])]
/-- how many MARKS name a PART, on both sides -/
theorem w_named {n : Nat} {g : St_Log} {r : St_Ref} {lp : List PQ} {lk lm L : List MKQ} {GP GM : Nat} (hR : RI n r) (hk : MC (n / 2) (g_kept g) lk) (hm : MC 6 (g_made g) lm) (hM : MR r L) (hL : L.Perm (lk ++ lm)) (hA : Abs n lp lk lm GP GM) (v : Int32) : m_Log_countNaming g v = some (nI ((lk ++ lm).countP (namB v))) ∧ m_RRef_named0 r v = some (nI ((lk ++ lm).countP (namB v))) := by
  constructor
  · unfold m_Log_countNaming
    rw [bs (C_countNaming hk v), bs (C_countNaming hm v), nI_add, List.countP_append]
  · have k := R_nm4 hR hM.1 hM.2.1 (fun k hk => hM.2.2.2 _ (MR_mem hM hk)) v L.length FU 0 0 (by omega) (FU_lt (by have := hM.2.1; omega))
    have e : lst (fun j => qrow r (0 + j)) L.length = L := by
      rw [lst_congr (g := qrow r) (fun j _ => by rw [Nat.zero_add])]; exact hM.2.2.1
    rw [e, Nat.zero_add, cntS_eq v L (fun m hmm => ?_), hL.countP_eq] at k
    · exact k
    · rcases List.mem_append.mp (hL.mem_iff.mp hmm) with z | z
      · exact Ris_nodup hA.2.2.2.2.2.1 (hA.2.1 m z).2.1
      · exact Ris_nodup hA.2.2.2.2.2.1 (hA.2.2.1 m z).2.1
theorem st_named {n : Nat} {g : St_Log} {r : St_Ref} (h : Rel n g r) (v : Int32) : ∃ a, m_Log_named g v = some a ∧ m_RRef_named r v = some a := by
  obtain ⟨⟨hn, hC, hR, ht, ho, hts⟩, hT⟩ := id h
  unfold m_Log_named m_RRef_named
  by_cases hop : g_isOpen g = 0
  · exact ⟨-3, by rw [if_pos hop], by rw [if_pos (by rw [← ho]; exact hop)]⟩
  · have ho1 := open_1 hC hop
    have hop' : ¬ g_Ropen r = 0 := by rw [← ho]; exact hop
    obtain ⟨lp, lk, lm, L, GP, GM, hTC, hTR, hL, hA, hN, hH⟩ := hT ho1
    obtain ⟨w1, w2⟩ := w_named hR hTC.2.1 hTC.2.2.1 hTR.2 hL hA v
    exact ⟨_, by rw [if_neg hop, bs w1], by rw [if_neg hop', bs w2]⟩
