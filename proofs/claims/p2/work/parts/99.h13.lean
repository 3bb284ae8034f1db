-- THE REFERENCE KEEPS A MARK
theorem R_entryAt0 {k : Nat} (hk : k < 2 ^ 20) : m_RRef_entryAt 0 (nI k) = some (nI (entAt k)) := by
  unfold m_RRef_entryAt jrem entAt
  rw [n0, n1, n2, n14, n32, pk_rem (by omega) (by omega) (by omega), pk_div (by omega) (by omega) (by omega), nI_add, nI_add, pk_mul, pk_mul, nI_add, nI_add, Nat.zero_add, ← Nat.add_assoc]
/-- the same but for what is only drawn upon -/
def FrK (r G : St_Ref) : Prop := fMed G = fMed r ∧ fTap G = fTap r ∧ fPar G = fPar r ∧ fMrk G = fMrk r ∧ fHd G = fHd r ∧ fLs G = fLs r
theorem FrK.rf (r : St_Ref) : FrK r r := ⟨rfl, rfl, rfl, rfl, rfl, rfl⟩
theorem FrK.tr {a b c : St_Ref} (h : FrK a b) (k : FrK b c) : FrK a c := ⟨k.1.trans h.1, k.2.1.trans h.2.1, k.2.2.1.trans h.2.2.1, k.2.2.2.1.trans h.2.2.2.1, k.2.2.2.2.1.trans h.2.2.2.2.1, k.2.2.2.2.2.trans h.2.2.2.2.2⟩
theorem rtri_fr {r G : St_Ref} (h : fMed G = fMed r) : rtri G = rtri r := by
  unfold rtri
  rw [e_medium h, e_cutIn h, e_written h]
/-- what keeping leaves -/
def KpOut (n : Nat) (r : St_Ref) (j w c : Nat) (D : Int64) (q : Int32 × T3) (o : Option (Int32 × St_Ref)) : Prop := ∃ r', o = some (if q.1 = 0 then (-5) else 1, r') ∧ RI n r' ∧ rtri r' = q.2 ∧ (q.1 = 0 → g_Ropen r' = 0) ∧ (q.1 = 1 → g_Ropen r' = g_Ropen r) ∧ fTap r' = fTap r ∧ fPar r' = fPar r ∧ fHd r' = fHd r ∧ fLs r' = fLs r ∧ g_Rmarks r' = g_Rmarks r ∧ (q.1 = 1 → ∀ k, qrow r' k = if k = j then ((g_RmNumber r).2 j, (g_RmCount r).2 j, nI w, D, mls ((g_RmCount r).2 j) (g_RmPart r).2 j) else qrow r k)
theorem R_kp_run {n : Nat} {G : St_Ref} (hG : RI n G) {F : Nat → Int32} (hd : g_Rdraft G = (256, F)) {j i w : Nat} (hj : j < 270) (hcG : (g_RmCount G).2 j = nI i) (hc2 : 1 ≤ i ∧ i ≤ 12) (v : Int32) (fu : Nat) {D : Int64} (hD : D = digF F 32 (32 * ent i)) {G1 : St_Ref} (hG1 : G1 = s_RmDigest G ((g_RmDigest G).1, vp_updL (g_RmDigest G).2 j D)) {I : Nat → Int32} (hI : I = markImg F i v) {q : Int32} {R1 : St_Ref} (hw2 : m_RRef_writeAll (s_Rdraft G1 (256, I)) (nI w) (nI (1 + ent i)) = some (q, R1)) (hR1 : (g_RmRow R1).1 = 270) : m_RRef_keep_L72 (fu + 1) G v (nI j) (nI (ent i)) (nI w) (nI i) = (if q = 0 then some ((-5), R1) else some (1, (s_RmRow R1 ((g_RmRow R1).1, upd (g_RmRow R1).2 j (nI w))))) := by
  have he6 : ent i ≤ 6 := by unfold ent; omega
  have c0 : (nI j).toNatClampNeg = j := nI_clamp (by omega)
  have l1 : (g_RmCount G).1 = 270 := ri_mCount hG
  have l2 : (g_RmDigest G).1 = 270 := ri_mDigest hG
  have i0 : ∀ M, M = 270 → ¬ (nI j < 0 ∨ M ≤ j) := fun M hM => by
    have := nI_in (c := j) (N := 270) hj (by omega)
    rw [c0] at this
    rw [hM]; exact this
  have d1 : m_RRef_digest (256, F) 32 (32 * nI (ent i)) = some D := by
    rw [n32, pk_mul, hD]
    exact r_digest (x := (256, F)) (by show 32 + 32 * ent i ≤ 256; omega) (by show 256 < 2 ^ 31; omega) (by omega)
  have u0 : upd (upd F (0 : Int32).toNatClampNeg (vp_nar .byte 2)) (1 : Int32).toNatClampNeg (vp_nar .byte ((nI i).toInt8.toInt32)) = pF (pF F 0 1 2) 1 1 (nI i).toInt64 := by
    rw [pF1, pF1, bv_i]; rfl
  obtain ⟨F1, hF1⟩ : ∃ F1, F1 = pF (pF F 0 1 2) 1 1 (nI i).toInt64 := ⟨_, rfl⟩
  have u1 : m_RRef_put (256, F1) 4 4 v.toInt64 = some (256, pF F1 4 4 v.toInt64) := R_put (x := (256, F1)) (i := 4) (K := 4) (by show 256 < 2 ^ 31; omega) (by omega) (by show 4 + 4 ≤ 256; omega) _
  obtain ⟨F3, hF3⟩ : ∃ F3, F3 = pF F1 4 4 v.toInt64 := ⟨_, rfl⟩
  have u2 : m_RRef_put (256, F3) 8 8 D = some (256, pF F3 8 8 D) := R_put (x := (256, F3)) (i := 8) (K := 8) (by show 256 < 2 ^ 31; omega) (by omega) (by show 8 + 8 ≤ 256; omega) _
  obtain ⟨F2, hF2⟩ : ∃ F2, F2 = pF F3 8 8 D := ⟨_, rfl⟩
  have hI2 : pF F2 24 8 (digF F2 0 24) = I := by rw [hI, hF2, hF3, hF1, hD]; rfl
  have s1 := R_sumDraft (g := s_Rdraft G1 (256, F2)) rfl
  rw [sr_draft, hI2] at s1
  rw [← hF3] at u1
  rw [← hF2] at u2
  rw [← hF1] at u0
  rw [m_RRef_keep_L72, c0, hd, hcG]
  refine Eq.trans (if_neg (i0 _ l1)) ?_
  refine Eq.trans (if_pos (Int32.le_refl _)) ?_
  refine Eq.trans (bs d1) ?_
  refine Eq.trans (if_neg (i0 _ l2)) ?_
  refine Eq.trans (if_neg (show ¬ ((0 : Int32) < 0 ∨ 256 ≤ (0 : Int32).toNatClampNeg) by decide)) ?_
  refine Eq.trans (if_neg (i0 _ l1)) ?_
  refine Eq.trans (if_neg (show ¬ ((1 : Int32) < 0 ∨ 256 ≤ (1 : Int32).toNatClampNeg) by decide)) ?_
  simp only
  rw [u0]
  refine Eq.trans (bs u1) ?_
  refine Eq.trans (if_neg (i0 _ l2)) ?_
  rw [pk_uLs]
  refine Eq.trans (bs u2) ?_
  rw [sr_draft, sr_draft, sr_draft, ← hG1]
  refine Eq.trans (bs s1) ?_
  rw [n1, nI_add]
  refine Eq.trans (bs hw2) ?_
  simp only
  by_cases h0 : q = 0
  · rw [if_pos h0, if_pos h0]
  · rw [if_neg h0, if_neg h0]
    exact if_neg (i0 _ hR1)
theorem R_kp_exit {n : Nat} {r G : St_Ref} (hG : RI n G) (hF : FrK r G) {F : Nat → Int32} (hd : g_Rdraft G = (256, F)) (hB : ∀ j, By (F j)) (hz : ∀ j, 224 ≤ j → F j = 0) {j c w : Nat} (hj : j < 270) (hc : (g_RmCount r).2 j = nI c) (hc2 : 1 ≤ c ∧ c ≤ 12) (hw : w + 1 + ent c ≤ 512) (v : Int32) (fu : Nat) {i : Nat} (hi : i = c) : KpOut n r j w c (digF F 32 (32 * ent c)) (wrM (markImg F c v) w (ent c) 1 (rtri r)) (m_RRef_keep_L72 (fu + 1) G v (nI j) (nI (ent c)) (nI w) (nI i)) := by
  subst hi
  have he6 : ent i ≤ 6 := by unfold ent; omega
  have c0 : (nI j).toNatClampNeg = j := nI_clamp (by omega)
  have l1 : (g_RmCount G).1 = 270 := ri_mCount hG
  have l2 : (g_RmDigest G).1 = 270 := ri_mDigest hG
  have l3 : (g_RmRow G).1 = 270 := ri_mRow hG
  have i0 : ∀ M, M = 270 → ¬ (nI j < 0 ∨ M ≤ j) := fun M hM => by
    have := nI_in (c := j) (N := 270) hj (by omega)
    rw [c0] at this
    rw [hM]; exact this
  have hcG : (g_RmCount G).2 j = nI i := by rw [e_mCount hF.2.2.2.1]; exact hc
  obtain ⟨D, hD⟩ : ∃ D, D = digF F 32 (32 * ent i) := ⟨_, rfl⟩
  obtain ⟨I, hI⟩ : ∃ I, I = markImg F i v := ⟨_, rfl⟩
  have hIB : ∀ k, By (I k) := by rw [hI]; exact By_mark hB _ _
  have hIz : kDr (256, I) := ⟨rfl, fun k hk => by show I k = 0; rw [hI, mark_hi (by omega)]; exact hz k (by omega)⟩
  obtain ⟨G1, hG1⟩ : ∃ G1, G1 = s_RmDigest G ((g_RmDigest G).1, vp_updL (g_RmDigest G).2 j D) := ⟨_, rfl⟩
  have hRG1 : RI n G1 := by
    rw [hG1]
    refine rs_mDigest hG ?_
    exact l2
  have hRG2 : RI n (s_Rdraft G1 (256, I)) := rs_draft hRG1 hIz
  have hw1 := R_writeAll (g := s_Rdraft G1 (256, I)) (ri_medium hRG2).1 rfl hIB (row := w) (count := 1 + ent i) (by omega) (by omega) (ri_cutIn hRG2)
  have htr : rtri (s_Rdraft G1 (256, I)) = rtri r := by
    have : rtri (s_Rdraft G1 (256, I)) = rtri G := by
      rw [hG1]
      simp only [rtri, qR_medium, qR_cutIn, qR_written]
    rw [this, rtri_fr hF.1]
  have hw2 : m_RRef_writeAll (s_Rdraft G1 (256, I)) (nI w) (nI (1 + ent i)) = some ((wrM I w (ent i) 1 (rtri r)).1, rout (s_Rdraft G1 (256, I)) (wrM I w (ent i) 1 (rtri r))) := by
    rw [htr, show 1 + ent i - 1 = ent i by omega] at hw1
    exact hw1
  have hpw : Pw (rtri r).2.1 := by rw [← rtri_fr hF.1]; exact ri_cutIn hG
  have hby : ∀ k, By ((rtri r).1 k) := by rw [← rtri_fr hF.1]; exact (ri_medium hG).2
  have q1 := wrM_ok I w (ent i) 1 (rtri r)
  have q2 := wrM_pw I w (ent i) 1 (rtri r) hpw
  have q3 := wrM_by I hIB w (ent i) 1 (rtri r) hby
  rw [← hI]
  obtain ⟨q, hq⟩ : ∃ q, q = wrM I w (ent i) 1 (rtri r) := ⟨_, rfl⟩
  rw [← hq] at hw2 q1 q2 q3 ⊢
  obtain ⟨f1, f2, f3, f4, f5, -, -, -⟩ := fr_rout (s_Rdraft G1 (256, I)) q
  obtain ⟨R1, hR1⟩ : ∃ R1, R1 = rout (s_Rdraft G1 (256, I)) q := ⟨_, rfl⟩
  have hRR1 : RI n R1 := by rw [hR1]; exact RI_rout hRG2 q2 q3
  rw [← hR1] at hw2 f1 f2 f3 f4 f5
  rw [hG1] at f1 f2 f4 f5
  simp only [qf_Tap, qf_Par, qf_Hd, qf_Ls] at f1 f2 f4 f5
  have ftri : rtri R1 = q.2 := by rw [hR1]; exact rout_tri _ _
  have m1 : g_Rmarks R1 = g_Rmarks r := by rw [e_marks f3, hG1]; simp only [qR_marks]; exact e_marks hF.2.2.2.1
  have m2 : g_RmNumber R1 = g_RmNumber r := by rw [e_mNumber f3, hG1]; simp only [qR_mNumber]; exact e_mNumber hF.2.2.2.1
  have m3 : g_RmRow R1 = g_RmRow r := by rw [e_mRow f3, hG1]; simp only [qR_mRow]; exact e_mRow hF.2.2.2.1
  have m4 : g_RmCount R1 = g_RmCount r := by rw [e_mCount f3, hG1]; simp only [qR_mCount]; exact e_mCount hF.2.2.2.1
  have m5 : g_RmPart R1 = g_RmPart r := by rw [e_mPart f3, hG1]; simp only [qR_mPart]; exact e_mPart hF.2.2.2.1
  have m6 : g_RmDigest R1 = ((g_RmDigest r).1, vp_updL (g_RmDigest r).2 j D) := by rw [e_mDigest f3, hG1]; simp only [qR_mDigest]; rw [e_mDigest hF.2.2.2.1]
  have hop : q.1 = 1 → g_Ropen R1 = g_Ropen r := fun h => by
    rw [hR1, rout_open1 h, hG1]
    simp only [qR_open]
    exact e_open hF.1
  have run := R_kp_run (n := n) (w := w) hG hd hj hcG hc2 v fu hD hG1 hI hw2 (ri_mRow hRR1)
  rw [run]
  by_cases h0 : q.1 = 0
  · rw [if_pos h0]
    refine ⟨R1, by rw [if_pos h0], hRR1, ftri, fun _ => by rw [hR1, rout_open0 h0], hop, f1.trans hF.2.1, f2.trans hF.2.2.1, f4.trans hF.2.2.2.2.1, f5.trans hF.2.2.2.2.2, m1, fun h1 => ?_⟩
    rw [h0] at h1
    exact absurd h1 (by decide)
  · rw [if_neg h0]
    refine ⟨s_RmRow R1 ((g_RmRow R1).1, upd (g_RmRow R1).2 j (nI w)), by rw [if_neg h0], ?_, ?_, fun h => absurd h h0, fun h => ?_, ?_, ?_, ?_, ?_, ?_, fun _ k => ?_⟩
    · refine rs_mRow hRR1 ?_
      exact ri_mRow hRR1
    · have : rtri (s_RmRow R1 ((g_RmRow R1).1, upd (g_RmRow R1).2 j (nI w))) = rtri R1 := by simp only [rtri, qR_medium, qR_cutIn, qR_written]
      rw [this]; exact ftri
    · simp only [qR_open]; exact hop h
    · simp only [qf_Tap]; exact f1.trans hF.2.1
    · simp only [qf_Par]; exact f2.trans hF.2.2.1
    · simp only [qf_Hd]; exact f4.trans hF.2.2.2.2.1
    · simp only [qf_Ls]; exact f5.trans hF.2.2.2.2.2
    · simp only [qR_marks]; exact m1
    · unfold qrow
      simp only [qR_mNumber, qR_mCount, qR_mRow, qR_mDigest, qR_mPart]
      rw [m2, m3, m4, m5, m6]
      unfold upd vp_updL
      by_cases hk : k = j
      · subst hk
        simp only [if_pos]
        rw [hD]
      · simp only [if_neg hk]
theorem R_kp_L {n : Nat} {r : St_Ref} {lp : List PQ} {x : St_Parts} {t : T3} (ht : t.1 = (g_Rmedium r).2) (hP : PR r lp) (hPC : PC n x lp) (hn : n ≤ 512) {j c w : Nat} (hj : j < 270) (hc : (g_RmCount r).2 j = nI c) (hc2 : 1 ≤ c ∧ c ≤ 12) (hw : w + 1 + ent c ≤ 512) (v : Int32) {es : Nat → Int32 × Int32 × Int64} (hes : EsOk x lp.length t n (fun k => (g_RmPart r).2 (12 * j + k)) c es) : ∀ (d fuel i : Nat) (G : St_Ref) (f : Nat → Int32), RI n G → FrK r G → g_Rdraft G = (256, f) → (∀ k, By (f k)) → (∀ k, 224 ≤ k → f k = 0) → i + d = c → d < fuel → KpOut n r j w c (digF (entsF es d i f) 32 (32 * ent c)) (wrM (markImg (entsF es d i f) c v) w (ent c) 1 (rtri r)) (m_RRef_keep_L72 fuel G v (nI j) (nI (ent c)) (nI w) (nI i)) := by
  intro d
  induction d with
  | zero =>
    intro fuel i G f hG hF hd hB hz hi hf
    obtain ⟨fu, rfl, -⟩ := fu1 hf
    exact R_kp_exit hG hF hd hB hz hj hc hc2 hw v fu (by omega)
  | succ d ih =>
    intro fuel i G f hG hF hd hB hz hi hf
    obtain ⟨fu, rfl, hf'⟩ := fu1 hf
    obtain ⟨i2, w2, hi2, z1, z2, z3, z4, z5⟩ := hes i (by omega)
    have hPG : PR G lp := PR_fr hF.2.2.1 hP
    have hlp := hPG.1.2.2
    have h3 : entAt i + 14 ≤ 224 := by unfold entAt; omega
    have c0 : (nI j).toNatClampNeg = j := nI_clamp (by omega)
    have l1 : (g_RmCount G).1 = 270 := ri_mCount hG
    have l4 : (g_RmPart G).1 = 3240 := ri_mPart hG
    have l5 : (g_RmPartRow G).1 = 3240 := ri_mPartRow hG
    have l6 : (g_RmPartDigest G).1 = 3240 := ri_mPartDigest hG
    have l7 : (g_RpRow G).1 = 520 := ri_pRow hG
    have l8 : (g_RpNumber G).1 = 520 := ri_pNumber hG
    have lm : (g_Rmedium G).1 = 16384 := (ri_medium hG).1
    have i0 : ∀ M, M = 270 → ¬ (nI j < 0 ∨ M ≤ j) := fun M hM => by
      have := nI_in (c := j) (N := 270) hj (by omega)
      rw [c0] at this
      rw [hM]; exact this
    have e0 : (12 : Int32) * nI j + nI i = nI (12 * j + i) := by rw [n12, pk_mul, nI_add]
    have c1 : (nI (12 * j + i)).toNatClampNeg = 12 * j + i := nI_clamp (by omega)
    have i1 : ∀ M, M = 3240 → ¬ (nI (12 * j + i) < 0 ∨ M ≤ 12 * j + i) := fun M hM => by
      have := nI_in (c := 12 * j + i) (N := 3240) (by omega) (by omega)
      rw [c1] at this
      rw [hM]; exact this
    have hcG : (g_RmCount G).2 j = nI c := by rw [e_mCount hF.2.2.2.1]; exact hc
    have hpG : (g_RmPart G).2 (12 * j + i) = (g_RmPart r).2 (12 * j + i) := by rw [e_mPart hF.2.2.2.1]
    have hmem : crow x i2 ∈ lp := PC_mem hPC hi2
    obtain ⟨b, hb, fb, eb⟩ : ∃ b, b < lp.length ∧ m_RRef_findPart G ((g_RmPart r).2 (12 * j + i)) = some (nI b) ∧ rrow G b = crow x i2 := by
      rcases R_findPart hPG.1 ((g_RmPart r).2 (12 * j + i)) with ⟨q1, q2⟩ | ⟨b, hb, q1, q2⟩
      · obtain ⟨k, hk, e⟩ := (hPG.2.1 _).mp hmem
        exact absurd (show (rrow G k).1 = (g_RmPart r).2 (12 * j + i) by rw [e]; exact z2) (q2 k hk)
      · exact ⟨b, hb, q1, (TC_un (PC_tc hPC) hmem (PR_mem hPG hb) (by rw [q2]; exact z2)).symm⟩
    have c2 : (nI b).toNatClampNeg = b := nI_clamp (by omega)
    have i2' : ∀ M, M = 520 → ¬ (nI b < 0 ∨ M ≤ b) := fun M hM => by
      have := nI_in (c := b) (N := 520) (by omega) (by omega)
      rw [c2] at this
      rw [hM]; exact this
    have er : (g_RpRow G).2 b = nI w2 := by
      have := congrArg (fun q : PQ => q.2.2.2.1) eb
      exact this.trans z3
    have en : (g_RpNumber G).2 b = (g_RmPart r).2 (12 * j + i) := by
      have := congrArg (fun q : PQ => q.1) eb
      exact this.trans z2
    obtain ⟨dg, hdg⟩ : ∃ dg, dg = numF t.1 (32 * w2 + 16) 8 := ⟨_, rfl⟩
    have hnum : m_RRef_number (g_Rmedium G) (32 * nI w2 + 16) 8 = some dg := by
      rw [n32, pk_mul, n16, nI_add, n8]
      have := r_number (x := g_Rmedium G) (a := 32 * w2 + 16) (K := 8) (by rw [lm]; omega) (by rw [lm]; omega) (by omega)
      rw [this, hdg, ht, e_medium hF.1]
    have e32 : (32 : Int32) * (1 + nI i / 2) = nI (32 * (1 + i / 2)) := by rw [n1, n2, pk_div (by omega) (by omega) (by omega), nI_add, n32, pk_mul]
    have e4 : nI (entAt i) + 4 = nI (entAt i + 4) := by rw [n4, nI_add]
    have e6 : nI (entAt i) + 6 = nI (entAt i + 6) := by rw [n6, nI_add]
    have hes0 : es i = ((g_RmPart r).2 (12 * j + i), nI w2, dg) := by rw [z5, hdg]
    have u6 : upd f (32 * (1 + i / 2)) (vp_nar .byte 6) = pF f (32 * (1 + i / 2)) 1 6 := by
      rw [pF1]; rfl
    have hent : pF (pF (pF (pF f (32 * (1 + i / 2)) 1 6) (entAt i) 4 ((g_RmPart r).2 (12 * j + i)).toInt64) (entAt i + 4) 2 (nI w2).toInt64) (entAt i + 6) 8 dg = entF f i (es i) := by rw [hes0]; rfl
    obtain ⟨G1, hG1⟩ : ∃ G1, G1 = s_Rdraft (s_RmPartDigest (s_RmPartRow G ((g_RmPartRow G).1, upd (g_RmPartRow G).2 (12 * j + i) (nI w2))) ((g_RmPartDigest G).1, vp_updL (g_RmPartDigest G).2 (12 * j + i) dg)) (256, entF f i (es i)) := ⟨_, rfl⟩
    have hB1 : ∀ k, By (entF f i (es i) k) := By_ent hB _ _
    have hz1 : ∀ k, 224 ≤ k → entF f i (es i) k = 0 := by
      intro k hk
      have := ents_hi es 1 i f k (by omega) hk
      rw [show entsF es 1 i f = entF f i (es i) from rfl] at this
      rw [this]; exact hz k hk
    have hRG1 : RI n G1 := by
      rw [hG1]
      refine rs_draft (rs_mPartDigest (rs_mPartRow hG ?_) ?_) ?_
      · exact l5
      · exact l6
      · exact ⟨rfl, fun k hk => hz1 k (by omega)⟩
    have hFG1 : FrK r G1 := by
      refine hF.tr ?_
      rw [hG1]
      refine ⟨?_, ?_, ?_, ?_, ?_, ?_⟩ <;> simp only [qf_Med, qf_Tap, qf_Par, qf_Mrk, qf_Hd, qf_Ls]
    have hdG1 : g_Rdraft G1 = (256, entF f i (es i)) := by rw [hG1]; simp only [qR_draft]
    have k := ih fu (i + 1) G1 (entF f i (es i)) hRG1 hFG1 hdG1 hB1 hz1 (by omega) (by omega)
    have run : m_RRef_keep_L72 (fu + 1) G v (nI j) (nI (ent c)) (nI w) (nI i) = m_RRef_keep_L72 fu G1 v (nI j) (nI (ent c)) (nI w) (nI (i + 1)) := by
      rw [m_RRef_keep_L72, e0, c0, c1, hd, hcG, hpG, e32]
      refine Eq.trans (if_neg (i0 _ l1)) ?_
      refine Eq.trans (if_neg (nI_ge (by omega) (by omega))) ?_
      refine Eq.trans (if_neg (i1 _ l4)) ?_
      refine Eq.trans (bs fb) ?_
      refine Eq.trans (bs (R_entryAt0 (by omega))) ?_
      rw [c2, er, en, e4, e6]
      refine Eq.trans (if_neg (i2' _ l7)) ?_
      refine Eq.trans (if_neg (i1 _ l5)) ?_
      refine Eq.trans (if_neg (i2' _ l7)) ?_
      refine Eq.trans (bs hnum) ?_
      refine Eq.trans (if_neg (i1 _ l6)) ?_
      refine Eq.trans (if_neg (nI_in (show 32 * (1 + i / 2) < 256 by omega) (by omega))) ?_
      refine Eq.trans (if_neg (i2' _ l8)) ?_
      rw [nI_clamp (show 32 * (1 + i / 2) < 2 ^ 31 by omega), u6]
      refine Eq.trans (bs (show m_RRef_put (256, pF f (32 * (1 + i / 2)) 1 6) (nI (entAt i)) 4 _ = _ from R_put (x := (256, pF f (32 * (1 + i / 2)) 1 6)) (i := entAt i) (K := 4) (by show 256 < 2 ^ 31; omega) (by omega) (by show entAt i + 4 ≤ 256; omega) ((g_RmPart r).2 (12 * j + i)).toInt64)) ?_
      refine Eq.trans (if_neg (i2' _ l7)) ?_
      refine Eq.trans (bs (show m_RRef_put (256, pF (pF f (32 * (1 + i / 2)) 1 6) (entAt i) 4 ((g_RmPart r).2 (12 * j + i)).toInt64) (nI (entAt i + 4)) 2 _ = _ from R_put (x := (256, pF (pF f (32 * (1 + i / 2)) 1 6) (entAt i) 4 ((g_RmPart r).2 (12 * j + i)).toInt64)) (i := entAt i + 4) (K := 2) (by show 256 < 2 ^ 31; omega) (by omega) (by show entAt i + 4 + 2 ≤ 256; omega) (nI w2).toInt64)) ?_
      refine Eq.trans (if_neg (i1 _ l6)) ?_
      simp only [pk_uLs]
      refine Eq.trans (bs (show m_RRef_put (256, pF (pF (pF f (32 * (1 + i / 2)) 1 6) (entAt i) 4 ((g_RmPart r).2 (12 * j + i)).toInt64) (entAt i + 4) 2 (nI w2).toInt64) (nI (entAt i + 6)) 8 dg = _ from R_put (x := (256, pF (pF (pF f (32 * (1 + i / 2)) 1 6) (entAt i) 4 ((g_RmPart r).2 (12 * j + i)).toInt64) (entAt i + 4) 2 (nI w2).toInt64)) (i := entAt i + 6) (K := 8) (by show 256 < 2 ^ 31; omega) (by omega) (by show entAt i + 6 + 8 ≤ 256; omega) dg)) ?_
      rw [sr_draft, sr_draft, sr_draft, nI_1]
      simp only
      rw [hent, ← hG1]
    rw [run]
    exact k
