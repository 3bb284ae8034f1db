-- A MARK IS LEARNED
def eN (f : Nat → Int32) (w k : Nat) : Nat := ((numF f (entA w k) 4).toInt32).toNatClampNeg
def mxE (e : Nat → Nat) (G : Nat) : Nat → Nat
  | 0 => G
  | i + 1 => max (mxE e G i) (e i)
theorem mxE_ge (e : Nat → Nat) (G : Nat) : ∀ c, G ≤ mxE e G c ∧ ∀ k, k < c → e k ≤ mxE e G c := by
  intro c
  induction c with
  | zero => exact ⟨Nat.le_refl _, fun k hk => absurd hk (by omega)⟩
  | succ c ih =>
    rw [mxE]
    refine ⟨by omega, fun k hk => ?_⟩
    by_cases h : k = c
    · rw [h]; omega
    · have := ih.2 k (by omega)
      omega
theorem mxE_le {e : Nat → Nat} {G B : Nat} (hG : G ≤ B) : ∀ c, (∀ k, k < c → e k ≤ B) → mxE e G c ≤ B := by
  intro c
  induction c with
  | zero => intro _; exact hG
  | succ c ih =>
    intro h
    rw [mxE]
    have h1 := ih (fun k hk => h k (by omega))
    have h2 := h c (by omega)
    omega
theorem ris_spec (f : Nat → Int32) (w : Nat) : ∀ (d i : Nat) (b : Int64), ¬ b < 0 → risF f w d i b = true → (∀ k, i ≤ k → k < i + d → 1 ≤ eN f w k ∧ eN f w k ≤ 1000000000 ∧ numF f (entA w k) 4 = lN (eN f w k) ∧ b < numF f (entA w k) 4) ∧ ∀ k k', i ≤ k → k < k' → k' < i + d → numF f (entA w k) 4 < numF f (entA w k') 4 := by
  intro d
  induction d with
  | zero => intro i b hb h; exact ⟨fun k k1 k2 => absurd k2 (by omega), fun k k' k1 k2 k3 => absurd k3 (by omega)⟩
  | succ d ih =>
    intro i b hb h
    rw [risF] at h
    by_cases c1 : lg_cmp (numF f (entA w i) 4) b ≤ 0
    · rw [if_pos c1] at h
      cases h
    · rw [if_neg c1] at h
      by_cases c2 : 0 < lg_cmp (numF f (entA w i) 4) 1000000000
      · rw [if_pos c2] at h
        cases h
      · rw [if_neg c2] at h
        obtain ⟨p1, p2⟩ := pos_of hb c1
        obtain ⟨a, a1, a2, a3, a4⟩ := numOk p1 c2
        have hlt : b < numF f (entA w i) 4 := by
          rw [lg_cmp_le] at c1
          exact Int64.not_le.mp c1
        obtain ⟨k1, k2⟩ := ih (i + 1) _ p2 h
        have hi : 1 ≤ eN f w i ∧ eN f w i ≤ 1000000000 ∧ numF f (entA w i) 4 = lN (eN f w i) := by
          have : eN f w i = a := by unfold eN; rw [a4, nI_clamp (by omega)]
          rw [this]
          exact ⟨a1, a2, a3⟩
        refine ⟨fun k h1 h2 => ?_, fun k k' h1 h2 h3 => ?_⟩
        · by_cases hk : k = i
          · rw [hk]; exact ⟨hi.1, hi.2.1, hi.2.2, hlt⟩
          · obtain ⟨q1, q2, q3, q4⟩ := k1 k (by omega) (by omega)
            exact ⟨q1, q2, q3, Int64.lt_trans hlt q4⟩
        · by_cases hk : k = i
          · rw [hk]
            exact (k1 k' (by omega) (by omega)).2.2.2
          · exact k2 k k' (by omega) h2 (by omega)
theorem ss_kg (g : St_Log) (x y : St_Marks) (a b : Int32) : s_greatestPart (s_kept (s_greatestPart (s_kept g x) a) y) b = s_greatestPart (s_kept g y) b := rfl
theorem C_lm_L {n N Q : Nat} {g : St_Log} {t : T3} (hm : g_medium g = mk3 n t) (hn : 4 ≤ n ∧ n ≤ 512) {x : St_Marks} (hx : ML N x Q) {p c w a GP GM : Nat} (hp : p < Q) (hc : x.2.1.2 p = nI c) (hc2 : c ≤ 12) (hw : w + 1 + ent c ≤ n) (he : ∀ k, k < c → eN t.1 w k ≤ 1000000000 ∧ numF t.1 (entA w k) 4 = lN (eN t.1 w k)) (hGP : GP ≤ 1000000000) (hGM : g_greatestMark g = nI GM) (hGM2 : GM ≤ 1000000000) (ha : a ≤ 1000000000) {rm : St_Room} (hT : m_Room_take (g_room g) (nI w) (nI (1 + ent c)) = some rm) : ∀ (d fuel i : Nat), i + d = c → d < fuel → m_Log_learnMark_L61 fuel (s_greatestPart (s_kept g (mfl x p (fun k => nI (eN t.1 w k)) i)) (nI (mxE (eN t.1 w) GP i))) (nI w) (nI a) (nI c) (nI p) (nI i) = some (nI (1 + ent c), s_greatestMark (s_room (s_greatestPart (s_kept g (mfl x p (fun k => nI (eN t.1 w k)) c)) (nI (mxE (eN t.1 w) GP c))) rm) (nI (max GM a))) := by
  intro d
  induction d with
  | zero =>
    intro fuel i hi hf
    obtain ⟨fu, rfl, -⟩ := fu1 hf
    rw [m_Log_learnMark_L61, if_pos (nI_le (by omega) (by omega)), bs (C_rowsOfMark (by omega))]
    simp only [q_room, q_greatestMark]
    rw [bs hT, bs (C_rowsOfMark (by omega)), hGM, jmaxN (by omega) (by omega), show i = c by omega]
  | succ d ih =>
    intro fuel i hi hf
    obtain ⟨fu, rfl, hf'⟩ := fu1 hf
    obtain ⟨h1, h2⟩ := he i (by omega)
    have hmx := mxE_le (e := eN t.1 w) hGP i (fun k hk => (he k (by omega)).1)
    rw [m_Log_learnMark_L61, if_neg (nI_ge (by omega) (by omega)), bs (C_entryRow (by omega)), bs (C_entryByte (by omega))]
    simp only [q_medium, q_kept, q_greatestPart]
    rw [hm, bs (C_ent4 hn (c := c) (by omega) hw), h2, lN_i]
    have hs := M_setPart (ML_mfl hx p (fun k => nI (eN t.1 w k)) i) (k := p) (i := i) (c := c) hp hc hc2 (by omega) (nI (eN t.1 w i))
    have e : mpt (mfl x p (fun k => nI (eN t.1 w k)) i) p i (nI (eN t.1 w i)) = mfl x p (fun k => nI (eN t.1 w k)) (i + 1) := mfl_step x p (fun k => nI (eN t.1 w k)) i
    rw [e] at hs
    rw [bs hs, jmaxN (by omega) (by omega), ss_kg, nI_1]
    exact ih fu (i + 1) (by omega) (by omega)
theorem R_lm_L {n : Nat} {f : Nat → Int32} {M c w a GP GM : Nat} (hn : n ≤ 512) (hM : M < 270) (hc2 : c ≤ 12) (hw : w + 1 + ent c ≤ n) (he : ∀ k, k < c → eN f w k ≤ 1000000000 ∧ numF f (entA w k) 4 = lN (eN f w k)) (hGP : GP ≤ 1000000000) (hGM2 : GM ≤ 1000000000) (ha : a ≤ 1000000000) : ∀ (d fuel i : Nat) (G : St_Ref), RI n G → (g_Rmedium G).2 = f → g_Rmarks G = nI M → (g_RmCount G).2 M = nI c → g_RlastMark G = nI GM → g_RlastPart G = nI (mxE (eN f w) GP i) → (∀ j, j < i → (g_RmPart G).2 (12 * M + j) = nI (eN f w j)) → i + d = c → d < fuel → ∃ G', m_RRef_learnMark_L94 fuel G (nI w) (nI a) (nI i) = some G' ∧ RI n G' ∧ fMed G' = fMed G ∧ fTap G' = fTap G ∧ fPar G' = fPar G ∧ fHd G' = fHd G ∧ g_RmNumber G' = g_RmNumber G ∧ g_RmRow G' = g_RmRow G ∧ g_RmCount G' = g_RmCount G ∧ g_RmDigest G' = g_RmDigest G ∧ g_Rmarks G' = nI (M + 1) ∧ g_RlastMark G' = nI (max GM a) ∧ g_RlastPart G' = nI (mxE (eN f w) GP c) ∧ (∀ j, j < c → (g_RmPart G').2 (12 * M + j) = nI (eN f w j)) ∧ ∀ j, j < 12 * M → (g_RmPart G').2 j = (g_RmPart G).2 j := by
  intro d
  induction d with
  | zero =>
    intro fuel i G hR hf hm hc hlm hlp hpt hi hfu
    obtain ⟨fu, rfl, -⟩ := fu1 hfu
    have hic : i = c := by omega
    subst hic
    have l1 : (g_RmCount G).1 = 270 := ri_mCount hR
    obtain ⟨G', hG'⟩ : ∃ G', G' = s_RlastMark (s_Rmarks G (nI (M + 1))) (nI (max GM a)) := ⟨_, rfl⟩
    refine ⟨G', ?_, ?_, ?_, ?_, ?_, ?_, ?_, ?_, ?_, ?_, ?_, ?_, ?_, ?_, ?_⟩
    · rw [m_RRef_learnMark_L94, hm, l1, if_neg (nI_in hM (by omega)), nI_clamp (by omega), hc, if_pos (Int32.le_refl _), hlm, nI_1, hG']
      by_cases hz : a ≤ GM
      · rw [if_pos (nI_le hz (by omega)), Nat.max_eq_left hz]
      · rw [if_neg (nI_ge (by omega) (by omega)), Nat.max_eq_right (by omega)]
    · rw [hG']
      refine rs_lastMark (rs_marks hR ?_)
      exact ⟨M + 1, by omega, rfl⟩
    · rw [hG']; simp only [qf_Med]
    · rw [hG']; simp only [qf_Tap]
    · rw [hG']; simp only [qf_Par]
    · rw [hG']; simp only [qf_Hd]
    · rw [hG']; simp only [qR_mNumber]
    · rw [hG']; simp only [qR_mRow]
    · rw [hG']; simp only [qR_mCount]
    · rw [hG']; simp only [qR_mDigest]
    · rw [hG']; simp only [qR_marks]
    · rw [hG']; simp only [qR_lastMark]
    · rw [hG']; simp only [qR_lastPart]; exact hlp
    · intro j hj
      rw [hG']; simp only [qR_mPart]; exact hpt j hj
    · intro j hj
      rw [hG']; simp only [qR_mPart]
  | succ d ih =>
    intro fuel i G hR hf hm hc hlm hlp hpt hi hfu
    obtain ⟨fu, rfl, hfu'⟩ := fu1 hfu
    obtain ⟨h1, h2⟩ := he i (by omega)
    have hmx := mxE_le (e := eN f w) hGP i (fun k hk => (he k (by omega)).1)
    have l1 : (g_RmCount G).1 = 270 := ri_mCount hR
    have l2 : (g_RmPart G).1 = 3240 := ri_mPart hR
    have l3 : (g_RmPartRow G).1 = 3240 := ri_mPartRow hR
    have l4 : (g_RmPartDigest G).1 = 3240 := ri_mPartDigest hR
    have l5 : (g_Rmedium G).1 = 16384 := (ri_medium hR).1
    have hei : i / 2 < ent c := by unfold ent; omega
    have hA : entA w i + 14 ≤ 16384 := by unfold entA; omega
    have b1 : m_RRef_number (g_Rmedium G) (nI (entA w i)) 4 = some (lN (eN f w i)) := by
      rw [← h2, ← hf]
      exact r_number (x := g_Rmedium G) (a := entA w i) (K := 4) (by rw [l5]; omega) (by rw [l5]; omega) (by omega)
    have b2 : m_RRef_number (g_Rmedium G) (nI (entA w i) + 4) 2 = some (numF f (entA w i + 4) 2) := by
      rw [n4, nI_add, n2, ← hf]
      exact r_number (by rw [l5]; omega) (by rw [l5]; omega) (by omega)
    have b3 : m_RRef_number (g_Rmedium G) (nI (entA w i) + 6) 8 = some (numF f (entA w i + 6) 8) := by
      rw [n6, nI_add, n8, ← hf]
      exact r_number (by rw [l5]; omega) (by rw [l5]; omega) (by omega)
    have e0 : (12 : Int32) * g_Rmarks G + nI i = nI (12 * M + i) := by rw [hm, n12, pk_mul, nI_add]
    have c1 : (nI (12 * M + i)).toNatClampNeg = 12 * M + i := nI_clamp (by omega)
    have i1 : ∀ K, K = 3240 → ¬ (nI (12 * M + i) < 0 ∨ K ≤ 12 * M + i) := fun K hK => by
      have := nI_in (c := 12 * M + i) (N := 3240) (by omega) (by omega)
      rw [c1] at this
      rw [hK]; exact this
    obtain ⟨G1, hG1⟩ : ∃ G1, G1 = s_RlastPart (s_RmPartDigest (s_RmPartRow (s_RmPart G ((g_RmPart G).1, upd (g_RmPart G).2 (12 * M + i) (nI (eN f w i)))) ((g_RmPartRow G).1, upd (g_RmPartRow G).2 (12 * M + i) ((numF f (entA w i + 4) 2).toInt32))) ((g_RmPartDigest G).1, vp_updL (g_RmPartDigest G).2 (12 * M + i) (numF f (entA w i + 6) 8))) (nI (mxE (eN f w) GP (i + 1))) := ⟨_, rfl⟩
    have hRG1 : RI n G1 := by
      rw [hG1]
      refine rs_lastPart (rs_mPartDigest (rs_mPartRow (rs_mPart hR ?_) ?_) ?_)
      · exact l2
      · exact l3
      · exact l4
    have k1 : fMed G1 = fMed G := by rw [hG1]; simp only [qf_Med]
    have k2 : fTap G1 = fTap G := by rw [hG1]; simp only [qf_Tap]
    have k3 : fPar G1 = fPar G := by rw [hG1]; simp only [qf_Par]
    have k4 : fHd G1 = fHd G := by rw [hG1]; simp only [qf_Hd]
    have k5 : g_RmNumber G1 = g_RmNumber G := by rw [hG1]; simp only [qR_mNumber]
    have k6 : g_RmRow G1 = g_RmRow G := by rw [hG1]; simp only [qR_mRow]
    have k7 : g_RmCount G1 = g_RmCount G := by rw [hG1]; simp only [qR_mCount]
    have k8 : g_RmDigest G1 = g_RmDigest G := by rw [hG1]; simp only [qR_mDigest]
    have k9 : g_RmPart G1 = ((g_RmPart G).1, upd (g_RmPart G).2 (12 * M + i) (nI (eN f w i))) := by rw [hG1]; simp only [qR_mPart]
    have k10 : g_Rmarks G1 = nI M := by rw [hG1]; simp only [qR_marks]; exact hm
    have k11 : g_RlastMark G1 = nI GM := by rw [hG1]; simp only [qR_lastMark]; exact hlm
    have k12 : g_RlastPart G1 = nI (mxE (eN f w) GP (i + 1)) := by rw [hG1]; simp only [qR_lastPart]
    obtain ⟨G', z1, z2, z3, z4, z5, z6, z7, z8, z9, z10, z11, z12, z13, z14, z15⟩ := ih fu (i + 1) G1 hRG1 (by rw [e_medium k1]; exact hf) k10 (by rw [k7]; exact hc) k11 k12 (fun j hj => by
      rw [k9]
      show upd (g_RmPart G).2 (12 * M + i) (nI (eN f w i)) (12 * M + j) = _
      unfold upd
      by_cases hji : j = i
      · rw [if_pos (by omega), hji]
      · rw [if_neg (by omega)]
        exact hpt j (by omega)) (by omega) (by omega)
    refine ⟨G', ?_, z2, z3.trans k1, z4.trans k2, z5.trans k3, z6.trans k4, z7.trans k5, z8.trans k6, z9.trans k7, z10.trans k8, z11, z12, z13, z14, fun j hj => ?_⟩
    · rw [m_RRef_learnMark_L94, e0, c1, hlp]
      refine Eq.trans (if_neg (show ¬ (g_Rmarks G < 0 ∨ (g_RmCount G).1 ≤ (g_Rmarks G).toNatClampNeg) by rw [hm, l1]; exact nI_in hM (by omega))) ?_
      refine Eq.trans (if_neg (show ¬ (g_RmCount G).2 (g_Rmarks G).toNatClampNeg ≤ nI i by rw [hm, nI_clamp (by omega), hc]; exact nI_ge (by omega) (by omega))) ?_
      refine Eq.trans (bs (R_entryAt (by omega))) ?_
      refine Eq.trans (bs b1) ?_
      rw [lN_i]
      refine Eq.trans (if_neg (i1 _ l2)) ?_
      refine Eq.trans (bs b2) ?_
      refine Eq.trans (if_neg (i1 _ l3)) ?_
      refine Eq.trans (bs b3) ?_
      refine Eq.trans (if_neg (i1 _ l4)) ?_
      rw [nI_1]
      by_cases hz : eN f w i ≤ mxE (eN f w) GP i
      · refine Eq.trans (if_pos (nI_le hz (by omega))) ?_
        have hmm : mxE (eN f w) GP (i + 1) = mxE (eN f w) GP i := by rw [mxE]; exact Nat.max_eq_left hz
        rw [hmm] at hG1
        rw [← hG1]
        exact z1
      · refine Eq.trans (if_neg (nI_ge (by omega) (by omega))) ?_
        have hmm : mxE (eN f w) GP (i + 1) = eN f w i := by rw [mxE]; exact Nat.max_eq_right (by omega)
        rw [hmm] at hG1
        rw [← hG1]
        exact z1
    · rw [z15 j hj, k9]
      show upd (g_RmPart G).2 (12 * M + i) (nI (eN f w i)) j = _
      unfold upd
      rw [if_neg (by omega)]
