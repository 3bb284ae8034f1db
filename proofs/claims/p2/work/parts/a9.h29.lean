-- WHAT IS LEARNED
theorem jmaxN {a b : Nat} (ha : a < 2 ^ 31) (hb : b < 2 ^ 31) : jmax (nI a) (nI b) = nI (max a b) := by
  unfold jmax
  by_cases h : a < b
  · rw [if_pos (nI_lt h hb), Nat.max_eq_right (by omega)]
  · rw [if_neg (nI_nlt (by omega) ha), Nat.max_eq_left (by omega)]
theorem TR_psh {r r' : St_Ref} {P : Nat} {T : PQ → Prop} {q : PQ} (h : TR r P T) (hR : RP r' (P + 1)) (hr : ∀ k, rrow r' k = if k = P then q else rrow r k) (hq : ∀ p, T p → p.1 ≠ q.1) : TR r' (P + 1) (fun p => T p ∨ p = q) := by
  obtain ⟨h1, h2, h3⟩ := h
  refine ⟨hR, fun z => ⟨?_, ?_⟩, fun i j hi hj e => ?_⟩
  · rintro (hz | rfl)
    · obtain ⟨k, hk, rfl⟩ := (h2 z).mp hz
      exact ⟨k, by omega, by rw [hr, if_neg (by omega)]⟩
    · exact ⟨P, by omega, by rw [hr, if_pos rfl]⟩
  · rintro ⟨k, hk, rfl⟩
    rw [hr]
    by_cases hk2 : k = P
    · rw [if_pos hk2]; exact Or.inr rfl
    · rw [if_neg hk2]; exact Or.inl ((h2 _).mpr ⟨k, by omega, rfl⟩)
  · rw [hr, hr] at e
    by_cases i1 : i = P
    · by_cases j1 : j = P
      · omega
      · rw [if_pos i1, if_neg j1] at e
        exact absurd e.symm (hq _ ((h2 _).mpr ⟨j, by omega, rfl⟩))
    · by_cases j1 : j = P
      · rw [if_neg i1, if_pos j1] at e
        exact absurd e (hq _ ((h2 _).mpr ⟨i, by omega, rfl⟩))
      · rw [if_neg i1, if_neg j1] at e
        exact h3 i j (by omega) (by omega) e
theorem Abs_addP {n : Nat} {lp : List PQ} {lk lm : List MKQ} {GP GM GP' : Nat} {q : PQ} (h : Abs n lp lk lm GP GM) (hG : GP ≤ GP') (hG2 : GP' ≤ 1000000000) (hq : FitP n q) (hq2 : NumLe GP' q.1) (hn : n ≤ 512) (hf : ∀ j, (pIv q).1 ≤ j → j < (pIv q).1 + (pIv q).2 → cov (ivs lp lk) j = 0) : Abs n (q :: lp) lk lm GP' GM := by
  obtain ⟨h1, h2, h3, h4, h5, h6, h7⟩ := h
  refine ⟨fun z hz => ?_, fun m hm => ?_, fun m hm => ?_, ?_, h5, hG2, h7⟩
  · rcases List.mem_cons.mp hz with e | hz
    · rw [e]; exact ⟨hq, hq2⟩
    · obtain ⟨k1, k2⟩ := h1 z hz
      exact ⟨k1, NumLe_mono hG k2⟩
  · obtain ⟨k1, k2, k3⟩ := h2 m hm
    exact ⟨k1, Ris_mono hG k2, k3⟩
  · obtain ⟨k1, k2, k3, k4⟩ := h3 m hm
    refine ⟨k1, Ris_mono hG k2, k3, fun v hv => ?_⟩
    obtain ⟨z, hz, e⟩ := k4 v hv
    exact ⟨z, List.mem_cons_of_mem _ hz, e⟩
  · show DJ n (pIv q :: ivs lp lk)
    obtain ⟨_, _, l, w, _, _, _, _, _, p6, p7, p8, p9, p10⟩ := hq
    have e : pIv q = (w, 1 + bod l) := by
      unfold pIv
      rw [p6, p8, nI_clamp (by omega), nI_clamp (by omega)]
    rw [e] at hf ⊢
    exact DJ_cons h4 ⟨p9, by show 1 ≤ 1 + bod l; omega, by show w + (1 + bod l) ≤ n; omega⟩ hf
theorem Abs_addK {n : Nat} {lp : List PQ} {lk : List MKQ} {GP GM GP' GM' : Nat} {m : MKQ} (h : Abs n lp lk [] GP GM) (hG : GP ≤ GP') (hG2 : GP' ≤ 1000000000) (hM : GM ≤ GM') (hM2 : GM' ≤ 1000000000) (hm : FitK n m) (hm2 : Ris GP' m) (hm3 : NumLe GM' m.1) (hu : ∀ z, z ∈ lk → z.1 ≠ m.1) (hn : n ≤ 512) (hf : ∀ j, (mIv m).1 ≤ j → j < (mIv m).1 + (mIv m).2 → cov (ivs lp lk) j = 0) : Abs n lp (m :: lk) [] GP' GM' := by
  obtain ⟨h1, h2, h3, h4, h5, h6, h7⟩ := h
  refine ⟨fun z hz => ?_, fun z hz => ?_, fun z hz => (by cases hz), ?_, ?_, hG2, hM2⟩
  · obtain ⟨k1, k2⟩ := h1 z hz
    exact ⟨k1, NumLe_mono hG k2⟩
  · rcases List.mem_cons.mp hz with e | hz
    · rw [e]; exact ⟨hm, hm2, hm3⟩
    · obtain ⟨k1, k2, k3⟩ := h2 z hz
      exact ⟨k1, Ris_mono hG k2, NumLe_mono hM k3⟩
  · obtain ⟨_, c, w, _, _, _, p4, p5, p6, p7, p8, p9⟩ := hm
    have e : mIv m = (w, 1 + ent c) := by
      unfold mIv
      rw [p4, p7, nI_clamp (by omega), nI_clamp (by omega)]
    have hj : DJ n (mIv m :: ivs lp lk) := by
      rw [e] at hf ⊢
      exact DJ_cons h4 ⟨p8, by show 1 ≤ 1 + ent c; omega, by show w + (1 + ent c) ≤ n; omega⟩ hf
    refine DJ_perm ?_ hj
    unfold ivs
    rw [List.map_cons]
    exact List.perm_middle.symm
  · rw [List.append_nil] at h5 ⊢
    exact List.pairwise_cons.mpr ⟨fun z hz e => hu z hz e.symm, h5⟩
/-- while it is opened: rows below w are read -/
def Sc (n w : Nat) (t : T3) (g : St_Log) (r : St_Ref) (lp : List PQ) (lk L : List MKQ) (GP GM : Nat) : Prop := CI n g ∧ RI n r ∧ g_medium g = mk3 n t ∧ rtri r = t ∧ TabC n g lp lk [] ∧ TabR r lp L ∧ L.Perm lk ∧ Abs n lp lk [] GP GM ∧ Nums g r GP GM ∧ ∀ i, i ∈ ivs lp lk → i.1 + i.2 ≤ w
/-- what opening leaves as it was -/
def ScF (g g' : St_Log) (r r' : St_Ref) : Prop := g_tape g' = g_tape g ∧ g_owners g' = g_owners g ∧ g_serial g' = g_serial g ∧ fTap r' = fTap r ∧ fHd r' = fHd r ∧ g_Ropen r' = g_Ropen r
theorem ScF.rf (g : St_Log) (r : St_Ref) : ScF g g r r := ⟨rfl, rfl, rfl, rfl, rfl, rfl⟩
theorem ScF.tr {g g' g'' : St_Log} {r r' r'' : St_Ref} (h : ScF g g' r r') (k : ScF g' g'' r' r'') : ScF g g'' r r'' := ⟨k.1.trans h.1, k.2.1.trans h.2.1, k.2.2.1.trans h.2.2.1, k.2.2.2.1.trans h.2.2.2.1, k.2.2.2.2.1.trans h.2.2.2.2.1, k.2.2.2.2.2.trans h.2.2.2.2.2⟩
theorem Sc_mono {n w w' : Nat} {t : T3} {g : St_Log} {r : St_Ref} {lp : List PQ} {lk L : List MKQ} {GP GM : Nat} (h : Sc n w t g r lp lk L GP GM) (hw : w ≤ w') : Sc n w' t g r lp lk L GP GM := by
  obtain ⟨a1, a2, a3, a4, a5, a6, a7, a8, a9, a10⟩ := h
  exact ⟨a1, a2, a3, a4, a5, a6, a7, a8, a9, fun i hi => Nat.le_trans (a10 i hi) hw⟩
theorem ln_part {n w l b : Nat} {t : T3} {g : St_Log} {r : St_Ref} {lp : List PQ} {lk L : List MKQ} {GP GM : Nat} (hn : 4 ≤ n ∧ n ≤ 512) (h : Sc n w t g r lp lk L GP GM) (hw : 2 ≤ w ∧ w < n) (hl : numF t.1 (32 * w + 2) 2 = lN l) (hb : t.1 (32 * w + 1) &&& 255 = nI b) (hp : pT t.1 n w l b) : ∃ g' r' lp' GP', m_Log_learnPart g (nI w) = some (nI (1 + bod l), g') ∧ m_RRef_learnPart r (nI w) = some r' ∧ Sc n (w + (1 + bod l)) t g' r' lp' lk L GP' GM ∧ ScF g g' r r' := by
  obtain ⟨hC, hR, hm, htr, hTC, hTR, hL, hA, hN, hiv⟩ := id h
  obtain ⟨hb8, hl5, hc4, hc5, hfit⟩ := hp
  obtain ⟨a, ha1, ha2, ha3, ha4⟩ := numOk hc4 hc5
  have hk := mk3_ok hn.1 hn.2 t
  have l1 : (g_Rmedium r).1 = 16384 := (ri_medium hR).1
  have hf : (g_Rmedium r).2 = t.1 := by rw [← htr]; rfl
  have hroom := Abs_room hA hn.2
  have a5 : m_Medium_number (mk3 n t) (nI w) 4 4 = some (lN a) := by rw [← ha3]; exact c_number hk hw.2 (i := 4) (K := 4) (by omega)
  have a2 : m_Medium_number (mk3 n t) (nI w) 2 2 = some (lN l) := by rw [← hl]; exact c_number hk hw.2 (i := 2) (K := 2) (by omega)
  have a1 : m_Medium_at (mk3 n t) (nI w) 1 = some (nI b) := by rw [← hb]; exact c_at hk (row := w) (i := 1) (by omega) (by omega)
  have a8 : m_Medium_number (mk3 n t) (nI w) 8 8 = some (numF t.1 (32 * w + 8) 8) := c_number hk hw.2 (i := 8) (K := 8) (by omega)
  have nb : ∀ x K : Nat, x + K ≤ 32 → m_RRef_number (g_Rmedium r) (32 * nI w + nI x) (nI K) = some (numF t.1 (32 * w + x) K) := by
    intro x K hx
    rw [n32, pk_mul, nI_add, ← hf]
    exact r_number (by rw [l1]; omega) (by rw [l1]; omega) (by omega)
  have b5 : m_RRef_number (g_Rmedium r) (32 * nI w + 4) 4 = some (lN a) := by rw [← ha3]; exact nb 4 4 (by omega)
  have b2 : m_RRef_number (g_Rmedium r) (32 * nI w + 2) 2 = some (lN l) := by rw [← hl]; exact nb 2 2 (by omega)
  have b8 : m_RRef_number (g_Rmedium r) (32 * nI w + 8) 8 = some (numF t.1 (32 * w + 8) 8) := nb 8 8 (by omega)
  have ea : (32 : Int32) * nI w + 1 = nI (32 * w + 1) := by rw [n32, pk_mul, nI_1]
  have ca : (nI (32 * w + 1)).toNatClampNeg = 32 * w + 1 := nI_clamp (by omega)
  have ia : ¬ (nI (32 * w + 1) < 0 ∨ 16384 ≤ 32 * w + 1) := by
    have := nI_in (c := 32 * w + 1) (N := 16384) (by omega) (by omega)
    rw [ca] at this
    exact this
  unfold m_Log_learnPart m_RRef_learnPart
  rw [hm, bs a5, bs a2, bs b5, lN_i, lN_i]
  rcases T_find (PC_tc hTC.1) hTR.1 (nI a) with ⟨z1, z2, z3⟩ | ⟨i, j, q, hi, hj, hq, e1, e2, e3, z1, z2⟩
  · rw [bs z1, if_pos rfl, bs z2, if_pos rfl, bs a1, bs a8, bs b8, bs b2, lN_i, ea, ca, l1, hf, hb]
    obtain ⟨q, hqd⟩ : ∃ q : PQ, q = (nI a, nI b, nI l, nI w, numF t.1 (32 * w + 8) 8) := ⟨_, rfl⟩
    have hqF : FitP n q := by rw [hqd]; exact ⟨a, b, l, w, rfl, ha1, ha2, rfl, hb8, rfl, hl5, rfl, hw.1, hfit⟩
    have hqI : pIv q = (w, 1 + bod l) := by
      rw [hqd]
      unfold pIv
      show ((nI w).toNatClampNeg, 1 + bod (nI l).toNatClampNeg) = _
      rw [nI_clamp (by omega), nI_clamp (by omega)]
    have hfree : ∀ j, w ≤ j → cov (ivs lp lk) j = 0 := fun j hj => cov_zero (fun i hi hc => by have := hiv i hi; omega)
    obtain ⟨x', lp', c1, c2, c3⟩ := PC_add hTC.1 (by omega) q (by rw [hqd]; exact z3)
    have c1' : m_Parts_add (g_parts g) (nI a) (nI b) (nI l) (nI w) (numF t.1 (32 * w + 8) 8) = some x' := by rw [hqd] at c1; exact c1
    have hT2 := C_take (x := g_room g) (n := n) (a := w) (c := 1 + bod l) hTC.2.2.2.1 hn.2 (by omega)
    have hGP := hA.2.2.2.2.2.1
    have hlen : lp'.length = lp.length + 1 := by rw [c3.length_eq]; rfl
    have hmx : max GP a ≤ 1000000000 := by omega
    have p1 : g_Rparts r = nI lp.length := hTR.1.1.2.1
    have i0 : ∀ M, M = 520 → ¬ (g_Rparts r < 0 ∨ M ≤ (g_Rparts r).toNatClampNeg) := fun M hM => by rw [hM, p1]; exact nI_in (by omega) (by omega)
    have cp : (g_Rparts r).toNatClampNeg = lp.length := by rw [p1]; exact nI_clamp (by omega)
    obtain ⟨r', hr'⟩ : ∃ r', r' = s_RlastPart (s_Rparts (s_RpRow (s_RpLength (s_RpPosition (s_RpGroup (s_RpNumber r ((g_RpNumber r).1, upd (g_RpNumber r).2 lp.length (nI a))) ((g_RpGroup r).1, upd (g_RpGroup r).2 lp.length (nI b))) ((g_RpPosition r).1, vp_updL (g_RpPosition r).2 lp.length (numF t.1 (32 * w + 8) 8))) ((g_RpLength r).1, upd (g_RpLength r).2 lp.length (nI l))) ((g_RpRow r).1, upd (g_RpRow r).2 lp.length (nI w))) (nI (lp.length + 1))) (nI (max GP a)) := ⟨_, rfl⟩
    have hRr : RI n r' := by
      rw [hr']
      refine rs_lastPart (rs_parts (rs_pRow (rs_pLength (rs_pPosition (rs_pGroup (rs_pNumber hR ?_) ?_) ?_) ?_) ?_) ?_)
      · exact ri_pNumber hR
      · exact ri_pGroup hR
      · exact ri_pPosition hR
      · exact ri_pLength hR
      · exact ri_pRow hR
      · exact ⟨lp.length + 1, by omega, rfl⟩
    have hrow : ∀ k, rrow r' k = if k = lp.length then q else rrow r k := by
      intro k
      rw [hr', hqd]
      unfold rrow
      simp only [qR_pNumber, qR_pGroup, qR_pLength, qR_pRow, qR_pPosition]
      unfold upd vp_updL
      by_cases hk : k = lp.length
      · simp only [if_pos hk]
      · simp only [if_neg hk]
    have hRP : RP r' (lp.length + 1) := ⟨⟨ri_pNumber hRr, ri_pGroup hRr, ri_pPosition hRr, ri_pLength hRr, ri_pRow hRr⟩, by rw [hr']; simp only [qR_parts], by omega⟩
    have hPR : PR r' lp' := by
      unfold PR
      rw [hlen]
      refine TR_congr (TR_psh hTR.1 hRP hrow (by rw [hqd]; exact z3)) (fun z => ?_)
      rw [c3.mem_iff, List.mem_cons]
      exact Or.comm
    refine ⟨s_greatestPart (s_room (s_parts g x') (n, setF (g_room g).2 w (1 + bod l) 1)) (nI (max GP a)), r', lp', max GP a, ?_, ?_, ⟨?_, hRr, ?_, ?_, ⟨?_, ?_, ?_, ?_⟩, ⟨hPR, ?_⟩, hL, ?_, ⟨?_, ?_, ?_, ?_⟩, ?_⟩, ⟨?_, ?_, ?_, ?_, ?_, ?_⟩⟩
    · rw [bs c1', bs (C_rowsOfPart (by omega)), bs hT2, bs (C_rowsOfPart (by omega)), hN.1, jmaxN (by omega) (by omega)]
    · have key : (if nI a ≤ g_RlastPart r then some (s_RlastPart (s_Rparts (s_RpRow (s_RpLength (s_RpPosition (s_RpGroup (s_RpNumber r ((g_RpNumber r).1, upd (g_RpNumber r).2 lp.length (nI a))) ((g_RpGroup r).1, upd (g_RpGroup r).2 lp.length (nI b))) ((g_RpPosition r).1, vp_updL (g_RpPosition r).2 lp.length (numF t.1 (32 * w + 8) 8))) ((g_RpLength r).1, upd (g_RpLength r).2 lp.length (nI l))) ((g_RpRow r).1, upd (g_RpRow r).2 lp.length (nI w))) (g_Rparts r + 1)) (g_RlastPart r)) else some (s_RlastPart (s_Rparts (s_RpRow (s_RpLength (s_RpPosition (s_RpGroup (s_RpNumber r ((g_RpNumber r).1, upd (g_RpNumber r).2 lp.length (nI a))) ((g_RpGroup r).1, upd (g_RpGroup r).2 lp.length (nI b))) ((g_RpPosition r).1, vp_updL (g_RpPosition r).2 lp.length (numF t.1 (32 * w + 8) 8))) ((g_RpLength r).1, upd (g_RpLength r).2 lp.length (nI l))) ((g_RpRow r).1, upd (g_RpRow r).2 lp.length (nI w))) (g_Rparts r + 1)) (nI a))) = some r' := by
        rw [p1, nI_1, hN.2.1, hr']
        by_cases hz : a ≤ GP
        · rw [if_pos (nI_le hz (by omega)), Nat.max_eq_left hz]
        · rw [if_neg (nI_ge (by omega) (by omega)), Nat.max_eq_right (by omega)]
      rw [← key, cp]
      rw [cp] at i0
      refine Eq.trans (if_neg (i0 _ (ri_pNumber hR))) ?_
      refine Eq.trans (if_neg ia) ?_
      refine Eq.trans (if_neg (i0 _ (ri_pGroup hR))) ?_
      refine Eq.trans (if_neg (i0 _ (ri_pPosition hR))) ?_
      refine Eq.trans (if_neg (i0 _ (ri_pLength hR))) ?_
      exact if_neg (i0 _ (ri_pRow hR))
    · exact cs_greatestPart (cs_room (v := (n, setF (g_room g).2 w (1 + bod l) 1)) (cs_parts hC ⟨_, c2.1.l⟩) (kRm_set (ci_room hC).2 (Or.inr rfl)))
    · simp only [q_medium]; exact hm
    · rw [hr']; simp only [rtri, qR_medium, qR_cutIn, qR_written]; exact htr
    · simp only [q_parts]; exact c2
    · simp only [q_kept]; exact hTC.2.1
    · simp only [q_made]; exact hTC.2.2.1
    · simp only [q_room]
      refine BT_perm (ivs_perm c3.symm (List.Perm.refl _)) ?_
      show BT n _ (pIv q :: ivs lp lk)
      rw [hqI]
      exact BT_take hTC.2.2.2 _ _
    · exact MR_fr (by rw [hr']; simp only [qf_Mrk]) hTR.2
    · refine Abs_perm c3.symm (List.Perm.refl _) (List.Perm.refl _) (Abs_addP hA (by omega) hmx hqF ⟨a, ha1, by omega, by rw [hqd]⟩ hn.2 (fun j j1 _ => hfree j (by rw [hqI] at j1; exact j1)))
    · simp only [q_greatestPart]
    · rw [hr']; simp only [qR_lastPart]
    · simp only [q_greatestMark]; exact hN.2.2.1
    · rw [hr']; simp only [qR_lastMark]; exact hN.2.2.2
    · intro i hi
      have hi2 := (ivs_perm c3 (List.Perm.refl lk)).mem_iff.mp hi
      rcases List.mem_cons.mp (show i ∈ pIv q :: ivs lp lk from hi2) with e | hi3
      · rw [e, hqI]; exact Nat.le_refl _
      · have := hiv i hi3
        omega
    · simp only [q_tape]
    · simp only [q_owners]
    · simp only [q_serial]
    · rw [hr']; simp only [qf_Tap]
    · rw [hr']; simp only [qf_Hd]
    · rw [hr']; simp only [qR_open]
  · have h512 := hTC.1.1.2.2
    have hlp := hTR.1.1.2.2
    refine ⟨g, r, lp, GP, ?_, ?_, Sc_mono h (by omega), ScF.rf g r⟩
    · rw [bs z1, if_neg (nI_m1 (by omega)), bs (C_rowsOfPart (by omega))]
    · rw [bs z2, if_neg (nI_m1 (by omega))]
