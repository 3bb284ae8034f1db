-- IN: the PARTS are written
theorem nI_m5 {w : Nat} (h : w < 2 ^ 31) : ¬ nI w = (-5) := by
  intro e
  have : ¬ nI w < 0 := nI_pos h
  rw [e] at this
  exact this (by decide)
theorem lst_snoc {α : Type} {f f' : Nat → α} {P : Nat} {q : α} (h : lst f' (P + 1) = lst f P ++ [q]) : (∀ j, j < P → f' j = f j) ∧ f' P = q := by
  rw [lst_succ] at h
  obtain ⟨h1, h2⟩ := List.append_inj' h rfl
  refine ⟨fun j hj => ?_, (List.cons.inj h2).1⟩
  have : (lst f' P).getD j (f j) = (lst f P).getD j (f j) := by rw [h1]
  rw [lst_getD f' hj, lst_getD f hj] at this
  exact this
theorem PC_pw {n : Nat} {x : St_Parts} {lp : List PQ} (h : PC n x lp) : lp.Pairwise (fun a b => a.1 < b.1) := by
  rw [← h.2]
  exact lst_pw lp.length (fun i j hi hj => h.1.2.2.2.2 i j hi hj)
theorem add_last {n : Nat} {x x' : St_Parts} {lp lp' : List PQ} {q : PQ} (h : PC n x lp) (h' : PC n x' lp') (hp : lp'.Perm (q :: lp)) (hlt : ∀ z, z ∈ lp → z.1 < q.1) : lp'.length = lp.length + 1 ∧ (∀ j, j < lp.length → crow x' j = crow x j) ∧ crow x' lp.length = q := by
  have pw := PC_pw h
  have pw' := PC_pw h'
  have pw2 : (lp ++ [q]).Pairwise (fun a b => a.1 < b.1) := by
    rw [List.pairwise_append]
    refine ⟨pw, List.pairwise_singleton _ _, fun a ha b hb => ?_⟩
    rw [List.mem_singleton] at hb
    rw [hb]
    exact hlt a ha
  have hp2 : lp'.Perm (lp ++ [q]) := hp.trans (List.perm_append_singleton q lp).symm
  have e : lp' = lp ++ [q] := List.Perm.eq_of_pairwise (le := fun (a b : PQ) => a.1 < b.1) (fun a b _ _ h1 h2 => absurd h1 (Int32.lt_asymm h2)) pw' pw2 hp2
  have hlen : lp'.length = lp.length + 1 := by rw [e, List.length_append]; rfl
  have e2 : lst (crow x') (lp.length + 1) = lst (crow x) lp.length ++ [q] := by
    rw [← hlen, h'.2, h.2, e]
  obtain ⟨k1, k2⟩ := lst_snoc e2
  exact ⟨hlen, k1, k2⟩
theorem MR_mp {n : Nat} {r : St_Ref} {L : List MKQ} (hM : MR r L) {F' : Nat → Int32} (f3 : ∀ j, j < 12 * L.length → F' j = (g_RmPart r).2 j) : MR (s_RmPart r (3240, F')) L := by
  have er : ∀ k, k < L.length → qrow (s_RmPart r (3240, F')) k = qrow r k := by
    intro k hk
    obtain ⟨ck, -, hck, ek⟩ := hM.2.2.2 _ (MR_mem hM hk)
    have ek' : (g_RmCount r).2 k = nI ck := ek
    unfold qrow
    simp only [qR_mNumber, qR_mCount, qR_mRow, qR_mDigest, qR_mPart]
    refine Prod.ext rfl (Prod.ext rfl (Prod.ext rfl (Prod.ext rfl ?_)))
    refine mls_congr (fun i hi => ?_)
    rw [ek', nI_clamp (by omega)] at hi
    exact f3 _ (by omega)
  refine ⟨by simp only [qR_marks]; exact hM.1, hM.2.1, ?_, hM.2.2.2⟩
  rw [lst_congr er]; exact hM.2.2.1
theorem in_W {n c ts GM : Nat} {f pf : Nat → Int32} {lk lm L : List MKQ} (hn : 4 ≤ n ∧ n ≤ 512) (hc : 1 ≤ c ∧ c ≤ 12) (hlm : lm.length < 6) (hG : GM < 1000000000) (hL : L.Perm (lk ++ lm)) : ∀ (d k p fuel fuel' : Nat) (b : Nat → Int32) (ws : Nat → Nat) (g : St_Log) (r : St_Ref) (lp : List PQ) (GP : Nat), k + d = c → d < fuel → d < fuel' → Cr0 n g r → g_isOpen g = 1 → TabC n g lp lk lm → TabR r lp L → Abs n lp lk lm GP GM → Nums g r GP GM → Hds g r → GP + d ≤ 1000000000 → BB 2000 (g_tape g) ts → (g_tape g).1.2 = f → (∀ j, j < ts → f j = (g_Rtape r).2 j) → g_Rplaces r = (12, pf) → SPk f ts d p → Pl n f d p b ws → (∀ j, 2 ≤ j → j < n → (b j = 0 ↔ (g_room g).2 j = 0)) → (∀ i, i < d → pf (k + i) = nI (ws i)) → k ≤ lp.length → (∀ i, i < k → (g_RmPart r).2 (12 * L.length + i) = (crow (g_parts g) (lp.length - k + i)).1) → ∃ a g' r', m_Log_writeSavepoint_L4 fuel g (nI c) (nI p) (nI k) = some (a, g') ∧ m_RRef_in__L181 fuel' r (nI c) (nI p) (nI k) = some (a, r') ∧ Cr0 n g' r' ∧ g_tape g' = g_tape g ∧ fTap r' = fTap r ∧ (g_isOpen g' = 1 → Tab n g' r') := by
  intro d
  induction d with
  | zero =>
    intro k p fuel fuel' b ws g r lp GP hk hf hf' h0 ho hTC hTR hA hN hH hGP hb hfd he hpl hS hPl hbb hpf hkl hmp
    obtain ⟨fu, rfl, -⟩ := fu1 hf
    obtain ⟨fv, rfl, -⟩ := fu1 hf'
    have hkc : k = c := by omega
    subst hkc
    obtain ⟨x', r', lm', L', w1, w2, w3, w4, w5, w6, w7, w8, w9, w10, w11, w12, w13⟩ := w_mark h0.2.1 h0.2.2.1 hn hTC hTR hL hA hN hG hc hkl hlm hmp
    refine ⟨nI (GM + 1), _, r', ?_, ?_, ⟨hn, w3, w4, ?_, ?_⟩, ?_, w6, fun _ => ⟨lp, lk, lm', L', GP, GM + 1, w9, w10, w11, w12, w13, ?_⟩⟩
    · rw [m_Log_writeSavepoint_L4, if_pos (nI_le (by omega) (by omega)), ho, if_neg e10, bs w1]
    · rw [m_RRef_in__L181, if_pos (nI_le (by omega) (by omega)), bs w2]
    · simp only [q_medium]
      rw [rtri_fr w5]
      exact h0.2.2.2.1
    · simp only [q_isOpen]
      rw [e_open w5]
      exact h0.2.2.2.2
    · simp only [q_tape]
    · exact Hds_fr (by simp only [q_owners]) (by simp only [q_serial]) w8 hH
  | succ d ih =>
    intro k p fuel fuel' b ws g r lp GP hk hf hf' h0 ho hTC hTR hA hN hH hGP hb hfd he hpl hS hPl hbb hpf hkl hmp
    obtain ⟨fu, rfl, hfu⟩ := fu1 hf
    obtain ⟨fv, rfl, hfv⟩ := fu1 hf'
    obtain ⟨S1, S2, ⟨bb, S3, S3'⟩, S4⟩ := hS
    obtain ⟨P1, P2⟩ := hPl
    have hts := hb.2.2.1
    have hR := h0.2.2.1
    have hl := C_len hb (p := p) (by omega)
    rw [hfd] at hl
    obtain ⟨l, hld⟩ : ∃ l, l = tl f p := ⟨_, rfl⟩
    obtain ⟨w, hwd⟩ : ∃ w, w = ws 0 := ⟨_, rfl⟩
    rw [← hld] at S1 S2 S4 hl P1 P2
    rw [← hwd] at P1 P2
    have hrc : 1 ≤ 1 + bod l ∧ 1 + bod l ≤ 1000 := by unfold bod; omega
    have hfr : runF (g_room g).2 (1 + bod l) (n - 2) 0 2 = some w := by
      rw [← runF_congr (b := b) (b' := (g_room g).2) (1 + bod l) (n - 2) 0 2 (fun j j1 j2 => hbb j j1 (by omega))]
      exact P1
    obtain ⟨s1, s2, s3⟩ := runF_spec (n - 2) 0 2 w (by omega) (fun j j1 j2 => absurd j2 (by omega)) hfr
    have k1 := C_firstRun (x := g_room g) hTC.2.2.2.1 hn hrc
    rw [hfr] at k1
    have k1' : m_Room_firstRun (g_room g) (nI (1 + bod l)) = some (nI w) := k1
    have a1 := B_at hb (by omega) (i := p) (by omega)
    rw [hfd, S3'] at a1
    have a2 := B_num hb (by omega) (i := p + 1) (K := 8) (by omega)
    rw [hfd] at a2
    have hrt : (g_Rtape r).1 = 2000 := (ri_tape hR).1
    obtain ⟨pos, hpos⟩ : ∃ pos, pos = numF f (p + 1) 8 := ⟨_, rfl⟩
    rw [← hpos] at a2
    have e1 : numF (g_Rtape r).2 (p + 9) 2 = numF f (p + 9) 2 := numF_congr (fun i _ h2 => (he i (by omega)).symm)
    have e2 : numF (g_Rtape r).2 (p + 1) 8 = pos := by rw [hpos]; exact numF_congr (fun i _ h2 => (he i (by omega)).symm)
    have b1 := r_number (x := g_Rtape r) (a := p + 9) (K := 2) (by rw [hrt]; omega) (by rw [hrt]; omega) (by omega)
    have b2 := r_number (x := g_Rtape r) (a := p + 1) (K := 8) (by rw [hrt]; omega) (by rw [hrt]; omega) (by omega)
    rw [e1] at b1
    rw [e2] at b2
    have el : (numF f (p + 9) 2).toInt32 = nI l := by rw [hld]; exact (tl_s _ p).1
    have c9 : nI p + 9 = nI (p + 9) := by rw [n9, nI_add]
    have c1 : nI p + 1 = nI (p + 1) := nI_1 p
    have c11 : nI p + 11 = nI (p + 11) := by rw [n11, nI_add]
    have cp : (nI p).toNatClampNeg = p := nI_clamp (by omega)
    have p0 : ¬ (nI p < 0 ∨ 2000 ≤ p) := by
      have := nI_in (c := p) (N := 2000) (by omega) (by omega)
      rw [cp] at this
      exact this
    have ck : (nI k).toNatClampNeg = k := nI_clamp (by omega)
    have k0 : ¬ (nI k < 0 ∨ 12 ≤ k) := by
      have := nI_in (c := k) (N := 12) (by omega) (by omega)
      rw [ck] at this
      exact this
    have ebr : (g_Rtape r).2 p &&& 255 = nI bb := by rw [← he p (by omega)]; exact S3'
    have epl : ((12, pf) : AI).2 k = nI w := by
      show pf k = nI w
      have := hpf 0 (by omega)
      rw [Nat.add_zero, ← hwd] at this
      exact this
    obtain ⟨g', r', c0, ct, ct2, -, hcase⟩ := w_part h0 ho hTC hTR hA hN (by omega) (fr := p + 11) (len := l) (row := w) (b := bb) pos S3 S2 (by omega) (fun i hi => by rw [hfd]; exact he _ (by omega)) (by omega) (by omega) (fun j j1 j2 => (hTC.2.2.2.2 j (by omega) (by omega)).mp (s3 j j1 j2))
    have hb' : BB 2000 (g_tape g') ts := by rw [ct]; exact hb
    have hbe := C_behind hb' (p := p) (by omega)
    rw [ct, hfd, ← hld] at hbe
    have runC : m_Log_writeSavepoint_L4 (fu + 1) g (nI c) (nI p) (nI k) = ((m_Log_writePart g (nI w) (nI bb) pos (nI (p + 11)) (nI l)).bind fun q12 => (m_Log_behindPart q12.2 (nI p)).bind fun q13 => m_Log_writeSavepoint_L4 fu q12.2 (nI c) q13 (nI (k + 1))) := by
      rw [m_Log_writeSavepoint_L4, if_neg (nI_ge (by omega) (by omega)), ho, if_neg e10, bs hl, bs (C_rowsOfPart (by omega)), bs k1', bs a1, c1, n8, bs a2, c11, nI_1]
    have runR : m_RRef_in__L181 (fv + 1) r (nI c) (nI p) (nI k) = ((m_RRef_writePart_tape r (nI bb) pos (nI (p + 11)) (nI l) (nI w)).bind fun q17 => if q17.1 = (-5) then (some ((-5), q17.2)) else (if ((12 * (g_Rmarks q17.2)) + nI k) < 0 ∨ (g_RmPart q17.2).1 ≤ (((12 * (g_Rmarks q17.2)) + nI k)).toNatClampNeg then none else m_RRef_in__L181 fv (s_RmPart q17.2 ((g_RmPart q17.2).1, upd (g_RmPart q17.2).2 (((12 * (g_Rmarks q17.2)) + nI k)).toNatClampNeg q17.1)) (nI c) (nI (p + 11 + l)) (nI (k + 1)))) := by
      rw [m_RRef_in__L181, if_neg (nI_ge (by omega) (by omega)), c9, n2, bs b1, hrt, cp, if_neg p0, c1, n8, bs b2, hpl, ck, if_neg k0, ebr, el, c11, epl, n11, nI_add, nI_add, ← Nat.add_assoc, nI_1]
    rw [runC, runR]
    rcases hcase with ⟨m1, m2, m3, m4, m5, m6, m7, m8, m9, m10, m11, lp', m12, m13, m14, m15⟩ | ⟨m1, m2, m3⟩
    · obtain ⟨z1, z2, z3⟩ := add_last hTC.1 m13.1 m12 (fun z hz => by
        obtain ⟨y, y1, y2, y3⟩ := (hA.1 z hz).2
        show z.1 < nI (GP + 1)
        rw [y3]
        exact nI_lt (by omega) (by omega))
      have hroom := Abs_room hA hn.2
      have hLl : L.length = lk.length + lm.length := by rw [hL.length_eq, List.length_append]
      have hmk : g_Rmarks r' = nI L.length := m14.2.1
      have h3240 : (g_RmPart r').1 = 3240 := ri_mPart c0.2.2.1
      have ex : (12 : Int32) * nI L.length + nI k = nI (12 * L.length + k) := by rw [n12, pk_mul, nI_add]
      have cx : (nI (12 * L.length + k)).toNatClampNeg = 12 * L.length + k := nI_clamp (by omega)
      have x0 : ¬ (nI (12 * L.length + k) < 0 ∨ 3240 ≤ 12 * L.length + k) := by
        have := nI_in (c := 12 * L.length + k) (N := 3240) (by omega) (by omega)
        rw [cx] at this
        exact this
      obtain ⟨F', hF'⟩ : ∃ F', F' = upd (g_RmPart r').2 (12 * L.length + k) (nI (GP + 1)) := ⟨_, rfl⟩
      have hm5 := nI_m5 (w := GP + 1) (by omega)
      have stepC : ((m_Log_writePart g (nI w) (nI bb) pos (nI (p + 11)) (nI l)).bind fun q12 => (m_Log_behindPart q12.2 (nI p)).bind fun q13 => m_Log_writeSavepoint_L4 fu q12.2 (nI c) q13 (nI (k + 1))) = m_Log_writeSavepoint_L4 fu g' (nI c) (nI (p + 11 + l)) (nI (k + 1)) := by
        refine Eq.trans (bs m1) ?_
        exact bs hbe
      have stepR : ((m_RRef_writePart_tape r (nI bb) pos (nI (p + 11)) (nI l) (nI w)).bind fun q17 => if q17.1 = (-5) then (some ((-5), q17.2)) else (if ((12 * (g_Rmarks q17.2)) + nI k) < 0 ∨ (g_RmPart q17.2).1 ≤ (((12 * (g_Rmarks q17.2)) + nI k)).toNatClampNeg then none else m_RRef_in__L181 fv (s_RmPart q17.2 ((g_RmPart q17.2).1, upd (g_RmPart q17.2).2 (((12 * (g_Rmarks q17.2)) + nI k)).toNatClampNeg q17.1)) (nI c) (nI (p + 11 + l)) (nI (k + 1)))) = m_RRef_in__L181 fv (s_RmPart r' (3240, F')) (nI c) (nI (p + 11 + l)) (nI (k + 1)) := by
        refine Eq.trans (bs m2) ?_
        refine Eq.trans (if_neg hm5) ?_
        simp only
        rw [hmk, ex, cx, h3240, if_neg x0, hF']
      rw [stepC, stepR]
      have hmpr : g_RmPart r' = g_RmPart r := e_mPart m4
      have hR2 : RI n (s_RmPart r' (3240, F')) := rs_mPart (v := (3240, F')) c0.2.2.1 rfl
      have c0' : Cr0 n g' (s_RmPart r' (3240, F')) := ⟨hn, c0.2.1, hR2, by simp only [rtri, qR_medium, qR_cutIn, qR_written]; exact c0.2.2.2.1, by simp only [qR_open]; exact c0.2.2.2.2⟩
      have hTR2 : TabR (s_RmPart r' (3240, F')) lp' L := ⟨PR_fr (by simp only [qf_Par]) m14.1, MR_mp (n := n) m14.2 (fun j hj => by rw [hF']; exact if_neg (by omega))⟩
      have hbits : ∀ j, 2 ≤ j → j < n → (setF b w (1 + bod l) 1 j = 0 ↔ (g_room g').2 j = 0) := by
        intro j j1 j2
        have hpI : pIv (nI (GP + 1), nI bb, nI l, nI w, pos) = (w, 1 + bod l) := by
          unfold pIv
          simp only
          rw [nI_clamp (by omega), nI_clamp (by omega)]
        have hcv : cov (ivs lp' lk) j = (if w ≤ j ∧ j < w + (1 + bod l) then 1 else 0) + cov (ivs lp lk) j := by
          rw [cov_perm (ivs_perm m12 (List.Perm.refl lk)) j]
          show cov (pIv (nI (GP + 1), nI bb, nI l, nI w, pos) :: ivs lp lk) j = _
          rw [hpI, cov_cons]
        rw [m13.2.2.2.2 j j1 j2, hcv]
        unfold setF
        by_cases hj : w ≤ j ∧ j < w + (1 + bod l)
        · rw [if_pos hj, if_pos hj]
          exact ⟨fun e => absurd e (by decide), fun e => absurd e (by omega)⟩
        · rw [if_neg hj, if_neg hj, Nat.zero_add, hbb j j1 j2]
          exact hTC.2.2.2.2 j j1 j2
      obtain ⟨a, g2, r2, y1, y2, y3, y4, y5, y6⟩ := ih (k + 1) (p + 11 + l) fu fv (setF b w (1 + bod l) 1) (fun i => ws (i + 1)) g' (s_RmPart r' (3240, F')) lp' (GP + 1) (by omega) (by omega) (by omega) c0' m3 m13 hTR2 m15 (Nums_fr rfl rfl (by simp only [qf_Ls]) m11) (Hds_fr m9 m10 (by simp only [qf_Hd]; exact m5) hH) (by omega) hb' (by rw [ct]; exact hfd) (fun j hj => by simp only [qR_tape]; rw [e_tape ct2]; exact he j hj) (by simp only [qR_places]; rw [m6]; exact hpl) (by rw [hld] at S4 ⊢; exact S4) (by rw [hld] at P2 ⊢; exact P2) hbits (fun i hi => by rw [show k + 1 + i = k + (i + 1) by omega]; exact hpf (i + 1) (by omega)) (by omega) (fun i hi => by
        simp only [qR_mPart]
        rw [hF', hmpr]
        unfold upd
        by_cases hik : i = k
        · rw [if_pos (by omega), hik, show lp'.length - (k + 1) + k = lp.length by omega, z3]
        · rw [if_neg (by omega), hmp i (by omega), show lp'.length - (k + 1) + i = lp.length - k + i by omega, z2 _ (by omega)])
      refine ⟨a, g2, r2, y1, y2, y3, y4.trans ct, ?_, y6⟩
      rw [y5]
      simp only [qf_Tap]
      exact ct2
    · obtain ⟨fw, rfl, -⟩ := fu1 (k := 0) (fuel := fu) (by omega)
      refine ⟨-5, g', r', ?_, ?_, c0, ct, ct2, fun e => ?_⟩
      · refine Eq.trans (bs m1) ?_
        refine Eq.trans (bs hbe) ?_
        show m_Log_writeSavepoint_L4 (fw + 1) g' (nI c) (nI (p + 11 + l)) (nI (k + 1)) = _
        rw [m_Log_writeSavepoint_L4, m3]
        by_cases hcc : nI c ≤ nI (k + 1)
        · rw [if_pos hcc, if_pos rfl]
        · rw [if_neg hcc, if_pos rfl, if_pos rfl]
      · refine Eq.trans (bs m2) ?_
        exact if_pos rfl
      · rw [m3] at e
        exact absurd e (by decide)
theorem st_in {n : Nat} {g : St_Log} {r : St_Ref} (h : Rel n g r) : ∃ a g' r', m_Log_in_ g = some (a, g') ∧ m_RRef_in_ r = some (a, r') ∧ Rel n g' r' := by
  obtain ⟨⟨hn, hC, hR, ht, ho, ts, hb, t1, t2⟩, hT⟩ := id h
  have hts := hb.2.2.1
  have hcl : ∀ G : St_Log, g_tape G = g_tape g → m_Bytes_clear (g_tape G) = some ((2000, fun _ => 0), 0) := fun G e => by rw [e]; exact B_clear hb (by omega)
  have hrt : (g_Rtape r).1 = 2000 := (ri_tape hR).1
  have hrt0 : (g_Rtape (s_Rtaped r 0)).1 = 2000 := by simp only [qR_tape]; exact hrt
  have t20 : ∀ j, j < ts → (g_tape g).1.2 j = (g_Rtape (s_Rtaped r 0)).2 j := fun j hj => by simp only [qR_tape]; exact t2 j hj
  obtain ⟨a, q, b0, b1, b2, b3⟩ := sp_both (r := s_Rtaped r 0) hb hrt0 (ci_tape hC).2 t20
  unfold m_Log_in_ m_RRef_in_
  rw [bs b0]
  by_cases hop : g_isOpen g = 0
  · have hop' : g_Ropen r = 0 := by rw [← ho]; exact hop
    refine ⟨-3, _, _, ?_, ?_, Rel_wipe h⟩
    · rw [if_pos hop, bs (hcl g rfl)]
    · rw [if_pos hop']
  · have ho1 := open_1 hC hop
    have hop' : ¬ g_Ropen r = 0 := by rw [← ho]; exact hop
    rw [if_neg hop, if_neg hop', bs b1, t1, bs b2]
    rcases b3 with ha | ⟨ha, c, hc1, hc2, hq, hrc, hS⟩
    · refine ⟨-2, _, _, ?_, ?_, Rel_wipe h⟩
      · rw [if_pos ha, bs (hcl g rfl)]
      · rw [if_pos ha]
    · have ha0 : ¬ a = 0 := by rw [ha]; decide
      have hrc' : (g_Rtape r).2 1 = nI c := by
        simp only [qR_tape] at hrc
        exact hrc
      have i1 : ¬ ((1 : Int32) < 0 ∨ 2000 ≤ 1) := by decide
      obtain ⟨lp, lk, lm, L, GP, GM, hTC, hTR, hL, hA, hN, hH⟩ := hT ho1
      have hR0 : RI n (s_Rtaped r 0) := rs_taped hR ⟨0, by omega, n0⟩
      have hTR0 : TabR (s_Rtaped r 0) lp L := TabR_fr (by simp only [qf_Par]) (by simp only [qf_Mrk]) hTR
      have cnt := (R_count hR0 hn.2 hTR0.2 hL hA).1
      have hsm : m_Marks_size (g_made g) = some (nI lm.length) := by unfold m_Marks_size; rw [hTC.2.2.1.1.1.2.1]
      have hlm : lm.length ≤ 6 := hTC.2.2.1.1.1.2.2.1
      have hGP := hA.2.2.2.2.2.1
      have hGM := hA.2.2.2.2.2.2
      rw [if_neg ha0, if_neg ha0, hrt, tn1, if_neg i1, bs cnt, hq, hrc', hN.2.1, hN.2.2.2]
      have full : ∀ (X : Option (Int32 × St_Log)), X = some (0, g) → (X.bind fun q5 => if q5.1 = 0 then ((m_Bytes_clear (g_tape q5.2)).bind fun q9 => some ((-4), (s_tape q5.2 q9))) else ((m_Log_writeSavepoint q5.2 (nI c)).bind fun q7 => (m_Bytes_clear (g_tape q7.2)).bind fun q8 => some (q7.1, (s_tape q7.2 q8)))) = some ((-4), s_tape g ((2000, fun _ => 0), 0)) := by
        intro X hX
        rw [bs hX]
        refine Eq.trans (if_pos rfl) ?_
        exact bs (hcl g rfl)
      unfold m_Log_isRoomForSavepoint
      rw [bs hsm, hN.1, hN.2.2.1, n6, nMO]
      by_cases h6 : lm.length = 6
      · refine ⟨-4, _, _, full _ ?_, ?_, Rel_wipe h⟩
        · rw [if_pos (nI_le (by omega) (by omega))]
        · rw [if_pos (by rw [h6])]
      · have h6' : ¬ nI lm.length = nI 6 := fun e => h6 ((nI_eq (by omega) (by omega)).mp e)
        rw [if_neg (nI_ge (by omega) (by omega)), if_neg h6']
        by_cases h7 : GM < 1000000000
        · have h7' : ¬ nI GM = nI 1000000000 := fun e => absurd ((nI_eq (by omega) (by omega)).mp e) (by omega)
          rw [if_pos (nI_lt h7 (by omega)), if_neg h7', pk_sub (by omega), nI_add]
          by_cases h8 : GP + c ≤ 1000000000
          · rw [if_pos (nI_le (by omega) (by omega)), if_pos (nI_le h8 (by omega))]
            obtain ⟨u, u1, u2⟩ := used_bits hR0 hn.2 hA hTC.2.2.2 hTR0.1 hTR0.2 hL
            obtain ⟨f', v1, v2⟩ := C_copy (x := g_trial g) (y := g_room g) (ci_trial hC) (ci_room hC).1 hn.2 (ci_room hC).2
            rw [bs v1, bs u1]
            have hr0 : s_Rused (s_Rtaped r 0) (512, u) = s_Rplaces (s_Rused (s_Rtaped r 0) (512, u)) (12, (g_Rplaces r).2) := by
              have q1 : (12, (g_Rplaces r).2) = g_Rplaces (s_Rused (s_Rtaped r 0) (512, u)) := by
                simp only [qR_places]
                exact Prod.ext (ri_places hR).symm rfl
              rw [q1]; rfl
            rw [hr0]
            have kRMS := rm_L (n := n) (c := c) (ts := ts) (g := g) (r0 := s_Rtaped r 0) hn hb hrt0 t20 (by simp only [qR_rows]; exact ri_rows hR) hc2 c 0 2 FU FU f' u (g_Rplaces r).2 (by omega) (FU_lt (by omega)) (FU_lt (by omega)) hS (fun j j1 j2 => by rw [u2 j j1 j2, v2 j j2])
            have c0 : ∀ (x : St_Room) (u' pf' : Nat → Int32), x.1 = n → Cr0 n (s_trial g x) (s_Rplaces (s_Rused (s_Rtaped r 0) (512, u')) (12, pf')) := fun x u' pf' hx => by
              refine ⟨hn, cs_trial (v := x) hC hx, rs_places (v := (12, pf')) (rs_used (v := (512, u')) hR0 rfl) rfl, ?_, ?_⟩
              · simp only [q_medium, rtri, qR_medium, qR_cutIn, qR_written]; exact ht
              · simp only [q_isOpen, qR_open]; exact ho
            rcases kRMS with ⟨b', u', pf', y1, y2⟩ | ⟨b', u', pf', ws, y1, y2, y3, y4, -⟩
            · refine ⟨-4, s_tape (s_trial g (n, b')) ((2000, fun _ => 0), 0), _, ?_, y2, ?_⟩
              · refine Eq.trans (bs (show m_Log_isRoomForSavepoint_L51 FU (s_trial g (n, f')) (nI c) 2 0 = _ from y1)) ?_
                refine Eq.trans (if_pos rfl) ?_
                exact bs (hcl (s_trial g (n, b')) (by simp only [q_tape]))
              · refine Rel_fr (Rel_wipe h) (Cor_fin (c0 (n, b') u' pf' rfl) (by simp only [qR_taped])) (fun e => e) rfl rfl rfl rfl rfl rfl rfl rfl (by simp only [qf_Par]) (by simp only [qf_Mrk]) (by simp only [qf_Ls]) (by simp only [qf_Hd])
            · have hTC1 : TabC n (s_trial g (n, b')) lp lk lm := TabC_fr (by simp only [q_parts]) (by simp only [q_kept]) (by simp only [q_made]) (by simp only [q_room]) hTC
              have hTR1 : TabR (s_Rplaces (s_Rused (s_Rtaped r 0) (512, u')) (12, pf')) lp L := TabR_fr (by simp only [qf_Par]) (by simp only [qf_Mrk]) hTR
              have hN1 : Nums (s_trial g (n, b')) (s_Rplaces (s_Rused (s_Rtaped r 0) (512, u')) (12, pf')) GP GM := Nums_fr (by simp only [q_greatestPart]) (by simp only [q_greatestMark]) (by simp only [qf_Ls]) hN
              have hH1 : Hds (s_trial g (n, b')) (s_Rplaces (s_Rused (s_Rtaped r 0) (512, u')) (12, pf')) := Hds_fr (by simp only [q_owners]) (by simp only [q_serial]) (by simp only [qf_Hd]) hH
              obtain ⟨a', g', r', z1, z2, z3, z4, z5, z6⟩ := in_W (n := n) (c := c) (ts := ts) (GM := GM) (f := (g_tape g).1.2) (pf := pf') hn ⟨hc1, hc2⟩ (by omega) h7 hL c 0 2 FU FU f' ws (s_trial g (n, b')) (s_Rplaces (s_Rused (s_Rtaped r 0) (512, u')) (12, pf')) lp GP (by omega) (FU_lt (by omega)) (FU_lt (by omega)) (c0 (n, b') u' pf' rfl) (by simp only [q_isOpen]; exact ho1) hTC1 hTR1 hA hN1 hH1 (by omega) (by simp only [q_tape]; exact hb) (by simp only [q_tape]) (fun j hj => by simp only [qR_tape]; exact t2 j hj) (by simp only [qR_places]) hS y3 (fun j j1 j2 => by simp only [q_room]; rw [v2 j j2]) (fun i hi => y4 i hi) (by omega) (fun i hi => absurd hi (by omega))
              have z4' : g_tape g' = g_tape g := by rw [z4]; simp only [q_tape]
              refine ⟨a', s_tape g' ((2000, fun _ => 0), 0), r', ?_, ?_, Cor_fin z3 ?_, fun e => ?_⟩
              · refine Eq.trans (bs (show m_Log_isRoomForSavepoint_L51 FU (s_trial g (n, f')) (nI c) 2 0 = _ from y1)) ?_
                refine Eq.trans (if_neg e10) ?_
                refine Eq.trans (bs (show m_Log_writeSavepoint (s_trial g (n, b')) (nI c) = _ from z1)) ?_
                exact bs (hcl g' z4')
              · refine Eq.trans (show m_RRef_in__L80 FU _ (nI c) 2 0 = _ from y2) ?_
                exact z2
              · rw [e_taped z5]; simp only [qR_taped]
              · simp only [q_isOpen] at e
                exact Tab_fr (by simp only [q_parts]) (by simp only [q_kept]) (by simp only [q_made]) (by simp only [q_room]) (by simp only [q_greatestPart]) (by simp only [q_greatestMark]) (by simp only [q_owners]) (by simp only [q_serial]) rfl rfl rfl rfl (z6 e)
          · refine ⟨-4, _, _, full _ ?_, ?_, Rel_wipe h⟩
            · rw [if_neg (nI_ge (by omega) (by omega))]
            · rw [if_neg (nI_ge (by omega) (by omega))]
        · have hGe : GM = 1000000000 := by omega
          refine ⟨-4, _, _, full _ ?_, ?_, Rel_wipe h⟩
          · rw [if_neg (nI_nlt (by omega) (by omega))]
          · rw [if_pos (by rw [hGe])]
