-- A PART MORE
theorem PC_add {n : Nat} {x : St_Parts} {lp : List PQ} (h : PC n x lp) (hP : lp.length < n) (q : PQ) (hq : ∀ p, p ∈ lp → p.1 ≠ q.1) : ∃ x' lp', m_Parts_add x q.1 q.2.1 q.2.2.1 q.2.2.2.1 q.2.2.2.2 = some x' ∧ PC n x' lp' ∧ lp'.Perm (q :: lp) := by
  obtain ⟨x', p, a1, a2, a3, a4⟩ := P_add h.1 hP q (fun k hk => hq (crow x k) (PC_mem h hk))
  have hp := lst_ins (f := crow x) (f' := crow x') a3 a4
  rw [h.2] at hp
  refine ⟨x', lst (crow x') (lp.length + 1), a1, ⟨by rw [lst_len]; exact a2, by rw [lst_len]⟩, hp⟩
theorem PR_push {r : St_Ref} {lp lp' : List PQ} (h : PR r lp) (hP : lp.length < 520) (grp : Int32) (pos : Int64) (len row : Int32) (hq : ∀ p, p ∈ lp → p.1 ≠ g_RlastPart r + 1) (hp : lp'.Perm ((g_RlastPart r + 1, grp, len, row, pos) :: lp)) : PR (rpush r grp pos len row) lp' := by
  have h1 := TR_push h hP grp pos len row hq
  have e : lp'.length = lp.length + 1 := by rw [hp.length_eq]; rfl
  unfold PR
  rw [e]
  refine TR_congr h1 (fun q => ?_)
  rw [hp.mem_iff, List.mem_cons]
  exact Or.comm
theorem Ris_mono {G G' : Nat} (h : G ≤ G') {m : MKQ} (hm : Ris G m) : Ris G' m := by
  obtain ⟨ns, a1, a2, a3, a4, a5, a6⟩ := hm
  exact ⟨ns, a1, a2, a3, a4, a5, fun a ha => ⟨(a6 a ha).1, Nat.le_trans (a6 a ha).2 h⟩⟩
theorem NumLe_mono {G G' : Nat} (h : G ≤ G') {v : Int32} (hm : NumLe G v) : NumLe G' v := by
  obtain ⟨a, a1, a2, a3⟩ := hm
  exact ⟨a, a1, Nat.le_trans a2 h, a3⟩
theorem Abs_part {n : Nat} {lp : List PQ} {lk lm : List MKQ} {GP GM : Nat} (h : Abs n lp lk lm GP GM) (hG : GP < 1000000000) {b l w : Nat} (pos : Int64) (hb : b < 8) (hl : l ≤ 155) (hw : 2 ≤ w) (hw2 : w + (1 + bod l) ≤ n) (hn : n ≤ 512) (hf : ∀ j, w ≤ j → j < w + (1 + bod l) → cov (ivs lp lk) j = 0) : Abs n ((nI (GP + 1), nI b, nI l, nI w, pos) :: lp) lk lm (GP + 1) GM := by
  obtain ⟨h1, h2, h3, h4, h5, h6, h7⟩ := h
  refine ⟨fun q hq => ?_, fun m hm => ?_, fun m hm => ?_, ?_, h5, by omega, h7⟩
  · rcases List.mem_cons.mp hq with rfl | hq
    · exact ⟨⟨GP + 1, b, l, w, rfl, by omega, by omega, rfl, hb, rfl, hl, rfl, hw, by omega⟩, GP + 1, by omega, by omega, rfl⟩
    · obtain ⟨k1, k2⟩ := h1 q hq
      exact ⟨k1, NumLe_mono (by omega) k2⟩
  · obtain ⟨k1, k2, k3⟩ := h2 m hm
    exact ⟨k1, Ris_mono (by omega) k2, k3⟩
  · obtain ⟨k1, k2, k3, k4⟩ := h3 m hm
    refine ⟨k1, Ris_mono (by omega) k2, k3, fun v hv => ?_⟩
    obtain ⟨q, hq, e⟩ := k4 v hv
    exact ⟨q, List.mem_cons_of_mem _ hq, e⟩
  · have e : pIv (nI (GP + 1), nI b, nI l, nI w, pos) = (w, 1 + bod l) := by
      unfold pIv
      rw [nI_clamp (show l < 2 ^ 31 by omega)]
      show ((nI w).toNatClampNeg, 1 + bod l) = _
      rw [nI_clamp (by omega)]
    show DJ n (pIv (nI (GP + 1), nI b, nI l, nI w, pos) :: ivs lp lk)
    rw [e]
    exact DJ_cons h4 ⟨hw, by show 1 ≤ 1 + bod l; omega, hw2⟩ hf
theorem BT_take {n : Nat} {x : St_Room} {l : List (Nat × Nat)} (h : BT n x l) (a c : Nat) : BT n (n, setF x.2 a c 1) ((a, c) :: l) := by
  refine ⟨rfl, fun r h1 h2 => ?_⟩
  rw [cov_cons]
  show (if a ≤ r ∧ r < a + c then 1 else x.2 r) = 0 ↔ _
  by_cases hr : a ≤ r ∧ r < a + c
  · rw [if_pos hr, if_pos (show (a, c).1 ≤ r ∧ r < (a, c).1 + (a, c).2 from hr)]
    exact ⟨fun e => absurd e (by decide), fun e => absurd e (by omega)⟩
  · rw [if_neg hr, if_neg (show ¬ ((a, c).1 ≤ r ∧ r < (a, c).1 + (a, c).2) from hr), Nat.zero_add]
    exact h.2 r h1 h2
theorem bodyF_congr {tp tp' : Nat → Int32} {fr len : Nat} (h : ∀ i, i < len → tp (fr + i) = tp' (fr + i)) (b : Nat) : bodyF tp fr len b = bodyF tp' fr len b := by
  funext j
  unfold bodyF
  split
  · rfl
  · split
    · rename_i hj
      exact h _ hj.2
    · rfl
/-- Cor without the TAPE -/
def Cr0 (n : Nat) (g : St_Log) (r : St_Ref) : Prop := (4 ≤ n ∧ n ≤ 512) ∧ CI n g ∧ RI n r ∧ tri (g_medium g) = rtri r ∧ g_isOpen g = g_Ropen r
theorem Cor_0 {n : Nat} {g : St_Log} {r : St_Ref} (h : Cor n g r) : Cr0 n g r := ⟨h.1, h.2.1, h.2.2.1, h.2.2.2.1, h.2.2.2.2.1⟩
theorem RI_rmk {n : Nat} {r : St_Ref} (h : RI n r) {t : T3} (hp : Pw t.2.1) (hb : ∀ j, By (t.1 j)) : RI n (rmk r t) := by
  unfold rmk
  refine rs_written (rs_medium (rs_cutIn h ?_) ?_)
  · exact hp
  · exact ⟨rfl, hb⟩
theorem RI_rout {n : Nat} {r : St_Ref} (h : RI n r) {q : Int32 × T3} (hp : Pw q.2.2.1) (hb : ∀ j, By (q.2.1 j)) : RI n (rout r q) := by
  unfold rout
  split
  · exact rs_open (RI_rmk h hp hb) (Or.inl rfl)
  · exact RI_rmk h hp hb
theorem fr_rout (r : St_Ref) (q : Int32 × T3) : fTap (rout r q) = fTap r ∧ fPar (rout r q) = fPar r ∧ fMrk (rout r q) = fMrk r ∧ fHd (rout r q) = fHd r ∧ fLs (rout r q) = fLs r ∧ fMx (rout r q) = fMx r ∧ g_Rplaces (rout r q) = g_Rplaces r ∧ g_Rused (rout r q) = g_Rused r := by
  unfold rout
  split
  · simp only [rmk, qf_Tap, qf_Par, qf_Mrk, qf_Hd, qf_Ls, qf_Mx, qR_places, qR_used, and_self]
  · simp only [rmk, qf_Tap, qf_Par, qf_Mrk, qf_Hd, qf_Ls, qf_Mx, qR_places, qR_used, and_self]
theorem rout_open1 {r : St_Ref} {q : Int32 × T3} (h : q.1 = 1) : g_Ropen (rout r q) = g_Ropen r := by
  rw [rout1 h]
  simp only [rmk, qR_open]
theorem rout_open0 {r : St_Ref} {q : Int32 × T3} (h : q.1 = 0) : g_Ropen (rout r q) = 0 := by
  unfold rout
  rw [if_pos h]
  simp only [qR_open]
theorem CI_wi {n : Nat} {g : St_Log} (h : CI n g) (hn : 4 ≤ n ∧ n ≤ 512) {q : Int32 × T3} (h1 : q.1 = 0 ∨ q.1 = 1) (hp : Pw q.2.2.1) (hb : ∀ j, By (q.2.1 j)) : CI n (wi n g q) := cs_isOpen (cs_medium h ⟨mk3_ok hn.1 hn.2 _, hp, hb⟩) h1
theorem tri_mk3 (n : Nat) (t : T3) : tri (mk3 n t) = t := rfl
theorem g_mk3 {n : Nat} {g : St_Log} (h : CI n g) : g_medium g = mk3 n (tri (g_medium g)) := mk3_of (ci_medium h).1
theorem w_part {n : Nat} {g : St_Log} {r : St_Ref} {lp : List PQ} {lk lm L : List MKQ} {GP GM : Nat} (h0 : Cr0 n g r) (ho : g_isOpen g = 1) (hTC : TabC n g lp lk lm) (hTR : TabR r lp L) (hA : Abs n lp lk lm GP GM) (hN : Nums g r GP GM) (hG : GP < 1000000000) {fr len row b : Nat} (pos : Int64) (hb : b < 8) (hl : len ≤ 155) (hfr : fr + len ≤ 2000) (htp : ∀ i, i < len → (g_tape g).1.2 (fr + i) = (g_Rtape r).2 (fr + i)) (hw : 2 ≤ row) (hw2 : row + (1 + bod len) ≤ n) (hf : ∀ j, row ≤ j → j < row + (1 + bod len) → cov (ivs lp lk) j = 0) : ∃ g' r', Cr0 n g' r' ∧ g_tape g' = g_tape g ∧ fTap r' = fTap r ∧ g_trial g' = g_trial g ∧ ((m_Log_writePart g (nI row) (nI b) pos (nI fr) (nI len) = some (1, g') ∧ m_RRef_writePart_tape r (nI b) pos (nI fr) (nI len) (nI row) = some (nI (GP + 1), r') ∧ g_isOpen g' = 1 ∧ fMrk r' = fMrk r ∧ fHd r' = fHd r ∧ g_Rplaces r' = g_Rplaces r ∧ g_kept g' = g_kept g ∧ g_made g' = g_made g ∧ g_owners g' = g_owners g ∧ g_serial g' = g_serial g ∧ Nums g' r' (GP + 1) GM ∧ ∃ lp', lp'.Perm ((nI (GP + 1), nI b, nI len, nI row, pos) :: lp) ∧ TabC n g' lp' lk lm ∧ TabR r' lp' L ∧ Abs n lp' lk lm (GP + 1) GM) ∨ (m_Log_writePart g (nI row) (nI b) pos (nI fr) (nI len) = some (0, g') ∧ m_RRef_writePart_tape r (nI b) pos (nI fr) (nI len) (nI row) = some ((-5), r') ∧ g_isOpen g' = 0)) := by
  obtain ⟨hn, hC, hR, ht, hoo⟩ := id h0
  obtain ⟨hPC, hMK, hMM, hBT⟩ := id hTC
  obtain ⟨hPR, hMR⟩ := id hTR
  obtain ⟨N1, N2, N3, N4⟩ := id hN
  have hroom := Abs_room hA hn.2
  have hfresh : ∀ p, p ∈ lp → p.1 ≠ nI (GP + 1) := by
    intro p hp e
    obtain ⟨a, a1, a2, a3⟩ := (hA.1 p hp).2
    rw [a3] at e
    have := (nI_eq (by omega) (by omega)).mp e
    omega
  have eGP : g_greatestPart g + 1 = nI (GP + 1) := by rw [N1, nI_1]
  have eLP : g_RlastPart r + 1 = nI (GP + 1) := by rw [N2, nI_1]
  obtain ⟨x', lp', a1, a2, a3⟩ := PC_add hPC (by omega) (nI (GP + 1), nI b, nI len, nI row, pos) hfresh
  have a1' : m_Parts_add (g_parts g) (g_greatestPart g + 1) (nI b) (nI len) (nI row) pos = some x' := by rw [eGP]; exact a1
  have hT2 := C_take (x := g_room g) (n := n) (a := row) (c := 1 + bod len) hBT.1 hn.2 hw2
  have hm := ci_medium hC
  have hp : Pw (tri (g_medium g)).2.1 := hm.2.1
  obtain ⟨im, w1, w2⟩ := C_writePart (n := n) (g := g) (t := tri (g_medium g)) (tape := g_tape g) (g_mk3 hC) ho hn.1 hn.2 hp rfl (ci_tape hC).1 (ci_tape hC).2 (ci_image hC) (fr := fr) (len := len) (row := row) hl hfr (by omega) (nI b) pos hT2 a1'
  have htr : g_Rtape r = (2000, (g_Rtape r).2) := Prod.ext (ri_tape hR).1 rfl
  have hrr : rroom r := ⟨lp.length, hPR.1.2.1, by omega, ri_pNumber hR, ri_pGroup hR, ri_pPosition hR, ri_pLength hR, ri_pRow hR⟩
  have v2 := R_writePart (g := r) (ri_draft hR) hrr (ri_medium hR).1 (ri_cutIn hR) htr (ri_tape hR).2 (fr := fr) (len := len) (row := row) hl hfr (by omega) (nI b) pos
  rw [← bodyF_congr htp, eLP, ← ht] at v2
  rw [eGP] at w2
  have hby : ∀ j, By (partImg (bodyF (g_tape g).1.2 fr len (bod len + 1)) len (nI (GP + 1)) (nI b) pos j) := By_part (By_body (ci_tape hC).2 _ _ _) _ _ _ _
  have hdr : kDr (256, partImg (bodyF (g_tape g).1.2 fr len (bod len + 1)) len (nI (GP + 1)) (nI b) pos) := ⟨rfl, fun j hj => part_hi _ _ hl _ _ _ (by omega)⟩
  obtain ⟨I, hI⟩ : ∃ I, I = partImg (bodyF (g_tape g).1.2 fr len (bod len + 1)) len (nI (GP + 1)) (nI b) pos := ⟨_, rfl⟩
  rw [← hI] at v2 w2 hby hdr
  have q1 := wrM_ok I row (bod len) 1 (tri (g_medium g))
  have q2 := wrM_pw I row (bod len) 1 (tri (g_medium g)) hp
  have q3 := wrM_by I hby row (bod len) 1 (tri (g_medium g)) hm.2.2
  obtain ⟨q, hq⟩ : ∃ q, q = wrM I row (bod len) 1 (tri (g_medium g)) := ⟨_, rfl⟩
  rw [← hq] at v2 w2 q1 q2 q3
  have hRo : RI n (rout (s_Rdraft r (256, I)) q) := RI_rout (rs_draft hR hdr) q2 q3
  have hCw : CI n (s_room (wi n (s_image g im) q) (n, setF (g_room g).2 row (1 + bod len) 1)) := cs_room (CI_wi (cs_image hC w1) hn q1 q2 q3) (kRm_set (ci_room hC).2 (Or.inr rfl))
  obtain ⟨G1, hG1⟩ : ∃ G1, G1 = s_room (wi n (s_image g im) q) (n, setF (g_room g).2 row (1 + bod len) 1) := ⟨_, rfl⟩
  obtain ⟨R1, hR1⟩ : ∃ R1, R1 = rout (s_Rdraft r (256, I)) q := ⟨_, rfl⟩
  have gt : g_tape G1 = g_tape g := by rw [hG1]; simp only [wi, q_tape]
  have gm : g_medium G1 = mk3 n q.2 := by rw [hG1]; simp only [wi, q_medium]
  have go : g_isOpen G1 = q.1 := by rw [hG1]; simp only [wi, q_isOpen]
  have gtr : g_trial G1 = g_trial g := by rw [hG1]; simp only [wi, q_trial]
  have gk : g_kept G1 = g_kept g := by rw [hG1]; simp only [wi, q_kept]
  have gd : g_made G1 = g_made g := by rw [hG1]; simp only [wi, q_made]
  have gow : g_owners G1 = g_owners g := by rw [hG1]; simp only [wi, q_owners]
  have gse : g_serial G1 = g_serial g := by rw [hG1]; simp only [wi, q_serial]
  have ggm : g_greatestMark G1 = g_greatestMark g := by rw [hG1]; simp only [wi, q_greatestMark]
  have gro : g_room G1 = (n, setF (g_room g).2 row (1 + bod len) 1) := by rw [hG1]; simp only [q_room]
  obtain ⟨f1, f2, f3, f4, f5, -, f7, -⟩ := fr_rout (s_Rdraft r (256, I)) q
  rw [← hR1] at f1 f2 f3 f4 f5 f7
  simp only [qf_Tap, qf_Par, qf_Mrk, qf_Hd, qf_Ls, qR_places] at f1 f2 f3 f4 f5 f7
  have ftri : rtri R1 = q.2 := by rw [hR1]; exact rout_tri _ _
  rw [← hG1] at hCw w2
  rw [← hR1] at hRo v2
  by_cases hz : q.1 = 0
  · rw [if_pos hz] at v2 w2
    refine ⟨G1, R1, ⟨hn, hCw, hRo, ?_, ?_⟩, gt, f1, gtr, Or.inr ⟨w2, v2, by rw [go]; exact hz⟩⟩
    · rw [gm, ftri]; rfl
    · rw [go, hz, hR1, rout_open0 hz]
  · have h1 : q.1 = 1 := q1.resolve_left hz
    rw [if_neg hz] at v2 w2
    have fl : g_RlastPart R1 = nI GP := (e_lastPart f5).trans N2
    have hPR1 : PR R1 lp := PR_fr f2 hPR
    have hrP : PR (rpush R1 (nI b) pos (nI len) (nI row)) lp' := by
      refine PR_push hPR1 (by omega) (nI b) pos (nI len) (nI row) (fun p hp => ?_) ?_
      · rw [fl, nI_1]; exact hfresh p hp
      · rw [fl, nI_1]; exact a3
    obtain ⟨P1, P2, -⟩ := hPR1.1
    have hc0 : (g_Rparts R1).toNatClampNeg = lp.length := by rw [P2]; exact nI_clamp (by omega)
    have hlen' : lp'.length = lp.length + 1 := by rw [a3.length_eq]; rfl
    have hRp : RI n (rpush R1 (nI b) pos (nI len) (nI row)) := by
      unfold rpush
      refine rs_parts (rs_pRow (rs_pLength (rs_pPosition (rs_pGroup (rs_pNumber (rs_lastPart hRo) ?_) ?_) ?_) ?_) ?_) ?_
      · exact ri_pNumber hRo
      · exact ri_pGroup hRo
      · exact ri_pPosition hRo
      · exact ri_pLength hRo
      · exact ri_pRow hRo
      · exact ⟨lp.length + 1, by omega, by rw [P2, nI_1]⟩
    refine ⟨s_greatestPart (s_parts G1 x') (nI (GP + 1)), rpush R1 (nI b) pos (nI len) (nI row), ⟨hn, ?_, hRp, ?_, ?_⟩, ?_, ?_, ?_, Or.inl ⟨w2, v2, ?_, ?_, ?_, ?_, ?_, ?_, ?_, ?_, ⟨?_, ?_, ?_, ?_⟩, lp', a3, ⟨?_, ?_, ?_, ?_⟩, ⟨hrP, ?_⟩, ?_⟩⟩
    · exact cs_greatestPart (cs_parts hCw ⟨lp'.length, a2.1.l⟩)
    · simp only [q_medium, rtri, rpush, qR_medium, qR_cutIn, qR_written]
      rw [gm]
      show q.2 = rtri R1
      exact ftri.symm
    · simp only [q_isOpen, rpush, qR_open]
      rw [go, h1, hR1, rout_open1 h1]
      simp only [qR_open]
      rw [← hoo, ho]
    · simp only [q_tape]; exact gt
    · simp only [rpush, qf_Tap]; exact f1
    · simp only [q_trial]; exact gtr
    · simp only [q_isOpen]; rw [go]; exact h1
    · simp only [rpush, qf_Mrk]; exact f3
    · simp only [rpush, qf_Hd]; exact f4
    · simp only [rpush, qR_places]; exact f7
    · simp only [q_kept]; exact gk
    · simp only [q_made]; exact gd
    · simp only [q_owners]; exact gow
    · simp only [q_serial]; exact gse
    · simp only [q_greatestPart]
    · simp only [rpush, qR_lastPart]; rw [fl, nI_1]
    · simp only [q_greatestMark]; rw [ggm]; exact N3
    · simp only [rpush, qR_lastMark]; exact (e_lastMark f5).trans N4
    · simp only [q_parts]; exact a2
    · simp only [q_kept]; rw [gk]; exact hMK
    · simp only [q_made]; rw [gd]; exact hMM
    · simp only [q_room]
      rw [gro]
      refine BT_perm (ivs_perm a3.symm (List.Perm.refl _)) ?_
      have e : pIv (nI (GP + 1), nI b, nI len, nI row, pos) = (row, 1 + bod len) := by
        unfold pIv
        rw [nI_clamp (show len < 2 ^ 31 by omega)]
        show ((nI row).toNatClampNeg, 1 + bod len) = _
        rw [nI_clamp (by omega)]
      show BT n (n, setF (g_room g).2 row (1 + bod len) 1) (pIv (nI (GP + 1), nI b, nI len, nI row, pos) :: ivs lp lk)
      rw [e]
      exact BT_take hBT _ _
    · exact MR_fr (by simp only [rpush, qf_Mrk]; exact f3) hMR
    · exact Abs_perm a3.symm (List.Perm.refl _) (List.Perm.refl _) (Abs_part hA hG pos hb hl hw hw2 hn.2 hf)
