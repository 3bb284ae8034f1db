-- owner
theorem st_owner {n : Nat} {g : St_Log} {r : St_Ref} (h : Rel n g r) (p : Int32) : ∃ a g' r', m_Log_owner g p = some (a, g') ∧ m_RRef_owner r p = some (a, r') ∧ Rel n g' r' := by
  obtain ⟨⟨hn, hC, hR, ht, ho, hts⟩, hT⟩ := id h
  unfold m_Log_owner m_RRef_owner
  by_cases hop : g_isOpen g = 0
  · exact ⟨-3, g, r, by rw [if_pos hop], by rw [if_pos (by rw [← ho]; exact hop)], h⟩
  · have ho1 := open_1 hC hop
    have hop' : ¬ g_Ropen r = 0 := by rw [← ho]; exact hop
    rw [if_neg hop, if_neg hop']
    obtain ⟨lp, lk, lm, L, GP, GM, hTC, hTR, hL, hA, hN, hH⟩ := hT ho1
    obtain ⟨ow, S, w1, w2, w3, w4, w5, w6⟩ := id hH
    rcases isGroup_cases p with ⟨z1, z2⟩ | ⟨z1, z2, b, hb8, rfl⟩
    · exact ⟨-2, g, r, by rw [bs z1, if_pos rfl], by rw [bs z2, if_pos rfl], h⟩
    · obtain ⟨o, ho5, eo⟩ := w6 b hb8
      have i0 : ¬ (nI b < 0 ∨ 8 ≤ (nI b).toNatClampNeg) := nI_in hb8 (by omega)
      have c0 : (nI b).toNatClampNeg = b := nI_clamp (by omega)
      rw [c0] at i0
      rw [bs z1, if_neg e10, bs z2, if_neg e10, c0, w1, w2, if_neg i0, if_neg i0]
      simp only [eo, w3, w4]
      have e65 : (65535 : Int32) = nI 65535 := by decide +kernel
      by_cases h1 : o = 65535
      · have b1 : (65535 : Int32) ≤ nI o := by rw [e65]; exact nI_le (by omega) (by omega)
        have b2 : nI o = 65535 := by rw [e65, h1]
        exact ⟨-4, g, r, by rw [if_pos b1], by rw [if_pos b2, if_neg i0], h⟩
      · have b1 : ¬ (65535 : Int32) ≤ nI o := by rw [e65]; exact nI_ge (by omega) (by omega)
        have b2 : ¬ nI o = 65535 := by rw [e65]; exact fun e => h1 ((nI_eq (by omega) (by omega)).mp e)
        rw [if_neg b1, if_neg b2]
        by_cases h2 : S < 1000000000
        · have b3 : nI S < 1000000000 := by rw [nMO]; exact nI_lt h2 (by omega)
          have b4 : ¬ nI S = 1000000000 := by rw [nMO]; exact fun e => absurd ((nI_eq (by omega) (by omega)).mp e) (by omega)
          rw [if_pos b3, if_neg b4, if_neg i0, if_neg i0, nI_1, nI_1]
          obtain ⟨ow', how'⟩ : ∃ ow', ow' = upd ow b (nI (o + 1)) := ⟨_, rfl⟩
          rw [← how']
          have hkO : kOw (8, ow') := by
            refine ⟨rfl, fun j hj => ?_⟩
            show ow' j = 0
            have h8 := (ci_owners hC).2 j hj
            rw [w1] at h8
            rw [how']
            unfold upd
            rw [if_neg (by omega)]
            exact h8
          have hm := ci_medium hC
          obtain ⟨t, htd⟩ : ∃ t, t = tri (g_medium g) := ⟨_, rfl⟩
          have hmk : g_medium g = mk3 n t := by rw [htd]; exact g_mk3 hC
          have hpw : Pw t.2.1 := by rw [htd]; exact hm.2.1
          have hby : ∀ k, By (t.1 k) := by rw [htd]; exact hm.2.2
          have htr : rtri r = t := by rw [htd]; exact ht.symm
          obtain ⟨G0, hG0⟩ : ∃ G0, G0 = s_serial (s_owners g (8, ow')) (nI (S + 1)) := ⟨_, rfl⟩
          have hCG0 : CI n G0 := by rw [hG0]; exact cs_serial (cs_owners (v := (8, ow')) hC hkO)
          have gm0 : g_medium G0 = mk3 n t := by rw [hG0]; simp only [q_medium]; exact hmk
          have go0 : g_isOpen G0 = 1 := by rw [hG0]; simp only [q_isOpen]; exact ho1
          have gr0 : g_room G0 = g_room g := by rw [hG0]; simp only [q_room]
          have gow0 : g_owners G0 = (8, ow') := by rw [hG0]; simp only [q_owners]
          have gse0 : g_serial G0 = nI (S + 1) := by rw [hG0]; simp only [q_serial]
          obtain ⟨im, d1, d2, d3⟩ := C_drawHead (g := G0) (ow := ow') (ser := nI (S + 1)) gow0 gse0 (ci_image hCG0)
          obtain ⟨sI, hsI⟩ := id d3
          obtain ⟨I, hI⟩ : ∃ I, I = headImg ow' (nI (S + 1)) := ⟨_, rfl⟩
          have hIB : ∀ k, By (I k) := by rw [hI]; exact By_head _ _
          rw [← hI] at d2
          have hr2 : (S + 1) % 2 < 2 := Nat.mod_lt _ (by omega)
          have hj2 : jrem (nI (S + 1)) 2 = nI ((S + 1) % 2) := by
            unfold jrem
            rw [n2, pk_rem (by omega) (by omega) (by omega)]
          have hT2 := C_take (x := g_room g) (n := n) (a := (S + 1) % 2) (c := 1) hTC.2.2.2.1 hn.2 (by omega)
          have hw1 := C_writeImage (n := n) (g := s_image G0 im) (t := t) (im := im) (by simp only [q_medium]; exact gm0) (by simp only [q_isOpen]; exact go0) rfl hsI (by rw [d2]; exact hIB) hn.1 hn.2 (row := (S + 1) % 2) (count := 1) (by omega) (by omega) (by simp only [q_room]; rw [gr0]; exact hT2) hpw
          rw [show 1 - 1 = 0 from rfl, d2] at hw1
          have hwr : wrM I ((S + 1) % 2) 0 1 t = wrS (fun j => I (0 + j)) (32 * ((S + 1) % 2)) 32 0 t := rfl
          rw [hwr] at hw1
          obtain ⟨R0, hR0⟩ : ∃ R0, R0 = s_Rserial (s_Rowners (s_Rdraft r (256, fun _ => 0)) (8, ow')) (nI (S + 1)) := ⟨_, rfl⟩
          have hRR0 : RI n R0 := by rw [hR0]; exact rs_serial (rs_owners (v := (8, ow')) (rs_draft (v := (256, fun _ => 0)) hR ⟨rfl, fun _ _ => rfl⟩) hkO)
          have rtr0 : rtri R0 = t := by
            rw [hR0, ← htr]
            simp only [rtri, qR_medium, qR_cutIn, qR_written]
          have hfb : pF (pF (fun _ => 0) 0 1 4) 4 4 (nI (S + 1)).toInt64 = pF (upd (fun _ => 0) (0 : Int32).toNatClampNeg (vp_nar .byte 4)) 4 4 (nI (S + 1)).toInt64 := by rw [pF1]; rfl
          have hoL := R_oL (g := R0) (ow := ow') (by rw [hR0]; simp only [qR_owners]) (ri_medium hRR0).1 (ri_cutIn hRR0) (S := S + 1) (by rw [hR0]; simp only [qR_serial]) (by omega) (a := b) hb8 8 FU (pF (pF (fun _ => 0) 0 1 4) 4 4 (nI (S + 1)).toInt64) 0 (By_pF (By_pF (fun _ => By0) _ _ _) _ _ _) (by omega) (FU_lt (by omega))
          have hIe : pF (ownF ow' 8 0 (pF (pF (fun _ => 0) 0 1 4) 4 4 (nI (S + 1)).toInt64)) 24 8 (digF (ownF ow' 8 0 (pF (pF (fun _ => 0) 0 1 4) 4 4 (nI (S + 1)).toInt64)) 0 24) = I := by rw [hI]; rfl
          rw [hIe, rtr0] at hoL
          have q1 := wrS_ok (fun j => I (0 + j)) (32 * ((S + 1) % 2)) 32 0 t
          have q2 := wrS_pw (fun j => I (0 + j)) (32 * ((S + 1) % 2)) 32 0 t hpw
          have q3 := wrS_by (fun j => I (0 + j)) (fun j => hIB _) (32 * ((S + 1) % 2)) 32 0 t hby
          obtain ⟨q, hq⟩ : ∃ q, q = wrS (fun j => I (0 + j)) (32 * ((S + 1) % 2)) 32 0 t := ⟨_, rfl⟩
          rw [← hq] at hw1 hoL q1 q2 q3
          have hcl : m_RRef_clearDraft r = some (s_Rdraft r (256, fun _ => 0)) := R_clear (ri_draft hR)
          rw [bs hcl]
          simp only [qR_owners, qR_serial, qR_draft]
          rw [w2, w4, if_neg i0, if_neg i0, if_neg (by decide)]
          simp only
          rw [eo, nI_1, nI_1, ← how']
          have hput : m_RRef_put (256, upd (fun _ => 0) (0 : Int32).toNatClampNeg (vp_nar .byte 4)) 4 4 (nI (S + 1)).toInt64 = some (256, pF (pF (fun _ => 0) 0 1 4) 4 4 (nI (S + 1)).toInt64) := by
            rw [hfb]
            exact R_put (x := (256, upd (fun _ => 0) (0 : Int32).toNatClampNeg (vp_nar .byte 4))) (i := 4) (K := 4) (by show 256 < 2 ^ 31; omega) (by omega) (by show 4 + 4 ≤ 256; omega) _
          rw [bs hput, sr_draft, ← hR0, ← hG0]
          have hkDr : kDr (256, I) := ⟨rfl, fun k hk => by show I k = 0; rw [hI]; exact head_hi _ _ (by omega)⟩
          obtain ⟨R1, hR1⟩ : ∃ R1, R1 = rout (s_Rdraft R0 (256, I)) q := ⟨_, rfl⟩
          have hRR1 : RI n R1 := by rw [hR1]; exact RI_rout (rs_draft hRR0 hkDr) q2 q3
          have ftri : rtri R1 = q.2 := by rw [hR1]; exact rout_tri _ _
          obtain ⟨f1, f2, f3, f4, f5, -, -, -⟩ := fr_rout (s_Rdraft R0 (256, I)) q
          rw [← hR1] at f1 f2 f3 f4 f5 hoL
          rw [hR0] at f1 f2 f3 f5
          simp only [qf_Tap, qf_Par, qf_Mrk, qf_Ls] at f1 f2 f3 f5
          have fo : g_Rowners R1 = (8, ow') := by rw [e_owners f4, hR0]; simp only [qR_owners]
          have fs : g_Rserial R1 = nI (S + 1) := by rw [e_serial f4, hR0]; simp only [qR_serial]
          obtain ⟨G1, hG1⟩ : ∃ G1, G1 = s_room (wi n (s_image G0 im) q) (n, setF (g_room g).2 ((S + 1) % 2) 1 1) := ⟨_, rfl⟩
          have hCG1 : CI n G1 := by rw [hG1]; exact cs_room (CI_wi (cs_image hCG0 d3) hn q1 q2 q3) (kRm_set (ci_room hC).2 (Or.inr rfl))
          have gt : g_tape G1 = g_tape g := by rw [hG1, hG0]; simp only [wi, q_tape]
          have gm : g_medium G1 = mk3 n q.2 := by rw [hG1]; simp only [wi, q_medium]
          have go : g_isOpen G1 = q.1 := by rw [hG1]; simp only [wi, q_isOpen]
          have gp : g_parts G1 = g_parts g := by rw [hG1, hG0]; simp only [wi, q_parts]
          have gk : g_kept G1 = g_kept g := by rw [hG1, hG0]; simp only [wi, q_kept]
          have gd : g_made G1 = g_made g := by rw [hG1, hG0]; simp only [wi, q_made]
          have gow : g_owners G1 = (8, ow') := by rw [hG1]; simp only [wi, q_owners]; exact gow0
          have gse : g_serial G1 = nI (S + 1) := by rw [hG1]; simp only [wi, q_serial]; exact gse0
          have ggm : g_greatestMark G1 = g_greatestMark g := by rw [hG1, hG0]; simp only [wi, q_greatestMark]
          have ggp : g_greatestPart G1 = g_greatestPart g := by rw [hG1, hG0]; simp only [wi, q_greatestPart]
          have gro : g_room G1 = (n, setF (g_room g).2 ((S + 1) % 2) 1 1) := by rw [hG1]; simp only [q_room]
          rw [← hG1] at hw1
          have gsi : g_serial (s_image G0 im) = nI (S + 1) := by simp only [q_serial]; exact gse0
          have hw1' : m_Log_writeImage (s_image G0 im) (nI ((S + 1) % 2)) 1 = some (q.1, G1) := hw1
          rw [bs d1, gsi, hj2, bs hw1']
          simp only
          by_cases hz : q.1 = 0
          · refine ⟨-5, G1, R1, by rw [if_pos hz], hoL.trans (by rw [if_pos hz]), ⟨hn, hCG1, hRR1, ?_, ?_, ?_⟩, fun e => ?_⟩
            · rw [gm, ftri]; rfl
            · rw [go, hz, hR1, rout_open0 hz]
            · rw [gt, e_tape f1, e_taped f1]; exact hts
            · rw [go, hz] at e
              exact absurd e (by decide)
          · have h1q : q.1 = 1 := q1.resolve_left hz
            refine ⟨ow' b, G1, R1, ?_, hoL.trans (by rw [if_neg hz]), ⟨hn, hCG1, hRR1, ?_, ?_, ?_⟩, fun _ => ⟨lp, lk, lm, L, GP, GM, ⟨?_, ?_, ?_, ?_⟩, ⟨PR_fr f2 hTR.1, MR_fr f3 hTR.2⟩, hL, hA, ⟨?_, ?_, ?_, ?_⟩, ⟨ow', S + 1, gow, fo, gse, fs, by omega, ?_⟩⟩⟩
            · rw [if_neg hz, gow, if_neg i0]
            · rw [gm, ftri]; rfl
            · rw [go, h1q, hR1, rout_open1 h1q, hR0]
              simp only [qR_open]
              rw [← ho, ho1]
            · rw [gt, e_tape f1, e_taped f1]; exact hts
            · rw [gp]; exact hTC.1
            · rw [gk]; exact hTC.2.1
            · rw [gd]; exact hTC.2.2.1
            · rw [gro]
              refine ⟨rfl, fun k k1 k2 => ?_⟩
              show (if (S + 1) % 2 ≤ k ∧ k < (S + 1) % 2 + 1 then 1 else (g_room g).2 k) = 0 ↔ _
              rw [if_neg (by omega)]
              exact hTC.2.2.2.2 k k1 k2
            · rw [ggp]; exact hN.1
            · rw [e_lastPart f5]; exact hN.2.1
            · rw [ggm]; exact hN.2.2.1
            · rw [e_lastMark f5]; exact hN.2.2.2
            · intro k hk
              rw [how']
              unfold upd
              by_cases hkb : k = b
              · rw [if_pos hkb]
                exact ⟨o + 1, by omega, rfl⟩
              · rw [if_neg hkb]
                exact w6 k hk
        · have b3 : ¬ nI S < 1000000000 := by rw [nMO]; exact nI_nlt (by omega) (by omega)
          have b4 : nI S = 1000000000 := by rw [nMO, show S = 1000000000 by omega]
          exact ⟨-4, g, r, by rw [if_neg b3], by rw [if_pos b4, if_neg i0], h⟩
