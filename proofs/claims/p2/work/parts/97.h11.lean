-- mark
theorem sr_mPart (r : St_Ref) (a b : AI) : s_RmPart (s_RmPart r a) b = s_RmPart r b := rfl
theorem lst_pw {α : Type} {R : α → α → Prop} {f : Nat → α} : ∀ (P : Nat), (∀ i j, i < j → j < P → R (f i) (f j)) → (lst f P).Pairwise R := by
  intro P
  induction P with
  | zero => intro _; exact List.Pairwise.nil
  | succ P ih =>
    intro h
    rw [lst_succ, List.pairwise_append]
    refine ⟨ih (fun i j h1 h2 => h i j h1 (by omega)), List.pairwise_singleton _ _, fun a ha b hb => ?_⟩
    obtain ⟨k, hk, rfl⟩ := mem_lst.mp ha
    rcases List.mem_cons.mp hb with rfl | hb
    · exact h k P hk (by omega)
    · cases hb
theorem R_mk_L {n : Nat} {r : St_Ref} {x : St_Parts} {lp : List PQ} {M c : Nat} (hR : RI n r) (h : PR r lp) (hx : PC n x lp) (hpos : ∀ q, q ∈ lp → 0 < q.1) (hM : M < 270) (hm : g_Rmarks r = nI M) (hc : c ≤ 12) (hcP : c ≤ lp.length) : ∀ (d fuel : Nat) (F : Nat → Int32) (v v3 : Int32), d ≤ c → ((d = 0 ∧ v3 < 0) ∨ (1 ≤ d ∧ v3 = nI (d - 1))) → (∀ k, k < lp.length - c + d → (crow x k).1 < v) → (∀ k, lp.length - c + d ≤ k → k < lp.length → v ≤ (crow x k).1) → d < fuel → ∃ F', m_RRef_mark_L62 fuel (s_RmPart r (3240, F)) (nI c) v v3 = ((m_RRef_newMark (s_RmPart r (3240, F')) (nI c)).bind fun q9 => some (q9.1, q9.2)) ∧ (∀ i, i < d → F' (12 * M + i) = (crow x (lp.length - c + i)).1) ∧ ∀ j, ¬ (12 * M ≤ j ∧ j < 12 * M + d) → F' j = F j := by
  intro d
  induction d with
  | zero =>
    intro fuel F v v3 hd hv h1 h2 hf
    obtain ⟨fu, rfl, -⟩ := fu1 hf
    refine ⟨F, ?_, fun i hi => absurd hi (by omega), fun j _ => rfl⟩
    rw [m_RRef_mark_L62]
    exact if_pos (hv.resolve_right (fun e => absurd e.1 (by omega))).2
  | succ d ih =>
    intro fuel F v v3 hd hv h1 h2 hf
    obtain ⟨fu, rfl, hf'⟩ := fu1 hf
    have hv3 : v3 = nI d := (hv.resolve_left (fun e => absurd e.1 (by omega))).2
    subst hv3
    have hb := R_below (r := s_RmPart r (3240, F)) (PR_fr (by simp only [qf_Par]) h) hx hpos (v := v) (j := lp.length - c + d) (by omega) (h1 _ (by omega)) (fun k k1 k2 => h2 k (by omega) k2)
    obtain ⟨F', a1, a2, a3⟩ := ih fu (upd F (12 * M + d) (crow x (lp.length - c + d)).1) (crow x (lp.length - c + d)).1 (nI d + (-1)) (by omega) (by
      by_cases h0 : d = 0
      · left
        subst h0
        exact ⟨rfl, by decide⟩
      · right
        exact ⟨by omega, sb_m1 (by omega)⟩) (fun k hk => hx.1.2.2.2.2 k _ (by omega) (by omega)) (fun k k1 k2 => by
      by_cases hk : k = lp.length - c + d
      · rw [hk]; exact Int32.le_refl _
      · exact Int32.le_of_lt (hx.1.2.2.2.2 _ k (by omega) k2)) (by omega)
    refine ⟨F', ?_, fun i hi => ?_, fun j hj => ?_⟩
    · rw [m_RRef_mark_L62]
      refine Eq.trans (if_neg (nI_pos (by omega))) ?_
      refine Eq.trans (bs hb) ?_
      simp only [qR_marks, qR_mPart, sr_mPart]
      rw [hm, n12, pk_mul, nI_add]
      refine Eq.trans (if_neg (nI_in (show 12 * M + d < 3240 by omega) (by omega))) ?_
      rw [nI_clamp (by omega)]
      exact a1
    · by_cases hid : i = d
      · rw [hid, a3 _ (by omega)]
        unfold upd
        rw [if_pos rfl]
      · exact a2 i (by omega)
    · rw [a3 j (by omega)]
      unfold upd
      rw [if_neg (by omega)]
theorem nI_back {a : Nat} (h : a < 2 ^ 31) : nI (nI a).toNatClampNeg = nI a := by rw [nI_clamp h]
theorem Abs_mark {n : Nat} {x : St_Parts} {lp : List PQ} {lk lm : List MKQ} {GP GM c : Nat} (h : Abs n lp lk lm GP GM) (hx : PC n x lp) (hG : GM < 1000000000) (hc : 1 ≤ c ∧ c ≤ 12) (hcP : c ≤ lp.length) : Abs n lp lk ((nI (GM + 1), nI c, (-1), 0, lst (fun k => (crow x (lp.length - c + k)).1) c) :: lm) GP (GM + 1) := by
  obtain ⟨h1, h2, h3, h4, h5, h6, h7⟩ := h
  have hmem : ∀ k, k < c → crow x (lp.length - c + k) ∈ lp := fun k hk => PC_mem hx (by omega)
  have hnum : ∀ k, k < c → ∃ a : Nat, 1 ≤ a ∧ a ≤ GP ∧ (crow x (lp.length - c + k)).1 = nI a := fun k hk => (h1 _ (hmem k hk)).2
  refine ⟨h1, fun m hm => ?_, fun m hm => ?_, h4, ?_, h6, by omega⟩
  · obtain ⟨k1, k2, k3⟩ := h2 m hm
    exact ⟨k1, k2, NumLe_mono (by omega) k3⟩
  · rcases List.mem_cons.mp hm with rfl | hm
    · refine ⟨⟨GM + 1, c, rfl, by omega, by omega, rfl, hc.1, hc.2, rfl, rfl⟩, ⟨lst (fun k => ((crow x (lp.length - c + k)).1).toNatClampNeg) c, ?_, ?_, ?_, ?_, ?_, ?_⟩, ⟨GM + 1, by omega, by omega, rfl⟩, ?_⟩
      · show lst (fun k => (crow x (lp.length - c + k)).1) c = _
        unfold lst
        rw [List.map_map]
        apply List.map_congr_left
        intro k hk
        obtain ⟨a, a1, a2, a3⟩ := hnum k (List.mem_range.mp hk)
        show _ = nI ((crow x (lp.length - c + k)).1).toNatClampNeg
        rw [a3, nI_back (by omega)]
      · rw [lst_len]
      · rw [lst_len]; exact hc.1
      · rw [lst_len]; exact hc.2
      · refine lst_pw c (fun i j hij hj => ?_)
        obtain ⟨a, a1, a2, a3⟩ := hnum i (by omega)
        obtain ⟨b, b1, b2, b3⟩ := hnum j hj
        have hlt : (crow x (lp.length - c + i)).1 < (crow x (lp.length - c + j)).1 := hx.1.2.2.2.2 _ _ (by omega) (by omega)
        rw [a3, b3] at hlt ⊢
        rw [nI_clamp (by omega), nI_clamp (by omega)]
        exact (nI_ltI (by omega) (by omega)).mp hlt
      · intro a ha
        obtain ⟨k, hk, rfl⟩ := mem_lst.mp ha
        obtain ⟨a, a1, a2, a3⟩ := hnum k hk
        rw [a3, nI_clamp (by omega)]
        exact ⟨a1, a2⟩
      · intro v hv
        obtain ⟨k, hk, rfl⟩ := mem_lst.mp hv
        exact ⟨_, hmem k hk, rfl⟩
    · obtain ⟨k1, k2, k3, k4⟩ := h3 m hm
      exact ⟨k1, k2, NumLe_mono (by omega) k3, k4⟩
  · refine ((List.perm_middle (a := (nI (GM + 1), nI c, (-1), 0, lst (fun k => (crow x (lp.length - c + k)).1) c)) (l₁ := lk) (l₂ := lm)).pairwise_iff (fun hr => hr.symm)).mpr (List.pairwise_cons.mpr ⟨fun m hm => ?_, h5⟩)
    have hle : NumLe GM m.1 := by
      rcases List.mem_append.mp hm with z | z
      · exact (h2 m z).2.2
      · exact (h3 m z).2.2.1
    obtain ⟨a, a1, a2, a3⟩ := hle
    show nI (GM + 1) ≠ m.1
    rw [a3]
    intro e
    have := (nI_eq (by omega) (by omega)).mp e
    omega
theorem fresh_mark {n : Nat} {lp : List PQ} {lk lm : List MKQ} {GP GM : Nat} (h : Abs n lp lk lm GP GM) : ∀ m, m ∈ lm → m.1 ≠ nI (GM + 1) := by
  intro m hm e
  obtain ⟨a, a1, a2, a3⟩ := (h.2.2.1 m hm).2.2.1
  have := h.2.2.2.2.2.2
  rw [a3] at e
  have := (nI_eq (by omega) (by omega)).mp e
  omega
theorem num_pos {n : Nat} {q : PQ} (h : FitP n q) : 0 < q.1 := by
  obtain ⟨a, _, _, _, a1, a2, a3, _⟩ := h
  rw [a1, n0]
  exact nI_lt (by omega) (by omega)
/-- a MARK more on both sides: of the c PARTS with the greatest numbers -/
theorem w_mark {n : Nat} {g : St_Log} {r : St_Ref} {lp : List PQ} {lk lm L : List MKQ} {GP GM c : Nat} (hC : CI n g) (hR : RI n r) (hn : 4 ≤ n ∧ n ≤ 512) (hTC : TabC n g lp lk lm) (hTR : TabR r lp L) (hL : L.Perm (lk ++ lm)) (hA : Abs n lp lk lm GP GM) (hN : Nums g r GP GM) (hG : GM < 1000000000) (hc : 1 ≤ c ∧ c ≤ 12) (hcP : c ≤ lp.length) (hlt : lm.length < 6) (hf : ∀ i, i < c → (g_RmPart r).2 (12 * L.length + i) = (crow (g_parts g) (lp.length - c + i)).1) : ∃ x' r' lm' L', m_Log_makeMark g (nI c) = some (nI (GM + 1), s_made (s_greatestMark g (nI (GM + 1))) x') ∧ m_RRef_newMark r (nI c) = some (nI (GM + 1), r') ∧ CI n (s_made (s_greatestMark g (nI (GM + 1))) x') ∧ RI n r' ∧ fMed r' = fMed r ∧ fTap r' = fTap r ∧ fPar r' = fPar r ∧ fHd r' = fHd r ∧ TabC n (s_made (s_greatestMark g (nI (GM + 1))) x') lp lk lm' ∧ TabR r' lp L' ∧ L'.Perm (lk ++ lm') ∧ Abs n lp lk lm' GP (GM + 1) ∧ Nums (s_made (s_greatestMark g (nI (GM + 1))) x') r' GP (GM + 1) := by
  have hroom := Abs_room hA hn.2
  have hLl : L.length = lk.length + lm.length := by rw [hL.length_eq, List.length_append]
  obtain ⟨x', lm', a1, a2, a3⟩ := C_makeMark hTC.1 hTC.2.2.1 hlt hc.2 hcP hN.2.2.1 (fresh_mark hA)
  obtain ⟨r', b1, b2, b3, b4, b5, b6, b7, b8, b9⟩ := R_newMark hR hTR.2 (by omega) hc hN.2.2.2 (fun k => (crow (g_parts g) (lp.length - c + k)).1) hf
  refine ⟨x', r', lm', _, a1, b1, cs_made (cs_greatestMark hC) ⟨_, a2.1.1⟩, b2, b3, b4, b5, b6, ⟨?_, ?_, ?_, ?_⟩, ⟨PR_fr b5 hTR.1, b9⟩, ?_, Abs_perm (List.Perm.refl _) (List.Perm.refl _) a3.symm (Abs_mark hA hTC.1 hG hc hcP), ⟨?_, ?_, ?_, ?_⟩⟩
  · simp only [q_parts]; exact hTC.1
  · simp only [q_kept]; exact hTC.2.1
  · simp only [q_made]; exact a2
  · simp only [q_room]; exact hTC.2.2.2
  · refine (List.perm_append_singleton _ _).trans ?_
    refine (List.Perm.cons _ hL).trans ?_
    refine List.perm_middle.symm.trans ?_
    exact List.Perm.append_left lk a3.symm
  · simp only [q_greatestPart]; exact hN.1
  · rw [b7]; exact hN.2.1
  · simp only [q_greatestMark]
  · exact b8
theorem st_mark {n : Nat} {g : St_Log} {r : St_Ref} (h : Rel n g r) (p : Int32) : ∃ a g' r', m_Log_mark g p = some (a, g') ∧ m_RRef_mark r p = some (a, r') ∧ Rel n g' r' := by
  obtain ⟨⟨hn, hC, hR, ht, ho, hts⟩, hT⟩ := id h
  unfold m_Log_mark m_RRef_mark
  by_cases hop : g_isOpen g = 0
  · exact ⟨-3, g, r, by rw [if_pos hop], by rw [if_pos (by rw [← ho]; exact hop)], h⟩
  · have ho1 := open_1 hC hop
    have hop' : ¬ g_Ropen r = 0 := by rw [← ho]; exact hop
    rw [if_neg hop, if_neg hop']
    obtain ⟨lp, lk, lm, L, GP, GM, hTC, hTR, hL, hA, hN, hH⟩ := hT ho1
    unfold m_RRef_isIn
    by_cases h1 : p < 1
    · exact ⟨-2, g, r, by rw [if_pos h1], by rw [if_pos h1]; rfl, h⟩
    · by_cases h2 : p ≤ 12
      · have h0 : ¬ p < 0 := fun e => h1 (Int32.lt_trans e (by decide))
        obtain ⟨c, hc, rfl⟩ := nI_of2 (x := p) (M := 12) (n := 12) (by decide +kernel) h0 h2
        have hc1 : 1 ≤ c := by
          rcases Nat.eq_zero_or_pos c with h | h
          · subst h
            exact absurd (by decide) h1
          · exact h
        rw [if_neg h1, if_pos h2, if_neg h1, if_neg (Int32.not_lt.mpr h2)]
        simp only [Option.bind_some]
        rw [if_neg e10]
        have hroom := Abs_room hA hn.2
        have hLl : L.length = lk.length + lm.length := by rw [hL.length_eq, List.length_append]
        have hsz : m_Parts_size (g_parts g) = some (nI lp.length) := by unfold m_Parts_size; rw [hTC.1.1.2.1]
        have hsm : m_Marks_size (g_made g) = some (nI lm.length) := by unfold m_Marks_size; rw [hTC.2.2.1.1.1.2.1]
        have hlm : lm.length ≤ 6 := hTC.2.2.1.1.1.2.2.1
        rw [bs hsz, hTR.1.1.2.1]
        by_cases h3 : c ≤ lp.length
        · rw [if_pos (nI_le h3 (by omega)), if_pos (nI_le h3 (by omega)), bs hsm, bs (R_count hR hn.2 hTR.2 hL hA).1, hN.2.2.1, hN.2.2.2, nMO, show (6 : Int32) = nI 6 by decide +kernel]
          by_cases h6 : lm.length = 6
          · exact ⟨-4, g, r, by rw [if_pos (nI_le (by omega) (by omega))], by rw [if_pos (by rw [h6])], h⟩
          · rw [if_neg (nI_ge (by omega) (by omega)), if_neg (fun e => h6 ((nI_eq (by omega) (by omega)).mp e))]
            have hGM := hA.2.2.2.2.2.2
            by_cases h7 : GM < 1000000000
            · rw [if_pos (nI_lt h7 (by omega)), if_neg (fun e => absurd ((nI_eq (by omega) (by omega)).mp e) (by omega))]
              have hr0 : r = s_RmPart r (3240, (g_RmPart r).2) := by
                have q1 : (3240, (g_RmPart r).2) = g_RmPart r := Prod.ext (ri_mPart hR).symm rfl
                rw [q1]; rfl
              have hnum : ∀ k, k < lp.length → (crow (g_parts g) k).1 < 1000000001 := by
                intro k hk
                obtain ⟨a, a1, a2, a3⟩ := (hA.1 _ (PC_mem hTC.1 hk)).2
                have := hA.2.2.2.2.2.1
                rw [a3, show (1000000001 : Int32) = nI 1000000001 by decide +kernel]
                exact nI_lt (by omega) (by omega)
              obtain ⟨F', f1, f2, f3⟩ := R_mk_L hR hTR.1 hTC.1 (fun q hq => num_pos (hA.1 q hq).1) (M := L.length) (c := c) (by omega) hTR.2.1 hc h3 c FU (g_RmPart r).2 1000000001 (nI c - 1) (Nat.le_refl _) (Or.inr ⟨hc1, by rw [n1, pk_sub hc1]⟩) (fun k hk => hnum k (by omega)) (fun k k1 k2 => absurd k2 (by omega)) (FU_lt (by omega))
              rw [← hr0] at f1
              have hR1 : RI n (s_RmPart r (3240, F')) := rs_mPart (v := (3240, F')) hR rfl
              have hMR1 : MR (s_RmPart r (3240, F')) L := by
                have er : ∀ k, k < L.length → qrow (s_RmPart r (3240, F')) k = qrow r k := by
                  intro k hk
                  obtain ⟨ck, -, hck, ek⟩ := hTR.2.2.2.2 _ (MR_mem hTR.2 hk)
                  have ek' : (g_RmCount r).2 k = nI ck := ek
                  unfold qrow
                  simp only [qR_mNumber, qR_mCount, qR_mRow, qR_mDigest, qR_mPart]
                  refine Prod.ext rfl (Prod.ext rfl (Prod.ext rfl (Prod.ext rfl ?_)))
                  refine mls_congr (fun i hi => ?_)
                  rw [ek', nI_clamp (by omega)] at hi
                  exact f3 _ (by omega)
                refine ⟨by simp only [qR_marks]; exact hTR.2.1, hTR.2.2.1, ?_, hTR.2.2.2.2⟩
                rw [lst_congr er]; exact hTR.2.2.2.1
              have hTR1 : TabR (s_RmPart r (3240, F')) lp L := ⟨PR_fr (by simp only [qf_Par]) hTR.1, hMR1⟩
              obtain ⟨x', r', lm', L', w1, w2, w3, w4, w5, w6, w7, w8, w9, w10, w11, w12, w13⟩ := w_mark hC hR1 hn hTC hTR1 hL hA (Nums_fr rfl rfl (by simp only [qf_Ls]) hN) h7 ⟨hc1, hc⟩ h3 (by omega) (fun i hi => by simp only [qR_mPart]; exact f2 i hi)
              refine ⟨nI (GM + 1), _, r', ?_, ?_, ⟨hn, w3, w4, ?_, ?_, ?_⟩, fun _ => ⟨lp, lk, lm', L', GP, GM + 1, w9, w10, w11, w12, w13, ?_⟩⟩
              · rw [bs w1]
              · rw [f1, bs w2]
              · simp only [q_medium]
                rw [ht]
                unfold rtri
                rw [e_medium w5, e_cutIn w5, e_written w5]
                simp only [qR_medium, qR_cutIn, qR_written]
              · simp only [q_isOpen]; rw [e_open w5]; simp only [qR_open]; exact ho
              · simp only [q_tape]; rw [e_tape w6, e_taped w6]; simp only [qR_tape, qR_taped]; exact hts
              · refine Hds_fr (g := g) (r := r) rfl rfl ?_ hH
                rw [w8]; simp only [qf_Hd]
            · exact ⟨-4, g, r, by rw [if_neg (nI_nlt (by omega) (by omega))], by rw [if_pos (by rw [show GM = 1000000000 by omega])], h⟩
        · exact ⟨-1, g, r, by rw [if_neg (nI_ge (by omega) (by omega))], by rw [if_neg (nI_ge (by omega) (by omega))], h⟩
      · exact ⟨-2, g, r, by rw [if_neg h1, if_neg h2], by rw [if_neg h1, if_pos (Int32.not_le.mp h2)]; rfl, h⟩
