-- marks, told
theorem lst_rank {α : Type} {f : Nat → α} {p : α → Bool} {P i : Nat} (hi : i ≤ P) (h1 : ∀ k, k < i → p (f k) = true) (h2 : ∀ k, i ≤ k → k < P → p (f k) = false) : (lst f P).countP p = i := by
  obtain ⟨b, rfl⟩ : ∃ b, P = i + b := ⟨P - i, by omega⟩
  rw [lst_app, List.countP_append]
  have e1 : (lst f i).countP p = i := by
    have : (lst f i).countP p = (lst f i).length := by
      rw [List.countP_eq_length]
      intro z hz
      obtain ⟨k, hk, rfl⟩ := mem_lst.mp hz
      exact h1 k hk
    rw [this, lst_len]
  have e2 : (lst (fun k => f (i + k)) b).countP p = 0 := by
    rw [List.countP_eq_zero]
    intro z hz
    obtain ⟨k, hk, rfl⟩ := mem_lst.mp hz
    show ¬ p (f (i + k)) = true
    rw [h2 (i + k) (by omega) (by omega)]
    decide
  rw [e1, e2]
  rfl
def rkB (v : Int32) (m : MKQ) : Bool := decide (m.2.2.1 ≠ (-1) ∧ m.1 < v)
theorem R_mk39 {n : Nat} {r : St_Ref} {M : Nat} (hR : RI n r) (hm : g_Rmarks r = nI M) (hM : M ≤ 270) (kk : Int32 → Int32 → Int32 → Option Int32) (p : Int32) {k : Nat} (hk : k < M) : ∀ (d fuel i a : Nat), i + d = M → d < fuel → m_RRef_marks_L39 r kk fuel p (nI k) (nI a) (nI i) = kk p (nI k) (nI (a + (lst (fun j => qrow r (i + j)) d).countP (rkB (qrow r k).1))) := by
  have l1 : (g_RmRow r).1 = 270 := ri_mRow hR
  have l2 : (g_RmNumber r).1 = 270 := ri_mNumber hR
  have ck : (nI k).toNatClampNeg = k := nI_clamp (by omega)
  intro d
  induction d with
  | zero =>
    intro fuel i a hi hf
    obtain ⟨fu, rfl, -⟩ := fu1 hf
    rw [m_RRef_marks_L39, hm, if_pos (nI_le (by omega) (by omega))]; rfl
  | succ d ih =>
    intro fuel i a hi hf
    obtain ⟨fu, rfl, hf'⟩ := fu1 hf
    have e : (fun j => qrow r (i + (j + 1))) = fun j => qrow r (i + 1 + j) := funext fun j => by rw [show i + (j + 1) = i + 1 + j by omega]
    have ci : (nI i).toNatClampNeg = i := nI_clamp (by omega)
    have za : nI a + 0 = nI a := by
      rw [n0, nI_add]; rfl
    have i0 : ¬ (nI i < 0 ∨ 270 ≤ i) := by
      have := nI_in (c := i) (N := 270) (by omega) (by omega)
      rw [ci] at this
      exact this
    have k0 : ¬ (nI k < 0 ∨ 270 ≤ k) := by
      have := nI_in (c := k) (N := 270) (by omega) (by omega)
      rw [ck] at this
      exact this
    rw [m_RRef_marks_L39, hm, if_neg (nI_ge (by omega) (by omega)), l1, l2, ci, ck, if_neg i0, lst_cons, e, List.countP_cons, nI_1 i, nI_1 a, za]
    show _ = kk p (nI k) (nI (a + (_ + if rkB (qrow r k).1 (qrow r i) = true then 1 else 0)))
    by_cases h1 : (g_RmRow r).2 i = (-1)
    · have hb : ¬ rkB (qrow r k).1 (qrow r i) = true := by
        unfold rkB
        rw [decide_eq_true_eq]
        exact fun z => z.1 h1
      rw [if_pos h1, ih fu (i + 1) a (by omega) (by omega), if_neg hb]
      rfl
    · rw [if_neg h1, if_neg i0, if_neg k0]
      by_cases h2 : (g_RmNumber r).2 k ≤ (g_RmNumber r).2 i
      · have hb : ¬ rkB (qrow r k).1 (qrow r i) = true := by
          unfold rkB
          rw [decide_eq_true_eq]
          exact fun z => absurd z.2 (Int32.not_lt.mpr h2)
        rw [if_pos h2, ih fu (i + 1) a (by omega) (by omega), if_neg hb]
        rfl
      · have hb : rkB (qrow r k).1 (qrow r i) = true := by
          unfold rkB
          rw [decide_eq_true_eq]
          exact ⟨h1, Int32.not_le.mp h2⟩
        rw [if_neg h2, ih fu (i + 1) (a + 1) (by omega) (by omega), if_pos hb]
        congr 2
        omega
theorem R_mk25 {n : Nat} {r : St_Ref} {L : List MKQ} (hR : RI n r) (hM : MR r L) (p : Int32) : ∀ (d fuel k : Nat), k + d = L.length → d < fuel → (m_RRef_marks_L25 r fuel p (nI k) = some (-1) ∧ ∀ j, k ≤ j → j < L.length → (qrow r j).2.2.1 ≠ (-1) → nI (L.countP (rkB (qrow r j).1)) ≠ p) ∨ ∃ j, k ≤ j ∧ j < L.length ∧ (qrow r j).2.2.1 ≠ (-1) ∧ nI (L.countP (rkB (qrow r j).1)) = p ∧ m_RRef_marks_L25 r fuel p (nI k) = some (qrow r j).1 := by
  have hm := hM.1
  have hl := hM.2.1
  have l1 : (g_RmRow r).1 = 270 := ri_mRow hR
  have l2 : (g_RmNumber r).1 = 270 := ri_mNumber hR
  have eL : lst (fun j => qrow r (0 + j)) L.length = L := by
    rw [lst_congr (g := qrow r) (fun j _ => by rw [Nat.zero_add])]; exact hM.2.2.1
  intro d
  induction d with
  | zero =>
    intro fuel k hk hf
    obtain ⟨fu, rfl, -⟩ := fu1 hf
    left
    refine ⟨?_, fun j h1 h2 => absurd h2 (by omega)⟩
    rw [m_RRef_marks_L25, hm, if_pos (nI_le (by omega) (by omega))]
  | succ d ih =>
    intro fuel k hk hf
    obtain ⟨fu, rfl, hf'⟩ := fu1 hf
    have ck : (nI k).toNatClampNeg = k := nI_clamp (by omega)
    have k0 : ¬ (nI k < 0 ∨ 270 ≤ k) := by
      have := nI_in (c := k) (N := 270) (by omega) (by omega)
      rw [ck] at this
      exact this
    have h39 := R_mk39 hR hm hl (fun (v1_11 : Int32) (v3_12 : Int32) (v4_13 : Int32) => if v3_12 < 0 ∨ (g_RmRow r).1 ≤ (v3_12).toNatClampNeg then none else if ((g_RmRow r).2 (v3_12).toNatClampNeg) = (-1) then (m_RRef_marks_L25 r fu v1_11 (v3_12 + 1)) else (if v4_13 = v1_11 then (if v3_12 < 0 ∨ (g_RmNumber r).1 ≤ (v3_12).toNatClampNeg then none else some ((g_RmNumber r).2 (v3_12).toNatClampNeg)) else (m_RRef_marks_L25 r fu v1_11 (v3_12 + 1)))) p (k := k) (by omega) L.length FU 0 0 (by omega) (FU_lt (by omega))
    rw [eL, Nat.zero_add] at h39
    have run : m_RRef_marks_L25 r (fu + 1) p (nI k) = (if (qrow r k).2.2.1 = (-1) then m_RRef_marks_L25 r fu p (nI (k + 1)) else (if nI (L.countP (rkB (qrow r k).1)) = p then some (qrow r k).1 else m_RRef_marks_L25 r fu p (nI (k + 1)))) := by
      rw [m_RRef_marks_L25, hm, if_neg (nI_ge (by omega) (by omega))]
      refine Eq.trans h39 ?_
      rw [l1, l2, ck, if_neg k0, nI_1]
      by_cases z1 : (g_RmRow r).2 k = (-1)
      · rw [if_pos z1, if_pos (show (qrow r k).2.2.1 = (-1) from z1)]
      · rw [if_neg z1, if_neg (show ¬ (qrow r k).2.2.1 = (-1) from z1)]
        by_cases z2 : nI (L.countP (rkB (qrow r k).1)) = p
        · rw [if_pos z2, if_pos z2]
          exact if_neg k0
        · rw [if_neg z2, if_neg z2]
    by_cases z1 : (qrow r k).2.2.1 = (-1)
    · rw [run, if_pos z1]
      rcases ih fu (k + 1) (by omega) (by omega) with ⟨a1, a2⟩ | ⟨j, a1, a2, a3, a4, a5⟩
      · left
        refine ⟨a1, fun j j1 j2 j3 => ?_⟩
        by_cases hj : j = k
        · rw [hj] at j3; exact absurd z1 j3
        · exact a2 j (by omega) j2 j3
      · right
        exact ⟨j, by omega, a2, a3, a4, a5⟩
    · rw [run, if_neg z1]
      by_cases z2 : nI (L.countP (rkB (qrow r k).1)) = p
      · rw [if_pos z2]
        right
        exact ⟨k, by omega, by omega, z1, z2, rfl⟩
      · rw [if_neg z2]
        rcases ih fu (k + 1) (by omega) (by omega) with ⟨a1, a2⟩ | ⟨j, a1, a2, a3, a4, a5⟩
        · left
          refine ⟨a1, fun j j1 j2 j3 => ?_⟩
          by_cases hj : j = k
          · rw [hj]; exact z2
          · exact a2 j (by omega) j2 j3
        · right
          exact ⟨j, by omega, a2, a3, a4, a5⟩
theorem st_marks {n : Nat} {g : St_Log} {r : St_Ref} (h : Rel n g r) (p : Int32) : ∃ a, m_Log_marks g p = some a ∧ m_RRef_marks r p = some a := by
  obtain ⟨⟨hn, hC, hR, ht, ho, hts⟩, hT⟩ := id h
  unfold m_Log_marks m_RRef_marks
  by_cases hop : g_isOpen g = 0
  · exact ⟨-3, by rw [if_pos hop], by rw [if_pos (by rw [← ho]; exact hop)]⟩
  · have ho1 := open_1 hC hop
    have hop' : ¬ g_Ropen r = 0 := by rw [← ho]; exact hop
    obtain ⟨lp, lk, lm, L, GP, GM, hTC, hTR, hL, hA, hN, hH⟩ := hT ho1
    have hML := hTR.2.2.1
    have hk2 := hTC.2.1.1.1.2.2.1
    have hsz : m_Marks_size (g_kept g) = some (nI lk.length) := by unfold m_Marks_size; rw [hTC.2.1.1.1.2.1]
    rw [if_neg hop, if_neg hop', bs (R_count hR hn.2 hTR.2 hL hA).2]
    by_cases hp : p = (-1)
    · exact ⟨_, by rw [if_pos hp, bs hsz], by rw [if_pos hp]⟩
    · rw [if_neg hp, if_neg hp]
      have hkr : ∀ m, m ∈ lk → m.2.2.1 ≠ (-1) := by
        intro m hm e
        obtain ⟨_, _, w, _, _, _, _, _, _, p7, _, p9⟩ := (hA.2.1 _ hm).1
        rw [p7] at e
        exact nI_m1 (by omega) e
      have hmr : ∀ m, m ∈ lm → m.2.2.1 = (-1) := by
        intro m hm
        obtain ⟨_, _, _, _, _, _, _, _, p7, _⟩ := (hA.2.2.1 _ hm).1
        exact p7
      have hrank : ∀ i, i < lk.length → L.countP (rkB (mrow (g_kept g) i).1) = i := by
        intro i hi
        have e2 : lm.countP (rkB (mrow (g_kept g) i).1) = 0 := by
          rw [List.countP_eq_zero]
          intro m hm
          unfold rkB
          rw [decide_eq_true_eq]
          exact fun z => z.1 (hmr m hm)
        rw [hL.countP_eq, List.countP_append, e2, Nat.add_zero]
        have := lst_rank (f := mrow (g_kept g)) (p := rkB (mrow (g_kept g) i).1) (P := lk.length) (i := i) (by omega) (fun k hk => by
          unfold rkB
          rw [decide_eq_true_eq]
          exact ⟨hkr _ (MC_mem hTC.2.1 (by omega)), hTC.2.1.1.2 k i hk hi⟩) (fun k k1 k2 => by
          unfold rkB
          rw [decide_eq_false_iff_not]
          intro z
          rcases Nat.lt_or_ge i k with q | q
          · exact Int32.lt_irrefl (Int32.lt_trans (hTC.2.1.1.2 i k q k2) z.2)
          · have : k = i := by omega
            rw [this] at z
            exact Int32.lt_irrefl z.2)
        rw [hTC.2.1.2] at this
        exact this
      have hof : ∀ j, j < L.length → (qrow r j).2.2.1 ≠ (-1) → ∃ i, i < lk.length ∧ mrow (g_kept g) i = qrow r j := by
        intro j hj hne
        rcases List.mem_append.mp (hL.mem_iff.mp (MR_mem hTR.2 hj)) with z | z
        · exact MC_ex hTC.2.1 z
        · exact absurd (hmr _ z) hne
      have run := R_mk25 hR hTR.2 p L.length FU 0 (by omega) (FU_lt (by omega))
      rcases pk_ix p (n := lk.length) (by omega) with z | z | ⟨i, hi, rfl⟩
      · refine ⟨-1, by rw [bs (M_numberAt0 hTC.2.1.1.1 (Or.inl z))], ?_⟩
        rcases run with ⟨a1, -⟩ | ⟨j, -, a2, a3, a4, -⟩
        · exact a1
        · obtain ⟨i, hi, e⟩ := hof j a2 a3
          rw [← e, hrank i hi] at a4
          rw [← a4] at z
          exact absurd z (nI_pos (by omega))
      · refine ⟨-1, by rw [bs (M_numberAt0 hTC.2.1.1.1 (Or.inr z))], ?_⟩
        rcases run with ⟨a1, -⟩ | ⟨j, -, a2, a3, a4, -⟩
        · exact a1
        · obtain ⟨i, hi, e⟩ := hof j a2 a3
          rw [← e, hrank i hi] at a4
          rw [← a4] at z
          exact absurd z (nI_ge hi (by omega))
      · refine ⟨(mrow (g_kept g) i).1, by rw [bs (M_numberAt hTC.2.1.1.1 hi)]; rfl, ?_⟩
        rcases run with ⟨-, a2⟩ | ⟨j, -, a2, a3, a4, a5⟩
        · obtain ⟨j, hj, e⟩ := MR_ex hTR.2 (hL.mem_iff.mpr (List.mem_append.mpr (Or.inl (MC_mem hTC.2.1 hi))))
          refine absurd ?_ (a2 j (by omega) hj (by rw [e]; exact hkr _ (MC_mem hTC.2.1 hi)))
          rw [e, hrank i hi]
        · obtain ⟨i2, hi2, e⟩ := hof j a2 a3
          rw [← e, hrank i2 hi2] at a4
          have : i2 = i := (nI_eq (by omega) (by omega)).mp a4
          subst this
          refine Eq.trans (show m_RRef_marks_L25 r FU (nI i2) 0 = _ from a5) ?_
          rw [e]
theorem st_told {n : Nat} {g : St_Log} {r : St_Ref} (h : Rel n g r) (p : Int32) : ∃ a r', m_Log_told g p = some a ∧ m_RRef_told r p = some (a, r') ∧ Rel n g r' := by
  obtain ⟨⟨hn, hC, hR, ht, ho, hts⟩, hT⟩ := id h
  have hm := ci_medium hC
  have t3 : (g_medium g).2.2.2 = g_Rwritten r := congrArg (fun z : (Nat → Int32) × Int32 × Int32 => z.2.2) ht
  unfold m_Log_told m_RRef_told m_RRef_isIn
  by_cases h1 : p < 0
  · exact ⟨-2, r, by rw [if_pos h1], by rw [if_pos h1]; rfl, h⟩
  · by_cases h2 : p < 17
    · have h16 : ¬ (16 : Int32) < p := by
        intro z
        have := Int32.lt_iff_toInt_lt.mp z
        have := Int32.lt_iff_toInt_lt.mp h2
        have a3 : Int32.toInt 16 = 16 := by decide
        have a4 : Int32.toInt 17 = 17 := by decide
        omega
      rw [if_neg h1, if_pos h2, if_neg h1, if_neg h16]
      simp only [Option.bind_some]
      rw [if_neg e10]
      by_cases b0 : p = 0
      · have h3n : ¬ (3 : Int32) ≤ p := by rw [b0]; decide
        rw [if_pos b0, if_neg h3n, if_pos b0]
        by_cases hop : g_isOpen g = 0
        · have hop' : g_Ropen r = 0 := by rw [← ho]; exact hop
          exact ⟨0, r, by rw [if_pos hop], by rw [if_pos hop'], h⟩
        · have hop' : ¬ g_Ropen r = 0 := by rw [← ho]; exact hop
          exact ⟨1, r, by rw [if_neg hop], by rw [if_neg hop'], h⟩
      · rw [if_neg b0]
        by_cases b1 : p = 1
        · have h3n : ¬ (3 : Int32) ≤ p := by rw [b1]; decide
          rw [if_pos b1, if_neg h3n, if_neg b0, if_pos b1]
          refine ⟨nI n, r, ?_, by rw [show g_Rrows r = nI n from ri_rows hR], h⟩
          unfold m_Medium_rows
          rw [Option.bind_some, hm.1.1]
        · rw [if_neg b1]
          by_cases b2 : p = 2
          · have h3n : ¬ (3 : Int32) ≤ p := by rw [b2]; decide
            rw [if_pos b2, if_neg h3n, if_neg b0, if_neg b1]
            refine ⟨g_Rwritten r, r, ?_, rfl, h⟩
            unfold m_Medium_written
            rw [Option.bind_some, t3]
          · rw [if_neg b2]
            have h3 : (3 : Int32) ≤ p := by
              rw [Int32.le_iff_toInt_le]
              have a0 : ¬ p.toInt < Int32.toInt 0 := fun e => h1 (Int32.lt_iff_toInt_lt.mpr e)
              have d0 : Int32.toInt 0 = 0 := by decide
              have d1 : Int32.toInt 1 = 1 := by decide
              have d2 : Int32.toInt 2 = 2 := by decide
              have d3 : Int32.toInt 3 = 3 := by decide
              have k0 : p.toInt ≠ Int32.toInt 0 := fun e => b0 (Int32.toInt_inj.mp e)
              have k1 : p.toInt ≠ Int32.toInt 1 := fun e => b1 (Int32.toInt_inj.mp e)
              have k2 : p.toInt ≠ Int32.toInt 2 := fun e => b2 (Int32.toInt_inj.mp e)
              omega
            rw [if_pos h3]
            by_cases hop : g_isOpen g = 0
            · have hop' : g_Ropen r = 0 := by rw [← ho]; exact hop
              exact ⟨0, r, by rw [if_pos hop], by rw [if_pos hop'], h⟩
            · have ho1 := open_1 hC hop
              have hop' : ¬ g_Ropen r = 0 := by rw [← ho]; exact hop
              obtain ⟨lp, lk, lm, L, GP, GM, hTC, hTR, hL, hA, hN, hH⟩ := hT ho1
              obtain ⟨ow, S, w1, w2, w3, w4, w5, w6⟩ := id hH
              rw [if_neg hop, if_neg hop']
              unfold m_Log_toldOpen
              by_cases b3 : p = 3
              · rw [if_pos b3, if_pos b3]
                obtain ⟨f, u1, u2⟩ := used_bits hR hn.2 hA hTC.2.2.2 hTR.1 hTR.2 hL
                have k1 := C_countFree (x := g_room g) hTC.2.2.2.1 hn
                have k2 := R_cF_L (g := s_Rused r (512, f)) (f := f) (by simp only [qR_used]) (by simp only [qR_rows]; exact ri_rows hR) hn.2 (n - 2) FU 0 2 (by omega) (FU_lt (by omega))
                rw [freeF_congr (b := f) (b' := (g_room g).2) (n - 2) 2 (fun j j1 j2 => u2 j j1 (by omega)), Nat.zero_add] at k2
                refine ⟨nI (freeF (g_room g).2 (n - 2) 2), s_Rused r (512, f), by rw [bs k1]; rfl, ?_, ?_⟩
                · rw [bs u1]; exact k2
                · refine Rel_fr h ?_ (fun e => e) rfl rfl rfl rfl rfl rfl rfl rfl (by simp only [qf_Par]) (by simp only [qf_Mrk]) (by simp only [qf_Ls]) (by simp only [qf_Hd])
                  refine ⟨hn, hC, rs_used (v := (512, f)) hR rfl, ?_, ?_, ?_⟩
                  · simp only [rtri, qR_medium, qR_cutIn, qR_written]; exact ht
                  · simp only [qR_open]; exact ho
                  · simp only [qR_tape, qR_taped]; exact hts
              · rw [if_neg b3, if_neg b3]
                by_cases b4 : p = 4
                · refine ⟨nI lp.length, r, ?_, by rw [if_pos b4, hTR.1.1.2.1], h⟩
                  unfold m_Parts_size
                  rw [if_pos b4, hTC.1.1.2.1]; rfl
                · rw [if_neg b4, if_neg b4]
                  by_cases b5 : p = 5
                  · exact ⟨nI GP, r, by rw [if_pos b5, hN.1]; rfl, by rw [if_pos b5, hN.2.1], h⟩
                  · rw [if_neg b5, if_neg b5]
                    by_cases b6 : p = 6
                    · exact ⟨nI GM, r, by rw [if_pos b6, hN.2.2.1]; rfl, by rw [if_pos b6, hN.2.2.2], h⟩
                    · rw [if_neg b6, if_neg b6]
                      by_cases b7 : p = 7
                      · exact ⟨nI S, r, by rw [if_pos b7, w3]; rfl, by rw [if_pos b7, w4], h⟩
                      · rw [if_neg b7, if_neg b7]
                        by_cases b8 : p = 8
                        · refine ⟨nI lm.length, r, ?_, by rw [if_pos b8, bs (R_count hR hn.2 hTR.2 hL hA).1], h⟩
                          unfold m_Marks_size
                          rw [if_pos b8, hTC.2.2.1.1.1.2.1]; rfl
                        · rw [if_neg b8, if_neg b8]
                          obtain ⟨b, hb8, eb⟩ : ∃ b : Nat, b < 8 ∧ p = nI (b + 9) := by
                            rcases pk_ix p (n := 17) (by omega) with z | z | ⟨k, hk, rfl⟩
                            · exact absurd z h1
                            · exact absurd h2 (Int32.not_lt.mpr z)
                            · have q3 : ¬ k = 3 := fun e => b3 (by rw [e]; rfl)
                              have q4 : ¬ k = 4 := fun e => b4 (by rw [e]; rfl)
                              have q5 : ¬ k = 5 := fun e => b5 (by rw [e]; rfl)
                              have q6 : ¬ k = 6 := fun e => b6 (by rw [e]; rfl)
                              have q7 : ¬ k = 7 := fun e => b7 (by rw [e]; rfl)
                              have q8 : ¬ k = 8 := fun e => b8 (by rw [e]; rfl)
                              have q0 : ¬ k = 0 := fun e => b0 (by rw [e]; rfl)
                              have q1 : ¬ k = 1 := fun e => b1 (by rw [e]; rfl)
                              have q2 : ¬ k = 2 := fun e => b2 (by rw [e]; rfl)
                              have k9 : 9 ≤ k := by omega
                              exact ⟨k - 9, by omega, by rw [Nat.sub_add_cancel k9]⟩
                          have e9 : p - 9 = nI b := by
                            rw [eb, show (9 : Int32) = nI 9 by decide +kernel, pk_sub (by omega), Nat.add_sub_cancel]
                          have hg : m_Log_isGroup (nI b) = some 1 := by
                            rcases isGroup_cases (nI b) with ⟨z1, -⟩ | ⟨z1, -, -⟩
                            · unfold m_Log_isGroup at z1
                              rw [if_neg (nI_pos (by omega)), n8, if_neg (nI_ge hb8 (by omega))] at z1
                              exact absurd (Option.some.inj z1) (by decide)
                            · exact z1
                          refine ⟨ow b, r, ?_, ?_, h⟩
                          · rw [e9, bs hg, if_neg e10, w1, if_neg (nI_in (show b < 8 from hb8) (by omega)), nI_clamp (by omega)]; rfl
                          · rw [e9, w2, if_neg (nI_in (show b < 8 from hb8) (by omega)), nI_clamp (by omega)]
    · have h16 : (16 : Int32) < p := by
        rw [Int32.lt_iff_toInt_lt]
        have hh : ¬ p.toInt < Int32.toInt 17 := fun e => h2 (Int32.lt_iff_toInt_lt.mpr e)
        have a3 : Int32.toInt 16 = 16 := by decide
        have a4 : Int32.toInt 17 = 17 := by decide
        omega
      exact ⟨-2, r, by rw [if_neg h1, if_neg h2], by rw [if_neg h1, if_pos h16]; rfl, h⟩
