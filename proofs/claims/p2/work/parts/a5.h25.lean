theorem u_e197 {n : Nat} {r : St_Ref} {lp : List PQ} {L : List MKQ} (h : RT n r lp L) (kk : Int32 → Int32 → Int32 → Int32 → Option Int32) (v3 v4 v6 : Int32) {b1 b2 l1 w1 l2 w2 : Nat} (hb1 : b1 < lp.length) (hb2 : b2 < lp.length) (e1 : (rrow r b1).2.2.1 = nI l1) (x1 : l1 ≤ 155) (y1 : (rrow r b1).2.2.2.1 = nI w1) (z1 : w1 + 1 + bod l1 ≤ n) (x2 : l2 ≤ 155) (y2 : (rrow r b2).2.2.2.1 = nI w2) (z2 : w2 + 1 + bod l2 ≤ n) : ∀ (d fuel j : Nat) (v5 : Int32), is01 v5 → (v5 = 1 → l1 = l2) → j + d = l1 → d < fuel → ∃ v5', is01 v5' ∧ (v5' = 1 → v5 = 1) ∧ m_RRef_equal_L197 r kk fuel v3 v4 v5 v6 (nI b1) (nI b2) (nI j) = kk v3 v4 v5' v6 := by
  have hlp := h.2.2.1.1.2.2
  have ll : (g_RpLength r).1 = 520 := ri_pLength h.2.1
  have el : (g_RpLength r).2 b1 = nI l1 := e1
  intro d
  induction d with
  | zero =>
    intro fuel j v5 h5 he hj hf
    obtain ⟨fu, rfl, -⟩ := fu1 hf
    refine ⟨v5, h5, fun e => e, ?_⟩
    rw [m_RRef_equal_L197, ll, if_neg (nI_in (by omega) (by omega)), nI_clamp (by omega), el, if_pos (nI_le (by omega) (by omega))]
  | succ d ih =>
    intro fuel j v5 h5 he hj hf
    obtain ⟨fu, rfl, hf'⟩ := fu1 hf
    rw [m_RRef_equal_L197, ll, if_neg (nI_in (by omega) (by omega)), nI_clamp (by omega), el, if_neg (nI_ge (by omega) (by omega)), nI_1]
    by_cases z : v5 = 0
    · exact ⟨v5, h5, fun e => e, by rw [if_pos z]⟩
    · have hv : v5 = 1 := h5.resolve_left z
      have hl := he hv
      rw [if_neg z, bs (R_byteOf h.2.1 rfl h.1.2 (j := b1) (by omega) x1 y1 z1 (k := j) (by omega)), bs (R_byteOf h.2.1 rfl h.1.2 (j := b2) (by omega) x2 y2 z2 (k := j) (by omega))]
      by_cases zz : ((g_Rmedium r).2 (32 * (w1 + 1 + j / 31) + (1 + j % 31)) &&& 255) = ((g_Rmedium r).2 (32 * (w2 + 1 + j / 31) + (1 + j % 31)) &&& 255)
      · rw [if_pos zz]
        obtain ⟨v', a1, a2, a3⟩ := ih fu (j + 1) 1 (Or.inr rfl) (fun _ => hl) (by omega) (by omega)
        exact ⟨v', a1, fun _ => hv, a3⟩
      · rw [if_neg zz]
        obtain ⟨v', a1, a2, a3⟩ := ih fu (j + 1) 0 (Or.inl rfl) (fun e => absurd e (by decide)) (by omega) (by omega)
        exact ⟨v', a1, fun _ => hv, a3⟩
theorem u_fp {n : Nat} {r : St_Ref} {lp : List PQ} {L : List MKQ} (h : RT n r lp L) {v : Int32} (hq : ∃ q, q ∈ lp ∧ q.1 = v) : ∃ b, b < lp.length ∧ m_RRef_findPart r v = some (nI b) := by
  obtain ⟨q, hq1, hq2⟩ := hq
  rcases R_findPart h.2.2.1.1 v with ⟨e1, e2⟩ | ⟨b, hb, e1, e2⟩
  · obtain ⟨j, hj, e⟩ := (h.2.2.1.2.1 q).mp hq1
    exact absurd (by rw [e]; exact hq2) (e2 j hj)
  · exact ⟨b, hb, e1⟩
theorem u_e82 {n : Nat} {r : St_Ref} {lp : List PQ} {L : List MKQ} (h : RT n r lp L) {x y c : Nat} (hx : x < 270) (hy : y < 270) (hc : (g_RmCount r).2 x = nI c) (hc2 : c ≤ 12) {c' : Nat} (hq : ∀ j, j < c → ∃ q, q ∈ lp ∧ q.1 = (g_RmPart r).2 (12 * x + j)) (hq' : ∀ j, j < c' → ∃ q, q ∈ lp ∧ q.1 = (g_RmPart r).2 (12 * y + j)) : ∀ (d fuel i : Nat) (v5 : Int32), is01 v5 → (v5 = 1 → c = c') → i + d = c → d < fuel → ∃ b, m_RRef_equal_L82 r fuel (nI x) (nI y) v5 (nI i) = some b := by
  obtain ⟨hn, hR, hP, hM, f1, f2⟩ := id h
  have hlp := hP.1.2.2
  have l1 : (g_RmCount r).1 = 270 := ri_mCount hR
  have l2 : (g_RmPart r).1 = 3240 := ri_mPart hR
  have cx : (nI x).toNatClampNeg = x := nI_clamp (by omega)
  have x0 : ¬ (nI x < 0 ∨ 270 ≤ x) := by
    have := nI_in (c := x) (N := 270) (by omega) (by omega)
    rw [cx] at this
    exact this
  intro d
  induction d with
  | zero =>
    intro fuel i v5 h5 he hi hf
    obtain ⟨fu, rfl, -⟩ := fu1 hf
    rw [m_RRef_equal_L82, l1, cx, if_neg x0, hc, if_pos (nI_le (by omega) (by omega))]
    split
    · exact ⟨_, rfl⟩
    · exact ⟨_, rfl⟩
  | succ d ih =>
    intro fuel i v5 h5 he hi hf
    obtain ⟨fu, rfl, hf'⟩ := fu1 hf
    by_cases z : v5 = 0
    · rw [m_RRef_equal_L82, l1, cx, if_neg x0, hc, if_neg (nI_ge (by omega) (by omega)), if_pos z, if_pos z]
      exact ⟨_, rfl⟩
    · have hv : v5 = 1 := h5.resolve_left z
      have hcc := he hv
      obtain ⟨b1, hb1, g1⟩ := u_fp h (hq i (by omega))
      obtain ⟨b2, hb2, g2⟩ := u_fp h (hq' i (by omega))
      obtain ⟨_, _, la, wa, _, _, _, _, _, p6, p7, p8, p9, p10⟩ := f1 _ (PR_mem hP hb1)
      obtain ⟨_, _, lb, wb, _, _, _, _, _, q6, q7, q8, q9, q10⟩ := f1 _ (PR_mem hP hb2)
      have ea : (12 : Int32) * nI x + nI i = nI (12 * x + i) := by rw [n12, pk_mul, nI_add]
      have eb : (12 : Int32) * nI y + nI i = nI (12 * y + i) := by rw [n12, pk_mul, nI_add]
      have ca : (nI (12 * x + i)).toNatClampNeg = 12 * x + i := nI_clamp (by omega)
      have cb : (nI (12 * y + i)).toNatClampNeg = 12 * y + i := nI_clamp (by omega)
      have ia : ¬ (nI (12 * x + i) < 0 ∨ 3240 ≤ 12 * x + i) := by
        have := nI_in (c := 12 * x + i) (N := 3240) (by omega) (by omega)
        rw [ca] at this
        exact this
      have ib : ¬ (nI (12 * y + i) < 0 ∨ 3240 ≤ 12 * y + i) := by
        have := nI_in (c := 12 * y + i) (N := 3240) (by omega) (by omega)
        rw [cb] at this
        exact this
      have c1 : (nI b1).toNatClampNeg = b1 := nI_clamp (by omega)
      have c2 : (nI b2).toNatClampNeg = b2 := nI_clamp (by omega)
      have i1 : ∀ M, M = 520 → ¬ (nI b1 < 0 ∨ M ≤ b1) := fun M hM => by
        have := nI_in (c := b1) (N := 520) (by omega) (by omega)
        rw [c1] at this
        rw [hM]; exact this
      have i2 : ∀ M, M = 520 → ¬ (nI b2 < 0 ∨ M ≤ b2) := fun M hM => by
        have := nI_in (c := b2) (N := 520) (by omega) (by omega)
        rw [c2] at this
        rw [hM]; exact this
      have lg : (g_RpGroup r).1 = 520 := ri_pGroup hR
      have lo : (g_RpPosition r).1 = 520 := ri_pPosition hR
      have ll : (g_RpLength r).1 = 520 := ri_pLength hR
      have p6' : (g_RpLength r).2 b1 = nI la := p6
      have q6' : (g_RpLength r).2 b2 = nI lb := q6
      have go : ∀ v : Int32, is01 v → (v = 1 → la = lb) → ∃ b, m_RRef_equal_L197 r (fun (v3_49 : Int32) (v4_50 : Int32) (v5_51 : Int32) (v6_52 : Int32) => m_RRef_equal_L82 r fu v3_49 v4_50 v5_51 (v6_52 + 1)) FU (nI x) (nI y) v (nI i) (nI b1) (nI b2) 0 = some b := by
        intro v hv1 hv2
        obtain ⟨v', a1, a2, a3⟩ := u_e197 h (fun (v3_49 : Int32) (v4_50 : Int32) (v5_51 : Int32) (v6_52 : Int32) => m_RRef_equal_L82 r fu v3_49 v4_50 v5_51 (v6_52 + 1)) (nI x) (nI y) (nI i) hb1 hb2 p6 p7 p8 p10 q7 q8 q10 la FU 0 v hv1 hv2 (by omega) (FU_lt (by omega))
        obtain ⟨b, hb⟩ := ih fu (i + 1) v' a1 (fun _ => hcc) (by omega) (by omega)
        refine ⟨b, Eq.trans a3 ?_⟩
        show m_RRef_equal_L82 r fu (nI x) (nI y) v' (nI i + 1) = some b
        rw [nI_1]; exact hb
      rw [m_RRef_equal_L82, l1, cx, if_neg x0, hc, if_neg (nI_ge (by omega) (by omega)), if_neg z, ea, eb, l2, ca, cb, if_neg ia, bs g1, if_neg ib, bs g2, c1, c2, if_neg (i1 _ lg), if_neg (i2 _ lg)]
      by_cases w1 : (g_RpGroup r).2 b1 = (g_RpGroup r).2 b2
      · rw [if_pos w1, if_neg (i1 _ lo), if_neg (i2 _ lo)]
        by_cases w2 : lg_cmp ((g_RpPosition r).2 b1) ((g_RpPosition r).2 b2) = 0
        · rw [if_pos w2, if_neg (i1 _ ll), if_neg (i2 _ ll)]
          by_cases w3 : (g_RpLength r).2 b1 = (g_RpLength r).2 b2
          · rw [if_pos w3]
            exact go 1 (Or.inr rfl) (fun _ => by
              rw [p6', q6'] at w3
              exact (nI_eq (by omega) (by omega)).mp w3)
          · rw [if_neg w3]
            exact go 0 (Or.inl rfl) (fun e => absurd e (by decide))
        · rw [if_neg w2]
          exact go 0 (Or.inl rfl) (fun e => absurd e (by decide))
      · rw [if_neg w1]
        exact go 0 (Or.inl rfl) (fun e => absurd e (by decide))
-- CALLS THAT ARE ONLY ANSWERED
theorem CT_of {n : Nat} {g : St_Log} {lp : List PQ} {lk lm : List MKQ} {GP GM : Nat} (hn : 4 ≤ n ∧ n ≤ 512) (hC : CI n g) (hTC : TabC n g lp lk lm) (hA : Abs n lp lk lm GP GM) : CT n g lp lk lm := ⟨hn, hC, hTC.1, hTC.2.1, hTC.2.2.1, fun q hq => (hA.1 q hq).1, fun m hm => (hA.2.1 m hm).1, fun m hm => (hA.2.2.1 m hm).1⟩
theorem RT_of {n : Nat} {r : St_Ref} {lp : List PQ} {lk lm L : List MKQ} {GP GM : Nat} (hn : 4 ≤ n ∧ n ≤ 512) (hR : RI n r) (hTR : TabR r lp L) (hL : L.Perm (lk ++ lm)) (hA : Abs n lp lk lm GP GM) : RT n r lp L := by
  refine ⟨hn, hR, hTR.1, hTR.2, fun q hq => (hA.1 q hq).1, fun m hm => ?_⟩
  rcases List.mem_append.mp (hL.mem_iff.mp hm) with z | z
  · exact Or.inl (hA.2.1 _ z).1
  · exact Or.inr (hA.2.2.1 _ z).1
theorem st_usable {n : Nat} {g : St_Log} {r : St_Ref} (h : Rel n g r) : ∃ a b, m_Log_usable g = some a ∧ m_RRef_usable r = some b := by
  obtain ⟨⟨hn, hC, hR, ht, ho, hts⟩, hT⟩ := id h
  unfold m_Log_usable m_RRef_usable
  by_cases hop : g_isOpen g = 0
  · exact ⟨-3, -3, by rw [if_pos hop], by rw [if_pos (by rw [← ho]; exact hop)]⟩
  · have ho1 := open_1 hC hop
    have hop' : ¬ g_Ropen r = 0 := by rw [← ho]; exact hop
    obtain ⟨lp, lk, lm, L, GP, GM, hTC, hTR, hL, hA, hN, hH⟩ := hT ho1
    have hct := CT_of hn hC hTC hA
    have hrt := RT_of hn hR hTR hL hA
    have h1 := hTC.2.1.1.1.2.2
    have hl := hTR.2.2.1
    have hsz : m_Marks_size (g_kept g) = some (nI lk.length) := by unfold m_Marks_size; rw [hTC.2.1.1.1.2.1]
    obtain ⟨b, hb⟩ := t_usL hct lk.length FU (nI lk.length - 1) (Nat.le_refl _) (by
      by_cases h0 : lk.length = 0
      · left
        rw [h0]
        exact ⟨rfl, by decide⟩
      · right
        exact ⟨by omega, by rw [n1, pk_sub (by omega)]⟩) (FU_lt (by omega))
    obtain ⟨b', hb'⟩ := u_us_L hrt L.length FU 0 (-1) (by omega) (FU_lt (by omega))
    exact ⟨b, b', by rw [if_neg hop, bs hsz]; exact hb, by rw [if_neg hop']; exact hb'⟩
theorem R_fm_mr {n : Nat} {r : St_Ref} {L : List MKQ} (hR : RI n r) (hM : MR r L) (v : Int32) : m_RRef_findMark r v = some (-1) ∨ ∃ k, k < L.length ∧ m_RRef_findMark r v = some (nI k) := by
  rcases R_findMark hR hM.1 hM.2.1 v with ⟨e, -⟩ | ⟨k, hk, e, -⟩
  · exact Or.inl e
  · exact Or.inr ⟨k, hk, e⟩
theorem st_whole {n : Nat} {g : St_Log} {r : St_Ref} (h : Rel n g r) (v : Int32) : ∃ a b, m_Log_whole g v = some a ∧ m_RRef_whole r v = some b := by
  obtain ⟨⟨hn, hC, hR, ht, ho, hts⟩, hT⟩ := id h
  unfold m_Log_whole m_RRef_whole
  by_cases hop : g_isOpen g = 0
  · obtain ⟨b, hb⟩ := R_fm_any hR v
    exact ⟨-3, -3, by rw [if_pos hop], by rw [bs hb, if_pos (by rw [← ho]; exact hop)]⟩
  · have ho1 := open_1 hC hop
    have hop' : ¬ g_Ropen r = 0 := by rw [← ho]; exact hop
    obtain ⟨lp, lk, lm, L, GP, GM, hTC, hTR, hL, hA, hN, hH⟩ := hT ho1
    have hct := CT_of hn hC hTC hA
    have hrt := RT_of hn hR hTR hL hA
    have hl := hTR.2.2.1
    have c1 : ∃ a : Int32, (if g_isOpen g = 0 then some (-3) else ((m_Log_tableOf g v).bind fun q2 => if q2 = 1 then ((m_Log_isMarkWhole g v).bind fun q4 => if q4 = 0 then (some 0) else (some 1)) else if q2 = 2 then ((m_Log_isMarkWhole g v).bind fun q7 => if q7 = 0 then (some 0) else (some 1)) else some (-1))) = some a := by
      obtain ⟨a, ha, -⟩ := t_tableOf hct v
      obtain ⟨b, hb⟩ := t_markWhole hct v
      rw [if_neg hop, bs ha]
      split
      · rw [bs hb]
        split
        · exact ⟨_, rfl⟩
        · exact ⟨_, rfl⟩
      · split
        · rw [bs hb]
          split
          · exact ⟨_, rfl⟩
          · exact ⟨_, rfl⟩
        · exact ⟨_, rfl⟩
    obtain ⟨a, ha⟩ := c1
    rcases R_fm_mr hR hTR.2 v with e | ⟨k, hk, e⟩
    · exact ⟨a, -1, ha, by rw [bs e, if_neg hop', if_pos rfl]⟩
    · obtain ⟨c, c1, c2, hc⟩ := u_cnt hrt hk
      obtain ⟨u, hu, -⟩ := u_wM hrt hk hc c2
      by_cases z : u = 0
      · exact ⟨a, 0, ha, by rw [bs e, if_neg hop', if_neg (nI_m1 (by omega)), bs hu, if_pos z]⟩
      · exact ⟨a, 1, ha, by rw [bs e, if_neg hop', if_neg (nI_m1 (by omega)), bs hu, if_neg z]⟩
theorem Rel_sav {n : Nat} {g : St_Log} {r : St_Ref} (h : Rel n g r) {x : St_Bytes} (hx : BBe 2002 x) : Rel n (s_savepoint g x) r := by
  refine Rel_fr h ?_ (fun e => e) rfl rfl rfl rfl rfl rfl rfl rfl rfl rfl rfl rfl
  obtain ⟨⟨hn, hC, hR, ht, ho, hts⟩, -⟩ := h
  refine ⟨hn, cs_savepoint hC hx, hR, ?_, ?_, ?_⟩
  · simp only [q_medium]; exact ht
  · simp only [q_isOpen]; exact ho
  · simp only [q_tape]; exact hts
theorem Rel_oth {n : Nat} {g : St_Log} {r : St_Ref} (h : Rel n g r) {x : St_Bytes} (hx : BBe 2002 x) : Rel n (s_otherSavepoint g x) r := by
  refine Rel_fr h ?_ (fun e => e) rfl rfl rfl rfl rfl rfl rfl rfl rfl rfl rfl rfl
  obtain ⟨⟨hn, hC, hR, ht, ho, hts⟩, -⟩ := h
  refine ⟨hn, cs_otherSavepoint hC hx, hR, ?_, ?_, ?_⟩
  · simp only [q_medium]; exact ht
  · simp only [q_isOpen]; exact ho
  · simp only [q_tape]; exact hts
theorem Rel_spt {n : Nat} {g : St_Log} {r : St_Ref} (h : Rel n g r) {X : AI} (hx : X.1 = 2010) : Rel n g (s_Rspoint r X) := by
  refine Rel_fr h ?_ (fun e => e) rfl rfl rfl rfl rfl rfl rfl rfl (by simp only [qf_Par]) (by simp only [qf_Mrk]) (by simp only [qf_Ls]) (by simp only [qf_Hd])
  obtain ⟨⟨hn, hC, hR, ht, ho, hts⟩, -⟩ := h
  refine ⟨hn, hC, rs_spoint (v := X) hR hx, ?_, ?_, ?_⟩
  · simp only [rtri, qR_medium, qR_cutIn, qR_written]; exact ht
  · simp only [qR_open]; exact ho
  · simp only [qR_tape, qR_taped]; exact hts
theorem st_out {n : Nat} {g : St_Log} {r : St_Ref} (h : Rel n g r) (v p : Int32) : ∃ a b g' r', m_Log_out g v p = some (a, g') ∧ m_RRef_out r v p = some (b, r') ∧ Rel n g' r' := by
  obtain ⟨⟨hn, hC, hR, ht, ho, hts⟩, hT⟩ := id h
  unfold m_Log_out m_RRef_out
  by_cases hop : g_isOpen g = 0
  · obtain ⟨b, hb⟩ := R_fm_any hR v
    exact ⟨-3, -3, g, r, by rw [if_pos hop], by rw [bs hb, if_pos (by rw [← ho]; exact hop)], h⟩
  · have ho1 := open_1 hC hop
    have hop' : ¬ g_Ropen r = 0 := by rw [← ho]; exact hop
    obtain ⟨lp, lk, lm, L, GP, GM, hTC, hTR, hL, hA, hN, hH⟩ := hT ho1
    have hct := CT_of hn hC hTC hA
    have hrt := RT_of hn hR hTR hL hA
    have hl := hTR.2.2.1
    obtain ⟨x', d1, d2⟩ := t_draw_savepoint hct v
    have tail : ∃ a, (if p = (-1) then ((m_Bytes_size (g_savepoint (s_savepoint g x'))).bind fun q12 => some (q12, s_savepoint g x')) else (if p < 0 then (some ((-1), s_savepoint g x')) else ((m_Bytes_size (g_savepoint (s_savepoint g x'))).bind fun q9 => if q9 ≤ p then (some ((-1), s_savepoint g x')) else ((m_Bytes_at (g_savepoint (s_savepoint g x')) p).bind fun q11 => some (q11, s_savepoint g x'))))) = some (a, s_savepoint g x') := by
      obtain ⟨s, hs⟩ := id d2
      have hsz : m_Bytes_size (g_savepoint (s_savepoint g x')) = some (nI s) := by simp only [q_savepoint]; unfold m_Bytes_size; rw [hs.2.1]
      obtain ⟨w, hw⟩ := b_at (x := g_savepoint (s_savepoint g x')) (by simp only [q_savepoint]; rw [hs.1]; omega) p
      split
      · exact ⟨_, by rw [bs hsz]⟩
      · split
        · exact ⟨_, rfl⟩
        · rw [bs hsz]
          split
          · exact ⟨_, rfl⟩
          · exact ⟨_, by rw [bs hw]⟩
    obtain ⟨ta, hta⟩ := tail
    have c1 : ∃ a g', (if g_isOpen g = 0 then some ((-3), g) else ((m_Log_tableOf g v).bind fun q2 => if q2 = 1 then ((m_Log_isMarkWhole g v).bind fun q4 => if q4 = 0 then (some ((-2), g)) else ((m_Log_drawSavepoint_savepoint g v).bind fun q6 => if p = (-1) then ((m_Bytes_size (g_savepoint q6)).bind fun q12 => some (q12, q6)) else (if p < 0 then (some ((-1), q6)) else ((m_Bytes_size (g_savepoint q6)).bind fun q9 => if q9 ≤ p then (some ((-1), q6)) else ((m_Bytes_at (g_savepoint q6) p).bind fun q11 => some (q11, q6)))))) else if q2 = 2 then ((m_Log_isMarkWhole g v).bind fun q14 => if q14 = 0 then (some ((-2), g)) else ((m_Log_drawSavepoint_savepoint g v).bind fun q16 => if p = (-1) then ((m_Bytes_size (g_savepoint q16)).bind fun q22 => some (q22, q16)) else (if p < 0 then (some ((-1), q16)) else ((m_Bytes_size (g_savepoint q16)).bind fun q19 => if q19 ≤ p then (some ((-1), q16)) else ((m_Bytes_at (g_savepoint q16) p).bind fun q21 => some (q21, q16)))))) else some ((-1), g))) = some (a, g') ∧ (g' = g ∨ g' = s_savepoint g x') := by
      obtain ⟨a, ha, -⟩ := t_tableOf hct v
      obtain ⟨b, hb⟩ := t_markWhole hct v
      rw [if_neg hop, bs ha]
      by_cases q1 : a = 1
      · rw [if_pos q1, bs hb]
        by_cases q2 : b = 0
        · rw [if_pos q2]; exact ⟨_, _, rfl, Or.inl rfl⟩
        · rw [if_neg q2, bs d1]
          exact ⟨_, _, hta, Or.inr rfl⟩
      · rw [if_neg q1]
        by_cases q3 : a = 2
        · rw [if_pos q3, bs hb]
          by_cases q2 : b = 0
          · rw [if_pos q2]; exact ⟨_, _, rfl, Or.inl rfl⟩
          · rw [if_neg q2, bs d1]
            exact ⟨_, _, hta, Or.inr rfl⟩
        · rw [if_neg q3]; exact ⟨_, _, rfl, Or.inl rfl⟩
    obtain ⟨a, g', ha, hg'⟩ := c1
    have hrel : Rel n g' r := by
      rcases hg' with rfl | rfl
      · exact h
      · exact Rel_sav h d2
    rcases R_fm_mr hR hTR.2 v with e | ⟨k, hk, e⟩
    · exact ⟨a, -1, g', r, ha, by rw [bs e, if_neg hop', if_pos rfl], hrel⟩
    · obtain ⟨c, c1, c2, hc⟩ := u_cnt hrt hk
      obtain ⟨u, hu, u1, u2⟩ := u_wM hrt hk hc c2
      by_cases z : u = 0
      · exact ⟨a, -2, g', r, ha, by rw [bs e, if_neg hop', if_neg (nI_m1 (by omega)), bs hu, if_pos z], hrel⟩
      · have hu1 : u = 1 := u1.resolve_left z
        obtain ⟨s', X, y1, y2, y3⟩ := u_savepoint hrt hk hc c2 (u2 hu1)
        rw [bs e, if_neg hop', if_neg (nI_m1 (by omega)), bs hu, if_neg z, bs y1]
        simp only
        by_cases zp : p = (-1)
        · exact ⟨a, _, g', _, ha, by rw [if_pos zp], Rel_spt hrel y2⟩
        · rw [if_neg zp]
          unfold m_RRef_isIn
          by_cases z1 : p < 0
          · exact ⟨a, -1, g', _, ha, by rw [if_pos z1]; rfl, Rel_spt hrel y2⟩
          · by_cases z2 : nI s' - 1 < p
            · exact ⟨a, -1, g', _, ha, by rw [if_neg z1, if_pos z2]; rfl, Rel_spt hrel y2⟩
            · rcases pk_ix p (n := 2010) (by omega) with w | w | ⟨k2, hk2, rfl⟩
              · exact absurd w z1
              · exfalso
                apply z2
                refine Int32.lt_of_lt_of_le ?_ w
                by_cases s0 : s' = 0
                · rw [s0]; decide +kernel
                · rw [n1, pk_sub (by omega)]
                  exact nI_lt (by omega) (by omega)
              · refine ⟨a, (X.2 k2) &&& 255, g', s_Rspoint r X, ha, ?_, Rel_spt hrel y2⟩
                rw [if_neg z1, if_neg z2, Option.bind_some, if_neg e10]
                simp only [qR_spoint]
                rw [y2, if_neg (nI_in hk2 (by omega)), nI_clamp (by omega)]
theorem t_same {x y : St_Bytes} (hx : x.1.1 < 2 ^ 31) (hy : y.1.1 < 2 ^ 31) {s : Nat} (hs : x.2 = nI s) (hs2 : s ≤ 2002) : ∃ v, m_Bytes_isSame x y = some v := by
  have key : ∀ (d fuel j : Nat), j + d = s → d < fuel → ∃ v, m_Bytes_isSame_L19 x y fuel (nI j) = some v := by
    intro d
    induction d with
    | zero =>
      intro fuel j hj hf
      obtain ⟨fu, rfl, -⟩ := fu1 hf
      exact ⟨1, by rw [m_Bytes_isSame_L19, hs, if_pos (nI_le (by omega) (by omega))]⟩
    | succ d ih =>
      intro fuel j hj hf
      obtain ⟨fu, rfl, hf'⟩ := fu1 hf
      obtain ⟨a, ha⟩ := b_at hx (nI j)
      obtain ⟨b, hb⟩ := b_at hy (nI j)
      rw [m_Bytes_isSame_L19, hs, if_neg (nI_ge (by omega) (by omega)), bs ha, bs hb, nI_1]
      split
      · exact ih fu (j + 1) (by omega) (by omega)
      · exact ⟨_, rfl⟩
  unfold m_Bytes_isSame
  split
  · exact key s FU 0 (by omega) (FU_lt (by omega))
  · exact ⟨_, rfl⟩
