-- THE REFERENCE ANSWERS: whole, usable, out, equal
def RT (n : Nat) (r : St_Ref) (lp : List PQ) (L : List MKQ) : Prop := (4 ≤ n ∧ n ≤ 512) ∧ RI n r ∧ PR r lp ∧ MR r L ∧ (∀ q, q ∈ lp → FitP n q) ∧ ∀ m, m ∈ L → FitK n m ∨ FitM m
theorem u_part {n : Nat} {r : St_Ref} {lp : List PQ} {L : List MKQ} (h : RT n r lp L) {k : Nat} (hk : k < lp.length) : ∃ v, m_RRef_isWholePart r (nI k) = some v := by
  obtain ⟨hn, hR, hP, hM, f1, f2⟩ := h
  obtain ⟨_, _, l, w, _, _, _, _, _, p6, p7, p8, p9, p10⟩ := f1 _ (PR_mem hP hk)
  exact ⟨_, R_isWholePart hR rfl hn.2 hP hk p6 p7 p8 p10⟩
theorem u_wM_L {n : Nat} {r : St_Ref} {lp : List PQ} {L : List MKQ} (h : RT n r lp L) {k c : Nat} (hk : k < 270) (hc : (g_RmCount r).2 k = nI c) (hc2 : c ≤ 12) (v2 : Int32) : ∀ (d fuel i : Nat) (v3 : Int32), is01 v3 → i + d = c → d < fuel → ∃ v, m_RRef_isWholeMark_L37 r fuel (nI k) v2 v3 (nI i) = some v ∧ is01 v ∧ (v = 1 → v3 = 1 ∧ ∀ j, i ≤ j → j < c → ∃ q, q ∈ lp ∧ q.1 = (g_RmPart r).2 (12 * k + j)) := by
  obtain ⟨hn, hR, hP, hM, f1, f2⟩ := id h
  have hlp := hP.1.2.2
  have l1 : (g_RmCount r).1 = 270 := ri_mCount hR
  have l2 : (g_RmPart r).1 = 3240 := ri_mPart hR
  have l3 : (g_RmPartRow r).1 = 3240 := ri_mPartRow hR
  have l4 : (g_RmPartDigest r).1 = 3240 := ri_mPartDigest hR
  have l5 : (g_RpRow r).1 = 520 := ri_pRow hR
  have l6 : (g_Rmedium r).1 = 16384 := (ri_medium hR).1
  have ck : (nI k).toNatClampNeg = k := nI_clamp (by omega)
  have k0 : ¬ (nI k < 0 ∨ 270 ≤ k) := by
    have := nI_in (c := k) (N := 270) (by omega) (by omega)
    rw [ck] at this
    exact this
  intro d
  induction d with
  | zero =>
    intro fuel i v3 h3 hi hf
    obtain ⟨fu, rfl, -⟩ := fu1 hf
    refine ⟨v3, ?_, h3, fun e => ⟨e, fun j h1 h2 => absurd h2 (by omega)⟩⟩
    rw [m_RRef_isWholeMark_L37, l1, ck, if_neg k0, hc, if_pos (nI_le (by omega) (by omega)), if_neg (fun z => z h3)]
  | succ d ih =>
    intro fuel i v3 h3 hi hf
    obtain ⟨fu, rfl, hf'⟩ := fu1 hf
    have e0 : (12 : Int32) * nI k + nI i = nI (12 * k + i) := by rw [n12, pk_mul, nI_add]
    have c1 : (nI (12 * k + i)).toNatClampNeg = 12 * k + i := nI_clamp (by omega)
    have i1 : ¬ (nI (12 * k + i) < 0 ∨ 3240 ≤ 12 * k + i) := by
      have := nI_in (c := 12 * k + i) (N := 3240) (by omega) (by omega)
      rw [c1] at this
      exact this
    rw [m_RRef_isWholeMark_L37, l1, l2, l3, l4, l5, ck, if_neg k0, hc, if_neg (nI_ge (by omega) (by omega)), e0, c1, nI_1]
    by_cases hz : v3 = 0
    · exact ⟨v3, by rw [if_pos hz, if_neg (fun z => z h3)], h3, fun e => absurd e (by rw [hz]; decide)⟩
    · have hv3 : v3 = 1 := h3.resolve_left hz
      rw [if_neg hz, if_neg i1]
      have go : ∀ (v : Int32), is01 v → (∃ q, q ∈ lp ∧ q.1 = (g_RmPart r).2 (12 * k + i)) ∨ v = 0 → ∃ v', m_RRef_isWholeMark_L37 r fu (nI k) v2 v (nI (i + 1)) = some v' ∧ is01 v' ∧ (v' = 1 → v3 = 1 ∧ ∀ j, i ≤ j → j < c → ∃ q, q ∈ lp ∧ q.1 = (g_RmPart r).2 (12 * k + j)) := by
        intro v hv hq
        obtain ⟨v', a1, a2, a3⟩ := ih fu (i + 1) v hv (by omega) (by omega)
        refine ⟨v', a1, a2, fun e => ⟨hv3, fun j j1 j2 => ?_⟩⟩
        obtain ⟨b1, b2⟩ := a3 e
        by_cases hj : j = i
        · rw [hj]
          exact hq.resolve_right (fun z => absurd b1 (by rw [z]; decide))
        · exact b2 j (by omega) j2
      rcases R_findPart hP.1 ((g_RmPart r).2 (12 * k + i)) with ⟨e, -⟩ | ⟨b, hb, e, eb⟩
      · rw [bs e, if_pos rfl]
        exact go 0 (Or.inl rfl) (Or.inr rfl)
      · have hq : ∃ q, q ∈ lp ∧ q.1 = (g_RmPart r).2 (12 * k + i) := ⟨_, PR_mem hP hb, eb⟩
        obtain ⟨u, hu⟩ := u_part h hb
        have cb : (nI b).toNatClampNeg = b := nI_clamp (by omega)
        have b0 : ¬ (nI b < 0 ∨ 520 ≤ b) := by
          have := nI_in (c := b) (N := 520) (by omega) (by omega)
          rw [cb] at this
          exact this
        rw [bs e, if_neg (nI_m1 (by omega)), bs hu, cb]
        by_cases z1 : u = 0
        · rw [if_pos z1]
          exact go 0 (Or.inl rfl) (Or.inr rfl)
        · rw [if_neg z1]
          by_cases z2 : v2 = 0
          · rw [if_pos z2]
            exact go 1 (Or.inr rfl) (Or.inl hq)
          · rw [if_neg z2, if_neg b0, if_neg i1]
            by_cases z3 : (g_RpRow r).2 b = (g_RmPartRow r).2 (12 * k + i)
            · obtain ⟨_, _, l, w, _, _, _, _, _, p6, p7, p8, p9, p10⟩ := f1 _ (PR_mem hP hb)
              have er : (g_RpRow r).2 b = nI w := p8
              have hnum : m_RRef_number (g_Rmedium r) (32 * (g_RpRow r).2 b + 16) 8 = some (numF (g_Rmedium r).2 (32 * w + 16) 8) := by
                rw [er, n32, pk_mul, n16, nI_add, n8]
                exact r_number (by rw [l6]; omega) (by rw [l6]; omega) (by omega)
              rw [if_pos z3, if_neg b0, bs hnum, if_neg i1]
              by_cases z4 : lg_cmp (numF (g_Rmedium r).2 (32 * w + 16) 8) ((g_RmPartDigest r).2 (12 * k + i)) = 0
              · rw [if_pos z4]
                exact go 1 (Or.inr rfl) (Or.inl hq)
              · rw [if_neg z4]
                exact go 0 (Or.inl rfl) (Or.inr rfl)
            · rw [if_neg z3]
              exact go 0 (Or.inl rfl) (Or.inr rfl)
theorem u_cnt {n : Nat} {r : St_Ref} {lp : List PQ} {L : List MKQ} (h : RT n r lp L) {k : Nat} (hk : k < L.length) : ∃ c : Nat, 1 ≤ c ∧ c ≤ 12 ∧ (g_RmCount r).2 k = nI c := by
  obtain ⟨c, c1, c2, e⟩ := h.2.2.2.1.2.2.2 _ (MR_mem h.2.2.2.1 hk)
  exact ⟨c, c1, c2, e⟩
theorem u_wM {n : Nat} {r : St_Ref} {lp : List PQ} {L : List MKQ} (h : RT n r lp L) {k c : Nat} (hk : k < L.length) (hc : (g_RmCount r).2 k = nI c) (hc2 : c ≤ 12) : ∃ v, m_RRef_isWholeMark r (nI k) = some v ∧ is01 v ∧ (v = 1 → ∀ j, j < c → ∃ q, q ∈ lp ∧ q.1 = (g_RmPart r).2 (12 * k + j)) := by
  obtain ⟨hn, hR, hP, hM, f1, f2⟩ := id h
  have hL := hM.2.1
  have ck : (nI k).toNatClampNeg = k := nI_clamp (by omega)
  have k0 : ¬ (nI k < 0 ∨ 270 ≤ k) := by
    have := nI_in (c := k) (N := 270) (by omega) (by omega)
    rw [ck] at this
    exact this
  have fin : ∀ v2 v3 : Int32, is01 v3 → ∃ v, m_RRef_isWholeMark_L37 r FU (nI k) v2 v3 0 = some v ∧ is01 v ∧ (v = 1 → ∀ j, j < c → ∃ q, q ∈ lp ∧ q.1 = (g_RmPart r).2 (12 * k + j)) := by
    intro v2 v3 h3
    obtain ⟨v, a1, a2, a3⟩ := u_wM_L h (k := k) (by omega) hc hc2 v2 c FU 0 v3 h3 (by omega) (FU_lt (by omega))
    exact ⟨v, a1, a2, fun e j hj => (a3 e).2 j (by omega) hj⟩
  unfold m_RRef_isWholeMark
  rw [show (g_RmRow r).1 = 270 from ri_mRow hR, ck, if_neg k0]
  rcases f2 _ (MR_mem hM hk) with ⟨_, c', w, _, _, _, p4, p5, p6, p7, p8, p9⟩ | ⟨_, _, _, _, _, _, _, _, p7, _⟩
  · have er : (g_RmRow r).2 k = nI w := p7
    rw [er, if_neg (nI_m1 (by omega)), bs (R_isAsFound hR rfl hn.2 (k := k) (by omega) p4 p6 p7 p9)]
    split
    · exact fin 1 0 (Or.inl rfl)
    · exact fin 1 1 (Or.inr rfl)
  · have er : (g_RmRow r).2 k = (-1) := p7
    rw [er, if_pos rfl]
    exact fin 0 1 (Or.inr rfl)
theorem u_us_L {n : Nat} {r : St_Ref} {lp : List PQ} {L : List MKQ} (h : RT n r lp L) : ∀ (d fuel k : Nat) (v : Int32), k + d = L.length → d < fuel → ∃ b, m_RRef_usable_L14 r fuel v (nI k) = some b := by
  obtain ⟨hn, hR, hP, hM, f1, f2⟩ := id h
  have hL := hM.2.1
  intro d
  induction d with
  | zero =>
    intro fuel k v hk hf
    obtain ⟨fu, rfl, -⟩ := fu1 hf
    exact ⟨v, by rw [m_RRef_usable_L14, hM.1, if_pos (nI_le (by omega) (by omega))]⟩
  | succ d ih =>
    intro fuel k v hk hf
    obtain ⟨fu, rfl, hf'⟩ := fu1 hf
    have ck : (nI k).toNatClampNeg = k := nI_clamp (by omega)
    have k0 : ¬ (nI k < 0 ∨ 270 ≤ k) := by
      have := nI_in (c := k) (N := 270) (by omega) (by omega)
      rw [ck] at this
      exact this
    obtain ⟨c, c1, c2, hc⟩ := u_cnt h (k := k) (by omega)
    obtain ⟨u, hu, -⟩ := u_wM h (k := k) (by omega) hc c2
    rw [m_RRef_usable_L14, hM.1, if_neg (nI_ge (by omega) (by omega)), show (g_RmRow r).1 = 270 from ri_mRow hR, show (g_RmNumber r).1 = 270 from ri_mNumber hR, ck, if_neg k0, nI_1]
    have go := fun v => ih fu (k + 1) v (by omega) (by omega)
    by_cases z1 : (g_RmRow r).2 k = (-1)
    · rw [if_pos z1]; exact go _
    · rw [if_neg z1, if_neg k0]
      by_cases z2 : (g_RmNumber r).2 k ≤ v
      · rw [if_pos z2]; exact go _
      · rw [if_neg z2, bs hu]
        by_cases z3 : u = 0
        · rw [if_pos z3]; exact go _
        · rw [if_neg z3, if_neg k0]; exact go _
theorem sr_spoint (r : St_Ref) (a b : AI) : s_Rspoint (s_Rspoint r a) b = s_Rspoint r b := rfl
theorem u_byte {n : Nat} {r : St_Ref} {lp : List PQ} {L : List MKQ} (h : RT n r lp L) {X : AI} {b l w k : Nat} (hb : b < lp.length) (hl : l ≤ 155) (hw : (rrow r b).2.2.2.1 = nI w) (hw2 : w + 1 + bod l ≤ n) (hk : k < l) (hX : X.1 = 2010) : ∃ v, m_RRef_byteOf (s_Rspoint r X) (nI b) (nI k) = some v := by
  have hlp := h.2.2.1.1.2.2
  refine ⟨_, R_byteOf (n := n) (r := s_Rspoint r X) (f := (g_Rmedium r).2) (rs_spoint (v := X) h.2.1 hX) (by simp only [qR_medium]) h.1.2 (by omega) hl (w := w) ?_ hw2 hk⟩
  show (g_RpRow (s_Rspoint r X)).2 b = nI w
  simp only [qR_pRow]
  exact hw
theorem u_s111 {n : Nat} {r : St_Ref} {lp : List PQ} {L : List MKQ} (h : RT n r lp L) (kk : St_Ref → Int32 → Int32 → Int32 → Option (Int32 × St_Ref)) (v1 v3 : Int32) {b l w : Nat} (hb : b < lp.length) (hl0 : (rrow r b).2.2.1 = nI l) (hl : l ≤ 155) (hw : (rrow r b).2.2.2.1 = nI w) (hw2 : w + 1 + bod l ≤ n) : ∀ (d fuel j s : Nat) (f : Nat → Int32), s + d ≤ 2010 → j + d = l → d < fuel → ∃ f', m_RRef_savepoint_L111 kk fuel (s_Rspoint r (2010, f)) v1 (nI s) v3 (nI b) (nI j) = kk (s_Rspoint r (2010, f')) v1 (nI (s + d)) v3 := by
  have hlp := h.2.2.1.1.2.2
  have ll : (g_RpLength r).1 = 520 := ri_pLength h.2.1
  have el : (g_RpLength r).2 b = nI l := hl0
  intro d
  induction d with
  | zero =>
    intro fuel j s f hs hj hf
    obtain ⟨fu, rfl, -⟩ := fu1 hf
    refine ⟨f, ?_⟩
    rw [m_RRef_savepoint_L111]
    simp only [qR_pLength]
    rw [ll, if_neg (nI_in (by omega) (by omega)), nI_clamp (by omega), el, if_pos (nI_le (by omega) (by omega))]; rfl
  | succ d ih =>
    intro fuel j s f hs hj hf
    obtain ⟨fu, rfl, hf'⟩ := fu1 hf
    obtain ⟨v, hv⟩ := u_byte h (X := (2010, f)) hb hl hw hw2 (k := j) (by omega) rfl
    obtain ⟨f', a1⟩ := ih fu (j + 1) (s + 1) (upd f s (vp_nar .byte (v.toInt8.toInt32))) (by omega) (by omega) (by omega)
    refine ⟨f', ?_⟩
    rw [m_RRef_savepoint_L111]
    simp only [qR_pLength, qR_spoint]
    rw [ll, if_neg (nI_in (by omega) (by omega)), nI_clamp (show b < 2 ^ 31 by omega), el, if_neg (nI_ge (by omega) (by omega)), bs hv, if_neg (nI_in (show s < 2010 by omega) (by omega)), nI_clamp (show s < 2 ^ 31 by omega), nI_1 s, nI_1 j, sr_spoint, show s + (d + 1) = s + 1 + d by omega]
    exact a1
theorem u_s25 {n : Nat} {r : St_Ref} {lp : List PQ} {L : List MKQ} (h : RT n r lp L) {k c : Nat} (hk : k < 270) (hc : (g_RmCount r).2 k = nI c) (hc2 : c ≤ 12) (hq : ∀ j, j < c → ∃ q, q ∈ lp ∧ q.1 = (g_RmPart r).2 (12 * k + j)) : ∀ (d fuel i s : Nat) (f : Nat → Int32), s + 166 * d ≤ 1994 → i + d = c → d < fuel → ∃ s' X, m_RRef_savepoint_L25 fuel (s_Rspoint r (2010, f)) (nI k) (nI s) (nI i) = some (nI s', s_Rspoint r X) ∧ X.1 = 2010 ∧ s' ≤ 2002 := by
  obtain ⟨hn, hR, hP, hM, f1, f2⟩ := id h
  have hlp := hP.1.2.2
  have l1 : (g_RmCount r).1 = 270 := ri_mCount hR
  have l2 : (g_RmPart r).1 = 3240 := ri_mPart hR
  have l3 : (g_RpGroup r).1 = 520 := ri_pGroup hR
  have l4 : (g_RpPosition r).1 = 520 := ri_pPosition hR
  have l5 : (g_RpLength r).1 = 520 := ri_pLength hR
  have ck : (nI k).toNatClampNeg = k := nI_clamp (by omega)
  have k0 : ¬ (nI k < 0 ∨ 270 ≤ k) := by
    have := nI_in (c := k) (N := 270) (by omega) (by omega)
    rw [ck] at this
    exact this
  intro d
  induction d with
  | zero =>
    intro fuel i s f hs hi hf
    obtain ⟨fu, rfl, -⟩ := fu1 hf
    have a1 : m_RRef_digest (2010, f) 0 (nI s) = some (digF f 0 s) := r_digest (x := (2010, f)) (a := 0) (K := s) (by show 0 + s ≤ 2010; omega) (by show 2010 < 2 ^ 31; omega) (by omega)
    have a2 : m_RRef_put (2010, f) (nI s) 8 (digF f 0 s) = some (2010, pF f s 8 (digF f 0 s)) := R_put (x := (2010, f)) (i := s) (K := 8) (by show 2010 < 2 ^ 31; omega) (by omega) (by show s + 8 ≤ 2010; omega) _
    refine ⟨s + 8, (2010, pF f s 8 (digF f 0 s)), ?_, rfl, by omega⟩
    rw [m_RRef_savepoint_L25]
    simp only [qR_mCount, qR_spoint]
    rw [l1, ck, if_neg k0, hc, if_pos (nI_le (by omega) (by omega)), bs a1, bs a2, sr_spoint, n8, nI_add]
  | succ d ih =>
    intro fuel i s f hs hi hf
    obtain ⟨fu, rfl, hf'⟩ := fu1 hf
    obtain ⟨q, hq1, hq2⟩ := hq i (by omega)
    obtain ⟨b, hb, fb, eb⟩ : ∃ b, b < lp.length ∧ m_RRef_findPart (s_Rspoint r (2010, f)) ((g_RmPart r).2 (12 * k + i)) = some (nI b) ∧ rrow r b ∈ lp := by
      have hP2 : PR (s_Rspoint r (2010, f)) lp := PR_fr (by simp only [qf_Par]) hP
      rcases R_findPart hP2.1 ((g_RmPart r).2 (12 * k + i)) with ⟨e1, e2⟩ | ⟨b, hb, e1, e2⟩
      · obtain ⟨j, hj, e⟩ := (hP2.2.1 q).mp hq1
        exact absurd (by rw [e]; exact hq2) (e2 j hj)
      · exact ⟨b, hb, e1, PR_mem hP hb⟩
    obtain ⟨_, _, l, w, _, _, _, _, _, p6, p7, p8, p9, p10⟩ := f1 _ eb
    have cb : (nI b).toNatClampNeg = b := nI_clamp (by omega)
    have b0 : ¬ (nI b < 0 ∨ 520 ≤ b) := by
      have := nI_in (c := b) (N := 520) (by omega) (by omega)
      rw [cb] at this
      exact this
    have e0 : (12 : Int32) * nI k + nI i = nI (12 * k + i) := by rw [n12, pk_mul, nI_add]
    have c1 : (nI (12 * k + i)).toNatClampNeg = 12 * k + i := nI_clamp (by omega)
    have i1 : ¬ (nI (12 * k + i) < 0 ∨ 3240 ≤ 12 * k + i) := by
      have := nI_in (c := 12 * k + i) (N := 3240) (by omega) (by omega)
      rw [c1] at this
      exact this
    have cs : (nI s).toNatClampNeg = s := nI_clamp (by omega)
    have s0 : ¬ (nI s < 0 ∨ 2010 ≤ s) := by
      have := nI_in (c := s) (N := 2010) (by omega) (by omega)
      rw [cs] at this
      exact this
    have es1 : nI s + 1 = nI (s + 1) := nI_1 s
    have es9 : nI s + 9 = nI (s + 9) := by rw [show (9 : Int32) = nI 9 by decide +kernel, nI_add]
    have es11 : nI s + 11 = nI (s + 11) := by rw [show (11 : Int32) = nI 11 by decide +kernel, nI_add]
    have el : (g_RpLength r).2 b = nI l := p6
    obtain ⟨F1, hF1⟩ : ∃ F1, F1 = upd f s (vp_nar .byte ((((g_RpGroup r).2 b)).toInt8.toInt32)) := ⟨_, rfl⟩
    have u1 : m_RRef_put (2010, F1) (nI (s + 1)) 8 ((g_RpPosition r).2 b) = some (2010, pF F1 (s + 1) 8 ((g_RpPosition r).2 b)) := R_put (x := (2010, F1)) (i := s + 1) (K := 8) (by show 2010 < 2 ^ 31; omega) (by omega) (by show s + 1 + 8 ≤ 2010; omega) _
    obtain ⟨F2, hF2⟩ : ∃ F2, F2 = pF F1 (s + 1) 8 ((g_RpPosition r).2 b) := ⟨_, rfl⟩
    have u2 : m_RRef_put (2010, F2) (nI (s + 9)) 2 (nI l).toInt64 = some (2010, pF F2 (s + 9) 2 (nI l).toInt64) := R_put (x := (2010, F2)) (i := s + 9) (K := 2) (by show 2010 < 2 ^ 31; omega) (by omega) (by show s + 9 + 2 ≤ 2010; omega) _
    rw [← hF2] at u1
    obtain ⟨F4, a1⟩ := u_s111 h (fun (g20 : St_Ref) (v1_21 : Int32) (v2_22 : Int32) (v3_23 : Int32) => m_RRef_savepoint_L25 fu g20 v1_21 v2_22 (v3_23 + 1)) (nI k) (nI i) hb p6 p7 p8 p10 l FU 0 (s + 11) (pF F2 (s + 9) 2 (nI l).toInt64) (by omega) (by omega) (FU_lt (by omega))
    obtain ⟨s', X, z1, z2, z3⟩ := ih fu (i + 1) (s + 11 + l) F4 (by omega) (by omega) (by omega)
    refine ⟨s', X, ?_, z2, z3⟩
    rw [m_RRef_savepoint_L25]
    simp only [qR_mCount, qR_spoint, qR_mPart, qR_pGroup, qR_pPosition, qR_pLength]
    rw [l1, ck, if_neg k0, hc, if_neg (nI_ge (by omega) (by omega)), e0, l2, c1, if_neg i1]
    refine Eq.trans (bs fb) ?_
    rw [cb, cs, es1, es9, es11, l3, l4, l5, el, ← hF1]
    refine Eq.trans (if_neg b0) ?_
    refine Eq.trans (if_neg s0) ?_
    refine Eq.trans (if_neg b0) ?_
    refine Eq.trans (bs u1) ?_
    refine Eq.trans (if_neg b0) ?_
    refine Eq.trans (bs u2) ?_
    rw [sr_spoint, sr_spoint, sr_spoint]
    refine Eq.trans a1 ?_
    show m_RRef_savepoint_L25 fu (s_Rspoint r (2010, F4)) (nI k) (nI (s + 11 + l)) (nI i + 1) = _
    rw [nI_1]
    exact z1
theorem u_savepoint {n : Nat} {r : St_Ref} {lp : List PQ} {L : List MKQ} (h : RT n r lp L) {k c : Nat} (hk : k < L.length) (hc : (g_RmCount r).2 k = nI c) (hc2 : c ≤ 12) (hq : ∀ j, j < c → ∃ q, q ∈ lp ∧ q.1 = (g_RmPart r).2 (12 * k + j)) : ∃ s' X, m_RRef_savepoint r (nI k) = some (nI s', s_Rspoint r X) ∧ X.1 = 2010 ∧ s' ≤ 2002 := by
  have hL := h.2.2.2.1.2.1
  have ls : g_Rspoint r = (2010, (g_Rspoint r).2) := Prod.ext (ri_spoint h.2.1) rfl
  obtain ⟨s', X, z1, z2, z3⟩ := u_s25 h (k := k) (by omega) hc hc2 hq c FU 0 2 (upd (upd (g_Rspoint r).2 (0 : Int32).toNatClampNeg (vp_nar .byte 77)) (1 : Int32).toNatClampNeg (vp_nar .byte ((nI c).toInt8.toInt32))) (by omega) (by omega) (FU_lt (by omega))
  refine ⟨s', X, ?_, z2, z3⟩
  unfold m_RRef_savepoint
  rw [ls, show (g_RmCount r).1 = 270 from ri_mCount h.2.1, if_neg (show ¬ ((0 : Int32) < 0 ∨ (2010, (g_Rspoint r).2).1 ≤ (0 : Int32).toNatClampNeg) from (show ¬ ((0 : Int32) < 0 ∨ 2010 ≤ (0 : Int32).toNatClampNeg) by decide)), if_neg (nI_in (by omega) (by omega)), nI_clamp (by omega), hc]
  refine Eq.trans (if_neg (show ¬ ((1 : Int32) < 0 ∨ 2010 ≤ (1 : Int32).toNatClampNeg) by decide)) ?_
  rw [sr_spoint]
  exact z1
