-- A MARK IS MADE
/-- MARK p names f 0, f 1 .. -/
def mfl (x : St_Marks) (p : Nat) (f : Nat → Int32) (c : Nat) : St_Marks := (x.1, x.2.1, x.2.2.1, (x.2.2.2.1.1, fun j => if 12 * p ≤ j ∧ j < 12 * p + c then f (j - 12 * p) else x.2.2.2.1.2 j), x.2.2.2.2.1, x.2.2.2.2.2)
theorem mfl_0 (x : St_Marks) (p : Nat) (f : Nat → Int32) : mfl x p f 0 = x := by
  unfold mfl
  have : (fun j => if 12 * p ≤ j ∧ j < 12 * p + 0 then f (j - 12 * p) else x.2.2.2.1.2 j) = x.2.2.2.1.2 := by
    funext j
    rw [if_neg (by omega)]
  rw [this]
theorem mfl_step (x : St_Marks) (p : Nat) (f : Nat → Int32) (i : Nat) : mpt (mfl x p f i) p i (f i) = mfl x p f (i + 1) := by
  unfold mpt mfl
  have : upd (fun j => if 12 * p ≤ j ∧ j < 12 * p + i then f (j - 12 * p) else x.2.2.2.1.2 j) (12 * p + i) (f i) = fun j => if 12 * p ≤ j ∧ j < 12 * p + (i + 1) then f (j - 12 * p) else x.2.2.2.1.2 j := by
    funext j
    unfold upd
    by_cases h : j = 12 * p + i
    · rw [if_pos h, if_pos (by omega), show j - 12 * p = i by omega]
    · rw [if_neg h]
      show (if 12 * p ≤ j ∧ j < 12 * p + i then f (j - 12 * p) else x.2.2.2.1.2 j) = _
      by_cases h2 : 12 * p ≤ j ∧ j < 12 * p + i
      · rw [if_pos h2, if_pos (by omega)]
      · rw [if_neg h2, if_neg (by omega)]
  simp only
  rw [this]
theorem ML_mfl {N P : Nat} {x : St_Marks} (h : ML N x P) (p : Nat) (f : Nat → Int32) (c : Nat) : ML N (mfl x p f c) P := h
theorem MS_mfl {N P : Nat} {x : St_Marks} (h : MS N x P) (p : Nat) (f : Nat → Int32) (c : Nat) : MS N (mfl x p f c) P := h
theorem mrow_mfl {N P : Nat} {x : St_Marks} (h : ML N x P) {p c : Nat} (hc : x.2.1.2 p = nI c) (hc2 : c ≤ 12) (f : Nat → Int32) {k : Nat} (hk : k < N) : mrow (mfl x p f c) k = if k = p then (x.1.2 p, nI c, x.2.2.1.2 p, x.2.2.2.2.1.2 p, lst f c) else mrow x k := by
  obtain ⟨ck, hck, ek⟩ := h.2.2.2.2 k hk
  by_cases hkp : k = p
  · subst hkp
    rw [if_pos rfl]
    show (x.1.2 k, x.2.1.2 k, x.2.2.1.2 k, x.2.2.2.2.1.2 k, mls (x.2.1.2 k) (fun j => if 12 * k ≤ j ∧ j < 12 * k + c then f (j - 12 * k) else x.2.2.2.1.2 j) k) = _
    have key : mls (nI c) (fun j => if 12 * k ≤ j ∧ j < 12 * k + c then f (j - 12 * k) else x.2.2.2.1.2 j) k = lst f c := by
      unfold mls lst
      rw [nI_clamp (by omega)]
      apply List.map_congr_left
      intro i hi
      have := List.mem_range.mp hi
      show (if 12 * k ≤ 12 * k + i ∧ 12 * k + i < 12 * k + c then f (12 * k + i - 12 * k) else _) = f i
      rw [if_pos (by omega), show 12 * k + i - 12 * k = i by omega]
    rw [hc, key]
  · rw [if_neg hkp]
    refine Prod.ext rfl (Prod.ext rfl (Prod.ext rfl (Prod.ext rfl ?_)))
    refine mls_congr (fun i hi => ?_)
    show (if 12 * p ≤ 12 * k + i ∧ 12 * k + i < 12 * p + c then _ else x.2.2.2.1.2 (12 * k + i)) = _
    have hi' : i < (x.2.1.2 k).toNatClampNeg := hi
    rw [ek, nI_clamp (by omega)] at hi'
    rw [if_neg (by omega)]
theorem MC_add {N : Nat} {x : St_Marks} {l : List MKQ} (h : MC N x l) (hP : l.length < N) (num row : Int32) (dig : Int64) {c : Nat} (hc : c ≤ 12) (hq : ∀ m, m ∈ l → m.1 ≠ num) : ∃ x' p, m_Marks_add x num (nI c) row dig = some (nI p, x') ∧ p < l.length + 1 ∧ MS N x' (l.length + 1) ∧ x'.2.1.2 p = nI c ∧ ∀ f, ∃ l', MC N (mfl x' p f c) l' ∧ l'.Perm ((num, nI c, row, dig, lst f c) :: l) := by
  obtain ⟨x', p, a1, a2, a3, a4, a5, a6, a7, a8⟩ := M_add h.1 hP num row dig hc (fun k hk => hq (mrow x k) (MC_mem h hk))
  refine ⟨x', p, a1, by omega, a2, a6, fun f => ?_⟩
  have hN := a2.1.2.2.1
  have hr : ∀ k, k ≤ l.length → mrow (mfl x' p f c) k = if k < p then mrow x k else if k = p then (num, nI c, row, dig, lst f c) else mrow x (k - 1) := by
    intro k hk
    rw [mrow_mfl a2.1 a6 hc f (by omega)]
    by_cases hkp : k = p
    · rw [if_pos hkp, if_neg (by omega), if_pos hkp, a5, a7, a8]
    · rw [if_neg hkp, a4 k hk hkp]
      by_cases h1 : k < p
      · rw [if_pos h1, if_pos h1]
      · rw [if_neg h1, if_neg h1, if_neg hkp]
  have hp := lst_ins (f := mrow x) (f' := mrow (mfl x' p f c)) a3 hr
  rw [h.2] at hp
  exact ⟨lst (mrow (mfl x' p f c)) (l.length + 1), ⟨by rw [lst_len]; exact MS_mfl a2 _ _ _, by rw [lst_len]⟩, hp⟩
theorem ss_made (g : St_Log) (a b : St_Marks) : s_made (s_made g a) b = s_made g b := rfl
theorem C_mM_L {n N P Q : Nat} {g : St_Log} {x : St_Marks} (hx : ML N x Q) {p c fst : Nat} (hp : p < Q) (hc : x.2.1.2 p = nI c) (hc2 : c ≤ 12) (hPS : PS n (g_parts g) P) (hfst : fst + c ≤ P) : ∀ (d fuel i : Nat), i + d = c → d < fuel → m_Log_makeMark_L38 fuel (s_made g (mfl x p (fun k => (crow (g_parts g) (fst + k)).1) i)) (nI c) (nI p) (nI fst) (nI i) = some (g_greatestMark g, s_made g (mfl x p (fun k => (crow (g_parts g) (fst + k)).1) c)) := by
  have hPn := hPS.2.2.1
  have h512 := hPS.2.2.2.1
  intro d
  induction d with
  | zero =>
    intro fuel i hi hf
    obtain ⟨fu, rfl, -⟩ := fu1 hf
    rw [m_Log_makeMark_L38, if_pos (nI_le (by omega) (by omega))]
    simp only [q_greatestMark]
    rw [show i = c by omega]
  | succ d ih =>
    intro fuel i hi hf
    obtain ⟨fu, rfl, hf'⟩ := fu1 hf
    rw [m_Log_makeMark_L38, if_neg (nI_ge (by omega) (by omega))]
    simp only [q_parts, q_made, ss_made]
    rw [nI_add]
    refine Eq.trans (bs (P_numberAt hPS.l (show fst + i < P by omega))) ?_
    have hs := M_setPart (ML_mfl hx p (fun k => (crow (g_parts g) (fst + k)).1) i) (k := p) (i := i) (c := c) hp hc hc2 (by omega) ((g_parts g).1.2 (fst + i))
    refine Eq.trans (bs hs) ?_
    have e : mpt (mfl x p (fun k => (crow (g_parts g) (fst + k)).1) i) p i ((g_parts g).1.2 (fst + i)) = mfl x p (fun k => (crow (g_parts g) (fst + k)).1) (i + 1) := mfl_step x p (fun k => (crow (g_parts g) (fst + k)).1) i
    rw [e, nI_1]
    exact ih fu (i + 1) (by omega) (by omega)
theorem C_makeMark {n : Nat} {g : St_Log} {lp : List PQ} {lm : List MKQ} {GM c : Nat} (hP : PC n (g_parts g) lp) (hM : MC 6 (g_made g) lm) (hlt : lm.length < 6) (hc : c ≤ 12) (hcP : c ≤ lp.length) (hG : g_greatestMark g = nI GM) (hq : ∀ m, m ∈ lm → m.1 ≠ nI (GM + 1)) : ∃ x' lm', m_Log_makeMark g (nI c) = some (nI (GM + 1), s_made (s_greatestMark g (nI (GM + 1))) x') ∧ MC 6 x' lm' ∧ lm'.Perm ((nI (GM + 1), nI c, (-1), 0, lst (fun k => (crow (g_parts g) (lp.length - c + k)).1) c) :: lm) := by
  obtain ⟨x', p, a1, a2, a3, a4, a5⟩ := MC_add hM hlt (nI (GM + 1)) (-1) 0 hc hq
  obtain ⟨lm', b1, b2⟩ := a5 (fun k => (crow (g_parts g) (lp.length - c + k)).1)
  have h3 := hP.1.2.2.1
  have h4 := hP.1.2.2.2.1
  refine ⟨_, lm', ?_, b1, b2⟩
  unfold m_Log_makeMark
  rw [hG, nI_1]
  refine Eq.trans (bs a1) ?_
  have hsz : m_Parts_size (g_parts g) = some (nI lp.length) := by unfold m_Parts_size; rw [hP.1.2.1]
  refine Eq.trans (bs hsz) ?_
  simp only
  rw [pk_sub hcP]
  have k := C_mM_L (n := n) (N := 6) (P := lp.length) (Q := lm.length + 1) (g := s_greatestMark g (nI (GM + 1))) (x := x') a3.1 (p := p) (c := c) (fst := lp.length - c) a2 a4 hc (by simp only [q_parts]; exact hP.1) (by omega) c FU 0 (by omega) (FU_lt (by omega))
  rw [mfl_0] at k
  simp only [q_greatestMark, q_parts] at k
  rw [n0]
  exact k
-- the reference
theorem R_newMark {n : Nat} {r : St_Ref} {L : List MKQ} (hR : RI n r) (hM : MR r L) (hlt : L.length < 270) {c GM : Nat} (hc : 1 ≤ c ∧ c ≤ 12) (hl : g_RlastMark r = nI GM) (f : Nat → Int32) (hf : ∀ i, i < c → (g_RmPart r).2 (12 * L.length + i) = f i) : ∃ r', m_RRef_newMark r (nI c) = some (nI (GM + 1), r') ∧ RI n r' ∧ fMed r' = fMed r ∧ fTap r' = fTap r ∧ fPar r' = fPar r ∧ fHd r' = fHd r ∧ g_RlastPart r' = g_RlastPart r ∧ g_RlastMark r' = nI (GM + 1) ∧ MR r' (L ++ [(nI (GM + 1), nI c, (-1), 0, lst f c)]) := by
  obtain ⟨hp, hP, hls, hk⟩ := id hM
  have l1 : (g_RmNumber r).1 = 270 := ri_mNumber hR
  have l2 : (g_RmRow r).1 = 270 := ri_mRow hR
  have l3 : (g_RmCount r).1 = 270 := ri_mCount hR
  have l4 : (g_RmDigest r).1 = 270 := ri_mDigest hR
  have c0 : (g_Rmarks r).toNatClampNeg = L.length := by rw [hp]; exact nI_clamp (by omega)
  have i0 : ∀ M, M = 270 → ¬ (g_Rmarks r < 0 ∨ M ≤ (g_Rmarks r).toNatClampNeg) := fun M hM => by rw [hM, hp]; exact nI_in (by omega) (by omega)
  obtain ⟨r', hr'⟩ : ∃ r', r' = (s_Rmarks (s_RmDigest (s_RmCount (s_RmRow (s_RmNumber (s_RlastMark r ((g_RlastMark r) + 1)) ((g_RmNumber r).1, upd (g_RmNumber r).2 ((g_Rmarks r)).toNatClampNeg ((g_RlastMark r) + 1))) ((g_RmRow r).1, upd (g_RmRow r).2 ((g_Rmarks r)).toNatClampNeg (-1))) ((g_RmCount r).1, upd (g_RmCount r).2 ((g_Rmarks r)).toNatClampNeg (nI c))) ((g_RmDigest r).1, vp_updL (g_RmDigest r).2 ((g_Rmarks r)).toNatClampNeg 0)) ((g_Rmarks r) + 1)) := ⟨_, rfl⟩
  have hq : ∀ k, k ≤ L.length → qrow r' k = if k = L.length then (nI (GM + 1), nI c, (-1), 0, lst f c) else qrow r k := by
    intro k hkL
    unfold qrow
    rw [hr']
    simp only [qR_mNumber, qR_mCount, qR_mRow, qR_mDigest, qR_mPart, c0]
    unfold upd vp_updL
    by_cases h : k = L.length
    · simp only [if_pos h]
      rw [hl, nI_1]
      refine Prod.ext rfl (Prod.ext rfl (Prod.ext rfl (Prod.ext rfl ?_)))
      unfold mls lst
      simp only
      rw [nI_clamp (by omega)]
      apply List.map_congr_left
      intro i hi
      rw [h]
      exact hf i (List.mem_range.mp hi)
    · simp only [if_neg h]
  refine ⟨r', ?_, ?_, ?_, ?_, ?_, ?_, ?_, ?_, ⟨?_, ?_, ?_, ?_⟩⟩
  · unfold m_RRef_newMark
    refine Eq.trans (if_neg (i0 _ l1)) ?_
    refine Eq.trans (if_neg (i0 _ l2)) ?_
    refine Eq.trans (if_neg (i0 _ l3)) ?_
    refine Eq.trans (if_neg (i0 _ l4)) ?_
    rw [← hr', hl, nI_1]
  · rw [hr']
    refine rs_marks (rs_mDigest (rs_mCount (rs_mRow (rs_mNumber (rs_lastMark hR) ?_) ?_) ?_) ?_) ?_
    · exact l1
    · exact l2
    · exact l3
    · exact l4
    · exact ⟨L.length + 1, by omega, by rw [hp, nI_1]⟩
  · rw [hr']; simp only [qf_Med]
  · rw [hr']; simp only [qf_Tap]
  · rw [hr']; simp only [qf_Par]
  · rw [hr']; simp only [qf_Hd]
  · rw [hr']; simp only [qR_lastPart]
  · rw [hr']; simp only [qR_lastMark]; rw [hl, nI_1]
  · rw [hr']
    simp only [qR_marks]
    rw [hp, nI_1, List.length_append]; rfl
  · rw [List.length_append]
    show L.length + 1 ≤ 270
    omega
  · rw [List.length_append]
    show lst (qrow r') (L.length + 1) = _
    rw [lst_succ, hq L.length (Nat.le_refl _), if_pos rfl, lst_congr (g := qrow r) (fun k hk => by rw [hq k (by omega), if_neg (by omega)]), hls]
  · intro m hm
    rcases List.mem_append.mp hm with z | z
    · exact hk m z
    · rcases List.mem_cons.mp z with rfl | z
      · exact ⟨c, hc.1, hc.2, rfl⟩
      · cases z
theorem R_below_L {r : St_Ref} {lp : List PQ} (h : PR r lp) (v : Int32) : ∀ (d fuel k : Nat) (b : Int32), k + d = lp.length → d < fuel → ∃ b', m_RRef_below_L4 r fuel v b (nI k) = some b' ∧ (b' = b ∨ ∃ q, q ∈ lp ∧ q.1 = b' ∧ q.1 < v) ∧ b ≤ b' ∧ ∀ j, k ≤ j → j < lp.length → (rrow r j).1 < v → (rrow r j).1 ≤ b' := by
  obtain ⟨⟨⟨l1, -⟩, hp, hP⟩, -⟩ := id h
  intro d
  induction d with
  | zero =>
    intro fuel k b hk hf
    obtain ⟨fu, rfl, -⟩ := fu1 hf
    refine ⟨b, ?_, Or.inl rfl, Int32.le_refl _, fun j h1 h2 => absurd h2 (by omega)⟩
    rw [m_RRef_below_L4, hp, if_pos (nI_le (by omega) (by omega))]
  | succ d ih =>
    intro fuel k b hk hf
    obtain ⟨fu, rfl, hf'⟩ := fu1 hf
    have hmem := PR_mem h (show k < lp.length by omega)
    have c0 : (nI k).toNatClampNeg = k := nI_clamp (by omega)
    have i0 : ¬ (nI k < 0 ∨ 520 ≤ k) := by
      have := nI_in (c := k) (N := 520) (by omega) (by omega)
      rw [c0] at this
      exact this
    rw [m_RRef_below_L4, hp, if_neg (nI_ge (by omega) (by omega)), l1, c0, if_neg i0, nI_1]
    by_cases h1 : v ≤ (g_RpNumber r).2 k
    · obtain ⟨b', a1, a2, a3, a4⟩ := ih fu (k + 1) b (by omega) (by omega)
      rw [if_pos h1]
      refine ⟨b', a1, a2, a3, fun j j1 j2 j3 => ?_⟩
      by_cases hj : j = k
      · rw [hj] at j3
        exact absurd j3 (Int32.not_lt.mpr h1)
      · exact a4 j (by omega) j2 j3
    · rw [if_neg h1, if_neg i0]
      by_cases h2 : (g_RpNumber r).2 k ≤ b
      · obtain ⟨b', a1, a2, a3, a4⟩ := ih fu (k + 1) b (by omega) (by omega)
        rw [if_pos h2]
        refine ⟨b', a1, a2, a3, fun j j1 j2 j3 => ?_⟩
        by_cases hj : j = k
        · rw [hj]
          exact Int32.le_trans h2 a3
        · exact a4 j (by omega) j2 j3
      · obtain ⟨b', a1, a2, a3, a4⟩ := ih fu (k + 1) ((g_RpNumber r).2 k) (by omega) (by omega)
        rw [if_neg h2, if_neg i0]
        refine ⟨b', a1, ?_, Int32.le_trans (Int32.le_of_lt (Int32.not_le.mp h2)) a3, fun j j1 j2 j3 => ?_⟩
        · rcases a2 with a2 | a2
          · right
            exact ⟨_, hmem, a2.symm, Int32.not_le.mp h1⟩
          · exact Or.inr a2
        · by_cases hj : j = k
          · rw [hj]
            exact a3
          · exact a4 j (by omega) j2 j3
theorem R_below {n : Nat} {r : St_Ref} {x : St_Parts} {lp : List PQ} (h : PR r lp) (hc : PC n x lp) (hpos : ∀ q, q ∈ lp → 0 < q.1) {v : Int32} {j : Nat} (hj : j < lp.length) (h1 : (crow x j).1 < v) (h2 : ∀ k, j < k → k < lp.length → v ≤ (crow x k).1) : m_RRef_below r v = some (crow x j).1 := by
  have hP := h.1.2.2
  obtain ⟨b', a1, a2, a3, a4⟩ := R_below_L h v lp.length FU 0 0 (by omega) (FU_lt (by omega))
  have hge : (crow x j).1 ≤ b' := by
    obtain ⟨i, hi, e⟩ := (h.2.1 _).mp (PC_mem hc hj)
    have := a4 i (by omega) hi (by rw [e]; exact h1)
    rw [e] at this
    exact this
  have hle : b' ≤ (crow x j).1 := by
    rcases a2 with rfl | ⟨q, hq, e1, e2⟩
    · exact Int32.le_of_lt (hpos _ (PC_mem hc hj))
    · obtain ⟨k, hk, e⟩ := ((PC_tc hc).2 q).mp hq
      rw [← e] at e1 e2
      rcases Nat.lt_trichotomy k j with hkj | hkj | hkj
      · rw [← e1]
        exact Int32.le_of_lt (hc.1.2.2.2.2 k j hkj hj)
      · rw [← e1, hkj]
        exact Int32.le_refl _
      · exact absurd e2 (Int32.not_lt.mpr (h2 k hkj hk))
  unfold m_RRef_below
  rw [n0] at a1
  rw [n0, a1, Int32.le_antisymm hle hge]
