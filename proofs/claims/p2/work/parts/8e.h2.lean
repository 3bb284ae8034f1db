-- MARKS GO FROM THE CLASS'S TABLES, FROM THE FIRST ON
theorem M_rF_L {N P : Nat} {x0 : St_Marks} {a : Nat} (ha : 0 < a) : ∀ (d fuel : Nat) (x : St_Marks) (i : Nat), ML N x P → i + d = P → a ≤ i → (∀ k, k + a < i → mrow x k = mrow x0 (k + a)) → (∀ k, i ≤ k → k < P → mrow x k = mrow x0 k) → d < fuel → ∃ x', m_Marks_removeFirst_L7 fuel x (nI a) (nI i) = some x' ∧ ML N x' (P - a) ∧ ∀ k, k < P - a → mrow x' k = mrow x0 (k + a) := by
  intro d
  induction d with
  | zero =>
    intro fuel x i h hi hai h1 h2 hf
    obtain ⟨fu, rfl, -⟩ := fu1 hf
    obtain ⟨hl, hs, hP, hN, hc⟩ := id h
    refine ⟨(x.1, x.2.1, x.2.2.1, x.2.2.2.1, x.2.2.2.2.1, nI (P - a)), ?_, ⟨hl, rfl, by omega, hN, hc⟩, fun k hk => h1 k (by omega)⟩
    have hj : jmax 0 (nI P - nI a) = nI (P - a) := by
      rw [pk_sub (by omega)]
      by_cases h0 : P - a = 0
      · rw [h0]; rfl
      · exact jmax0 (by omega) (by omega)
    rw [m_Marks_removeFirst_L7, hs, if_pos (nI_le (by omega) (by omega)), hj]
  | succ d ih =>
    intro fuel x i h hi hai h1 h2 hf
    obtain ⟨fu, rfl, hf'⟩ := fu1 hf
    have hPN := h.2.2.1
    have h256 := h.2.2.2.1
    rw [m_Marks_removeFirst_L7, h.2.1, if_neg (nI_ge (by omega) (by omega)), pk_sub hai, bs (M_move h (a := i) (b := i - a) (by omega) (by omega) (by omega)), nI_1]
    refine ih fu (mcp x i (i - a)) (i + 1) (ML_mcp h (by omega)) (by omega) (by omega) (fun k hk => ?_) (fun k hk1 hk2 => ?_) (by omega)
    · rw [mrow_mcp h (by omega) (by omega)]
      by_cases hk3 : k = i - a
      · rw [if_pos hk3, h2 i (by omega) (by omega), hk3, show i - a + a = i by omega]
      · rw [if_neg hk3]; exact h1 k (by omega)
    · rw [mrow_mcp h (by omega) (by omega), if_neg (by omega)]; exact h2 k (by omega) hk2
theorem ML_removeFirst {N P : Nat} {x : St_Marks} (h : ML N x P) {a : Nat} (ha : a ≤ P) : ∃ x', m_Marks_removeFirst x (nI a) = some x' ∧ ML N x' (P - a) ∧ ∀ k, k < P - a → mrow x' k = mrow x (k + a) := by
  have h3 := h.2.2.1
  have h4 := h.2.2.2.1
  unfold m_Marks_removeFirst
  by_cases h0 : a = 0
  · subst h0
    rw [if_neg (by decide +kernel)]
    exact ⟨x, rfl, h, fun k _ => rfl⟩
  · obtain ⟨x', a1, a2, a3⟩ := M_rF_L (N := N) (P := P) (x0 := x) (a := a) (by omega) (P - a) FU x a h (by omega) (by omega) (fun k hk => absurd hk (by omega)) (fun k _ _ => rfl) (FU_lt (by omega))
    rw [n0, if_pos (nI_lt (by omega) (by omega))]
    exact ⟨x', a1, a2, a3⟩
theorem MS_of {N P : Nat} {x x' : St_Marks} {Q a : Nat} (h : MS N x P) (hQ : Q + a ≤ P) (a2 : ML N x' Q) (a3 : ∀ k, k < Q → mrow x' k = mrow x (k + a)) : MS N x' Q := by
  refine ⟨a2, fun i j hij hj => ?_⟩
  have ci := congrArg (fun r : MKQ => r.1) (a3 i (by omega))
  have cj := congrArg (fun r : MKQ => r.1) (a3 j hj)
  show (mrow x' i).1 < (mrow x' j).1
  rw [show (mrow x' i).1 = _ from ci, show (mrow x' j).1 = _ from cj]
  exact h.2 (i + a) (j + a) (by omega) (by omega)
-- THE REFERENCE'S TABLE OF MARKS, kept ones and others
theorem n12 : (12 : Int32) = nI 12 := by decide +kernel
def qrow (g : St_Ref) (k : Nat) : MKQ := ((g_RmNumber g).2 k, (g_RmCount g).2 k, (g_RmRow g).2 k, (g_RmDigest g).2 k, mls ((g_RmCount g).2 k) (g_RmPart g).2 k)
/-- one to twelve PARTS -/
def K12 (m : MKQ) : Prop := ∃ c : Nat, 1 ≤ c ∧ c ≤ 12 ∧ m.2.1 = nI c
def MR (g : St_Ref) (L : List MKQ) : Prop := g_Rmarks g = nI L.length ∧ L.length ≤ 270 ∧ lst (qrow g) L.length = L ∧ ∀ m, m ∈ L → K12 m
def MC (N : Nat) (x : St_Marks) (l : List MKQ) : Prop := MS N x l.length ∧ lst (mrow x) l.length = l
theorem MR_mem {g : St_Ref} {L : List MKQ} (h : MR g L) {k : Nat} (hk : k < L.length) : qrow g k ∈ L := by
  have := h.2.2.1
  rw [← this]
  exact mem_lst.mpr ⟨k, hk, rfl⟩
theorem MR_ex {g : St_Ref} {L : List MKQ} (h : MR g L) {m : MKQ} (hm : m ∈ L) : ∃ k, k < L.length ∧ qrow g k = m := by
  have := h.2.2.1
  rw [← this] at hm
  exact mem_lst.mp hm
theorem MC_mem {N : Nat} {x : St_Marks} {l : List MKQ} (h : MC N x l) {k : Nat} (hk : k < l.length) : mrow x k ∈ l := by
  have := h.2
  rw [← this]
  exact mem_lst.mpr ⟨k, hk, rfl⟩
theorem MC_ex {N : Nat} {x : St_Marks} {l : List MKQ} (h : MC N x l) {m : MKQ} (hm : m ∈ l) : ∃ k, k < l.length ∧ mrow x k = m := by
  have := h.2
  rw [← this] at hm
  exact mem_lst.mp hm
theorem R_fM_L {n : Nat} {g : St_Ref} {M : Nat} (h : RI n g) (hp : g_Rmarks g = nI M) (hP : M ≤ 270) (v : Int32) : ∀ (d fuel j : Nat), j + d = M → d < fuel → (m_RRef_findMark_L2 g fuel v (nI j) = some (-1) ∧ ∀ k, j ≤ k → k < M → (qrow g k).1 ≠ v) ∨ ∃ k, j ≤ k ∧ k < M ∧ m_RRef_findMark_L2 g fuel v (nI j) = some (nI k) ∧ (qrow g k).1 = v := by
  have l1 : (g_RmNumber g).1 = 270 := ri_mNumber h
  intro d
  induction d with
  | zero =>
    intro fuel j hj hf
    obtain ⟨fu, rfl, -⟩ := fu1 hf
    left
    rw [m_RRef_findMark_L2, hp, if_pos (nI_le (by omega) (by omega))]
    exact ⟨rfl, fun k h1 h2 => absurd h2 (by omega)⟩
  | succ d ih =>
    intro fuel j hj hf
    obtain ⟨fu, rfl, hf'⟩ := fu1 hf
    rw [m_RRef_findMark_L2, hp, if_neg (nI_ge (by omega) (by omega)), l1, if_neg (nI_in (by omega) (by omega)), nI_clamp (by omega), nI_1]
    by_cases hv : (g_RmNumber g).2 j = v
    · right
      exact ⟨j, by omega, by omega, if_pos hv, hv⟩
    · rw [if_neg hv]
      rcases ih fu (j + 1) (by omega) (by omega) with ⟨e1, e2⟩ | ⟨k, e1, e2, e3, e4⟩
      · left
        refine ⟨e1, fun k h1 h2 => ?_⟩
        by_cases hk : k = j
        · subst hk; exact hv
        · exact e2 k (by omega) h2
      · right
        exact ⟨k, by omega, e2, e3, e4⟩
theorem R_findMark {n : Nat} {g : St_Ref} {M : Nat} (h : RI n g) (hp : g_Rmarks g = nI M) (hP : M ≤ 270) (v : Int32) : (m_RRef_findMark g v = some (-1) ∧ ∀ k, k < M → (qrow g k).1 ≠ v) ∨ ∃ k, k < M ∧ m_RRef_findMark g v = some (nI k) ∧ (qrow g k).1 = v := by
  unfold m_RRef_findMark
  rw [n0]
  rcases R_fM_L h hp hP v M FU 0 (by omega) (FU_lt (by omega)) with ⟨e1, e2⟩ | ⟨k, e1, e2, e3, e4⟩
  · exact Or.inl ⟨e1, fun k hk => e2 k (by omega) hk⟩
  · exact Or.inr ⟨k, e2, e3, e4⟩
/-- all but the MARKS and what is only drawn upon -/
def FrA (g g' : St_Ref) : Prop := fMed g' = fMed g ∧ fTap g' = fTap g ∧ fPar g' = fPar g ∧ fHd g' = fHd g ∧ fLs g' = fLs g
theorem FrA.rf (g : St_Ref) : FrA g g := ⟨rfl, rfl, rfl, rfl, rfl⟩
theorem FrA.tr {a b c : St_Ref} (h : FrA a b) (k : FrA b c) : FrA a c := ⟨k.1.trans h.1, k.2.1.trans h.2.1, k.2.2.1.trans h.2.2.1, k.2.2.2.1.trans h.2.2.2.1, k.2.2.2.2.trans h.2.2.2.2⟩
theorem R_fg_L {n a b : Nat} (ha : a < 270) (hb : b < 270) : ∀ (d fuel i : Nat) (g : St_Ref), RI n g → g_Rmarks g = nI b → i + d = 12 → d < fuel → ∃ g', m_RRef_forgetMark_L72 fuel g (nI a) (nI i) = some g' ∧ RI n g' ∧ FrA g g' ∧ g_Rmarks g' = nI b ∧ g_RmNumber g' = g_RmNumber g ∧ g_RmRow g' = g_RmRow g ∧ g_RmCount g' = g_RmCount g ∧ g_RmDigest g' = g_RmDigest g ∧ ∀ j, (g_RmPart g').2 j = if 12 * a + i ≤ j ∧ j < 12 * a + 12 then (g_RmPart g).2 (12 * b + (j - 12 * a)) else (g_RmPart g).2 j := by
  intro d
  induction d with
  | zero =>
    intro fuel i g h hm hi hf
    obtain ⟨fu, rfl, -⟩ := fu1 hf
    refine ⟨g, ?_, h, FrA.rf g, hm, rfl, rfl, rfl, rfl, fun j => ?_⟩
    · rw [m_RRef_forgetMark_L72, n12, if_pos (nI_le (by omega) (by omega))]
    · rw [if_neg (by omega)]
  | succ d ih =>
    intro fuel i g h hm hi hf
    obtain ⟨fu, rfl, hf'⟩ := fu1 hf
    have l1 : (g_RmPart g).1 = 3240 := ri_mPart h
    have l2 : (g_RmPartRow g).1 = 3240 := ri_mPartRow h
    have l3 : (g_RmPartDigest g).1 = 3240 := ri_mPartDigest h
    have i1 : ∀ M, M = 3240 → ¬ (nI (12 * b + i) < 0 ∨ M ≤ (nI (12 * b + i)).toNatClampNeg) := fun M hM => by rw [hM]; exact nI_in (by omega) (by omega)
    have i2 : ∀ M, M = 3240 → ¬ (nI (12 * a + i) < 0 ∨ M ≤ (nI (12 * a + i)).toNatClampNeg) := fun M hM => by rw [hM]; exact nI_in (by omega) (by omega)
    have e1 : (12 : Int32) * g_Rmarks g + nI i = nI (12 * b + i) := by rw [hm, n12, pk_mul, nI_add]
    have e2 : (12 : Int32) * nI a + nI i = nI (12 * a + i) := by rw [n12, pk_mul, nI_add]
    have c1 : (nI (12 * b + i)).toNatClampNeg = 12 * b + i := nI_clamp (by omega)
    have c2 : (nI (12 * a + i)).toNatClampNeg = 12 * a + i := nI_clamp (by omega)
    obtain ⟨g1, hg1⟩ : ∃ g1, g1 = s_RmPartDigest (s_RmPartRow (s_RmPart g ((g_RmPart g).1, upd (g_RmPart g).2 (12 * a + i) ((g_RmPart g).2 (12 * b + i)))) ((g_RmPartRow g).1, upd (g_RmPartRow g).2 (12 * a + i) ((g_RmPartRow g).2 (12 * b + i)))) ((g_RmPartDigest g).1, vp_updL (g_RmPartDigest g).2 (12 * a + i) ((g_RmPartDigest g).2 (12 * b + i))) := ⟨_, rfl⟩
    have h1 : RI n g1 := by
      rw [hg1]
      refine rs_mPartDigest (rs_mPartRow (rs_mPart h ?_) ?_) ?_
      · exact l1
      · exact l2
      · exact l3
    have hF : FrA g g1 := by rw [hg1]; refine ⟨?_, ?_, ?_, ?_, ?_⟩ <;> simp only [qf_Med, qf_Tap, qf_Par, qf_Hd, qf_Ls]
    have hm1 : g_Rmarks g1 = nI b := by rw [hg1]; simp only [qR_marks]; exact hm
    have hp1 : g_RmPart g1 = ((g_RmPart g).1, upd (g_RmPart g).2 (12 * a + i) ((g_RmPart g).2 (12 * b + i))) := by rw [hg1]; simp only [qR_mPart]
    have w1 : g_RmNumber g1 = g_RmNumber g := by rw [hg1]; simp only [qR_mNumber]
    have w2 : g_RmRow g1 = g_RmRow g := by rw [hg1]; simp only [qR_mRow]
    have w3 : g_RmCount g1 = g_RmCount g := by rw [hg1]; simp only [qR_mCount]
    have w4 : g_RmDigest g1 = g_RmDigest g := by rw [hg1]; simp only [qR_mDigest]
    obtain ⟨g', z1, z2, z3, z4, z5, z6, z7, z8, z9⟩ := ih fu (i + 1) g1 h1 hm1 (by omega) (by omega)
    refine ⟨g', ?_, z2, hF.tr z3, z4, z5.trans w1, z6.trans w2, z7.trans w3, z8.trans w4, fun j => ?_⟩
    · rw [m_RRef_forgetMark_L72, e1, e2, c1, c2]
      refine Eq.trans (if_neg (show ¬ (12 : Int32) ≤ nI i by rw [n12]; exact nI_ge (by omega) (by omega))) ?_
      rw [c1] at i1
      rw [c2] at i2
      refine Eq.trans (if_neg (i1 _ l1)) ?_
      refine Eq.trans (if_neg (i2 _ l1)) ?_
      refine Eq.trans (if_neg (i1 _ l2)) ?_
      refine Eq.trans (if_neg (i2 _ l2)) ?_
      refine Eq.trans (if_neg (i1 _ l3)) ?_
      refine Eq.trans (if_neg (i2 _ l3)) ?_
      rw [← hg1, nI_1]
      exact z1
    · rw [z9 j, hp1]
      show (if 12 * a + (i + 1) ≤ j ∧ j < 12 * a + 12 then (if 12 * b + (j - 12 * a) = 12 * a + i then (g_RmPart g).2 (12 * b + i) else (g_RmPart g).2 (12 * b + (j - 12 * a))) else (if j = 12 * a + i then (g_RmPart g).2 (12 * b + i) else (g_RmPart g).2 j)) = _
      by_cases q1 : j = 12 * a + i
      · rw [if_neg (by omega), if_pos q1, if_pos (by omega), show j - 12 * a = i by omega]
      · by_cases q2 : 12 * a + (i + 1) ≤ j ∧ j < 12 * a + 12
        · rw [if_pos q2, if_neg (by omega), if_pos (by omega)]
        · rw [if_neg q2, if_neg q1, if_neg (by omega)]
/-- MARK a goes, the last one takes its place -/
theorem R_forgetMark {n : Nat} {g : St_Ref} {L : List MKQ} (h : RI n g) (hR : MR g L) {a : Nat} (ha : a < L.length) : ∃ g' L', m_RRef_forgetMark g (nI a) = some g' ∧ RI n g' ∧ FrA g g' ∧ MR g' L' ∧ (qrow g a :: L').Perm L := by
  obtain ⟨hp, hP, hl, hk⟩ := id hR
  have hs : g_Rmarks g - 1 = nI (L.length - 1) := by rw [hp, n1, pk_sub (by omega)]
  have l1 : (g_RmNumber g).1 = 270 := ri_mNumber h
  have l2 : (g_RmRow g).1 = 270 := ri_mRow h
  have l3 : (g_RmCount g).1 = 270 := ri_mCount h
  have l4 : (g_RmDigest g).1 = 270 := ri_mDigest h
  have c1 : (nI (L.length - 1)).toNatClampNeg = L.length - 1 := nI_clamp (by omega)
  have c2 : (nI a).toNatClampNeg = a := nI_clamp (by omega)
  have i1 : ∀ M, M = 270 → ¬ (nI (L.length - 1) < 0 ∨ M ≤ L.length - 1) := fun M hM => by
    have := nI_in (c := L.length - 1) (N := 270) (by omega) (by omega)
    rw [c1] at this
    rw [hM]; exact this
  have i2 : ∀ M, M = 270 → ¬ (nI a < 0 ∨ M ≤ a) := fun M hM => by
    have := nI_in (c := a) (N := 270) (by omega) (by omega)
    rw [c2] at this
    rw [hM]; exact this
  obtain ⟨g1, hg1⟩ : ∃ g1 : St_Ref, g1 = s_RmDigest (s_RmCount (s_RmRow (s_RmNumber (s_Rmarks g (nI (L.length - 1))) ((g_RmNumber g).1, upd (g_RmNumber g).2 a ((g_RmNumber g).2 (L.length - 1)))) ((g_RmRow g).1, upd (g_RmRow g).2 a ((g_RmRow g).2 (L.length - 1)))) ((g_RmCount g).1, upd (g_RmCount g).2 a ((g_RmCount g).2 (L.length - 1)))) ((g_RmDigest g).1, vp_updL (g_RmDigest g).2 a ((g_RmDigest g).2 (L.length - 1))) := ⟨_, rfl⟩
  have h1 : RI n g1 := by
    rw [hg1]
    refine rs_mDigest (rs_mCount (rs_mRow (rs_mNumber (rs_marks h ?_) ?_) ?_) ?_) ?_
    · exact ⟨L.length - 1, by omega, rfl⟩
    · exact l1
    · exact l2
    · exact l3
    · exact l4
  have hF : FrA g g1 := by rw [hg1]; refine ⟨?_, ?_, ?_, ?_, ?_⟩ <;> simp only [qf_Med, qf_Tap, qf_Par, qf_Hd, qf_Ls]
  have m1 : g_Rmarks g1 = nI (L.length - 1) := by rw [hg1]; simp only [qR_marks]
  have m2 : g_RmPart g1 = g_RmPart g := by rw [hg1]; simp only [qR_mPart]
  have w1 : g_RmNumber g1 = ((g_RmNumber g).1, upd (g_RmNumber g).2 a ((g_RmNumber g).2 (L.length - 1))) := by rw [hg1]; simp only [qR_mNumber]
  have w2 : g_RmRow g1 = ((g_RmRow g).1, upd (g_RmRow g).2 a ((g_RmRow g).2 (L.length - 1))) := by rw [hg1]; simp only [qR_mRow]
  have w3 : g_RmCount g1 = ((g_RmCount g).1, upd (g_RmCount g).2 a ((g_RmCount g).2 (L.length - 1))) := by rw [hg1]; simp only [qR_mCount]
  have w4 : g_RmDigest g1 = ((g_RmDigest g).1, vp_updL (g_RmDigest g).2 a ((g_RmDigest g).2 (L.length - 1))) := by rw [hg1]; simp only [qR_mDigest]
  obtain ⟨g', z1, z2, z3, z4, z5, z6, z7, z8, z9⟩ := R_fg_L (n := n) (a := a) (b := L.length - 1) (by omega) (by omega) 12 FU 0 g1 h1 m1 (by omega) (FU_lt (by omega))
  have hq : ∀ k, k < L.length - 1 → qrow g' k = if k = a then qrow g (L.length - 1) else qrow g k := by
    intro k hk1
    obtain ⟨ca, -, hca, ea⟩ := hk _ (MR_mem hR (show L.length - 1 < L.length by omega))
    obtain ⟨ck, -, hck, ek⟩ := hk _ (MR_mem hR (show k < L.length by omega))
    have ea' : (g_RmCount g).2 (L.length - 1) = nI ca := ea
    have ek' : (g_RmCount g).2 k = nI ck := ek
    unfold qrow
    rw [z5, z6, z7, z8, w1, w2, w3, w4]
    unfold upd vp_updL
    by_cases hka : k = a
    · simp only [if_pos hka]
      refine Prod.ext rfl (Prod.ext rfl (Prod.ext rfl (Prod.ext rfl ?_)))
      refine mls_congr (fun i hi => ?_)
      rw [ea', nI_clamp (by omega)] at hi
      rw [z9, if_pos (by omega), m2, show 12 * k + i - 12 * a = i by omega]
    · simp only [if_neg hka]
      refine Prod.ext rfl (Prod.ext rfl (Prod.ext rfl (Prod.ext rfl ?_)))
      refine mls_congr (fun i hi => ?_)
      rw [ek', nI_clamp (by omega)] at hi
      rw [z9, if_neg (by omega), m2]
  have hp2 : (qrow g a :: lst (qrow g') (L.length - 1)).Perm L := by
    have := lst_forg (f := qrow g) (f' := qrow g') (P := L.length) ha hq
    rw [hl] at this
    exact this
  refine ⟨g', lst (qrow g') (L.length - 1), ?_, z2, hF.tr z3, ⟨by rw [lst_len]; exact z4, by rw [lst_len]; omega, by rw [lst_len], fun m hm => hk m (hp2.mem_iff.mp (List.mem_cons_of_mem _ hm))⟩, hp2⟩
  unfold m_RRef_forgetMark
  rw [hs, c1, c2]
  refine Eq.trans (if_neg (i1 _ l1)) ?_
  refine Eq.trans (if_neg (i2 _ l1)) ?_
  refine Eq.trans (if_neg (i1 _ l2)) ?_
  refine Eq.trans (if_neg (i2 _ l2)) ?_
  refine Eq.trans (if_neg (i1 _ l3)) ?_
  refine Eq.trans (if_neg (i2 _ l3)) ?_
  refine Eq.trans (if_neg (i1 _ l4)) ?_
  refine Eq.trans (if_neg (i2 _ l4)) ?_
  rw [← hg1, n0]
  exact z1
