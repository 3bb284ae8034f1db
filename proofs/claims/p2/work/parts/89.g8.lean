-- THE REFERENCE'S TABLE OF PARTS
def rrow (g : St_Ref) (k : Nat) : PQ := ((g_RpNumber g).2 k, (g_RpGroup g).2 k, (g_RpLength g).2 k, (g_RpRow g).2 k, (g_RpPosition g).2 k)
def RP (g : St_Ref) (P : Nat) : Prop := ((g_RpNumber g).1 = 520 ∧ (g_RpGroup g).1 = 520 ∧ (g_RpPosition g).1 = 520 ∧ (g_RpLength g).1 = 520 ∧ (g_RpRow g).1 = 520) ∧ g_Rparts g = nI P ∧ P ≤ 520
theorem R_fP_L {g : St_Ref} {P : Nat} (h : RP g P) (v : Int32) : ∀ (d fuel j : Nat), j + d = P → d < fuel → (m_RRef_findPart_L2 g fuel v (nI j) = some (-1) ∧ ∀ k, j ≤ k → k < P → (rrow g k).1 ≠ v) ∨ ∃ k, j ≤ k ∧ k < P ∧ m_RRef_findPart_L2 g fuel v (nI j) = some (nI k) ∧ (rrow g k).1 = v := by
  obtain ⟨⟨l1, -⟩, hp, hP⟩ := h
  intro d
  induction d with
  | zero =>
    intro fuel j hj hf
    obtain ⟨fu, rfl, -⟩ := fu1 hf
    left
    rw [m_RRef_findPart_L2, hp, if_pos (nI_le (by omega) (by omega))]
    exact ⟨rfl, fun k h1 h2 => absurd h2 (by omega)⟩
  | succ d ih =>
    intro fuel j hj hf
    obtain ⟨fu, rfl, hf'⟩ := fu1 hf
    rw [m_RRef_findPart_L2, hp, if_neg (nI_ge (by omega) (by omega)), l1, if_neg (nI_in (by omega) (by omega)), nI_clamp (by omega), nI_1]
    by_cases hv : (g_RpNumber g).2 j = v
    · right
      exact ⟨j, by omega, by omega, if_pos hv, hv⟩
    · rw [if_neg hv]
      rcases ih fu (j + 1) (by omega) (by omega) with ⟨e1, e2⟩ | ⟨k, e1, e2, e3, e4⟩
      · left
        refine ⟨e1, fun k h1 h2 => ?_⟩
        by_cases hk : k = j
        · subst hk; exact hv
        · exact e2 k (by omega) h2
      · right
        exact ⟨k, by omega, e2, e3, e4⟩
theorem R_findPart {g : St_Ref} {P : Nat} (h : RP g P) (v : Int32) : (m_RRef_findPart g v = some (-1) ∧ ∀ k, k < P → (rrow g k).1 ≠ v) ∨ ∃ k, k < P ∧ m_RRef_findPart g v = some (nI k) ∧ (rrow g k).1 = v := by
  have hP := h.2.2
  unfold m_RRef_findPart
  rw [n0]
  rcases R_fP_L h v P FU 0 (by omega) (FU_lt (by omega)) with ⟨e1, e2⟩ | ⟨k, e1, e2, e3, e4⟩
  · exact Or.inl ⟨e1, fun k hk => e2 k (by omega) hk⟩
  · exact Or.inr ⟨k, e2, e3, e4⟩
theorem rrow_push {G : St_Ref} {P : Nat} (h : RP G P) (grp : Int32) (pos : Int64) (len row : Int32) (k : Nat) : rrow (rpush G grp pos len row) k = if k = P then (g_RlastPart G + 1, grp, len, row, pos) else rrow G k := by
  have hc : (g_Rparts G).toNatClampNeg = P := by rw [h.2.1]; exact nI_clamp (by have := h.2.2; omega)
  unfold rrow rpush
  simp only [qR_pNumber, qR_pGroup, qR_pLength, qR_pRow, qR_pPosition, hc]
  unfold upd vp_updL
  by_cases hk : k = P
  · simp only [if_pos hk]
  · simp only [if_neg hk]
theorem RP_push {G : St_Ref} {P : Nat} (h : RP G P) (hP : P < 520) (grp : Int32) (pos : Int64) (len row : Int32) : RP (rpush G grp pos len row) (P + 1) := by
  obtain ⟨hl, hp, -⟩ := h
  refine ⟨?_, ?_, by omega⟩
  · unfold rpush
    simp only [qR_pNumber, qR_pGroup, qR_pLength, qR_pRow, qR_pPosition]
    exact hl
  · unfold rpush
    simp only [qR_parts]
    rw [hp, nI_1]
/-- row a goes, the last one takes its place -/
def rforg (g : St_Ref) (a b : Nat) : St_Ref := s_RpRow (s_RpLength (s_RpPosition (s_RpGroup (s_RpNumber (s_Rparts g (nI b)) ((g_RpNumber g).1, upd (g_RpNumber g).2 a ((g_RpNumber g).2 b))) ((g_RpGroup g).1, upd (g_RpGroup g).2 a ((g_RpGroup g).2 b))) ((g_RpPosition g).1, vp_updL (g_RpPosition g).2 a ((g_RpPosition g).2 b))) ((g_RpLength g).1, upd (g_RpLength g).2 a ((g_RpLength g).2 b))) ((g_RpRow g).1, upd (g_RpRow g).2 a ((g_RpRow g).2 b))
theorem R_forgetPart {g : St_Ref} {P : Nat} (h : RP g P) {a : Nat} (ha : a < P) : m_RRef_forgetPart g (nI a) = some (rforg g a (P - 1)) := by
  obtain ⟨⟨l1, l2, l3, l4, l5⟩, hp, hP⟩ := h
  have hs : g_Rparts g - 1 = nI (P - 1) := by rw [hp, n1, pk_sub (by omega)]
  have i1 : ∀ M, M = 520 → ¬ (nI (P - 1) < 0 ∨ M ≤ (nI (P - 1)).toNatClampNeg) := fun M hM => by rw [hM]; exact nI_in (by omega) (by omega)
  have i2 : ∀ M, M = 520 → ¬ (nI a < 0 ∨ M ≤ (nI a).toNatClampNeg) := fun M hM => by rw [hM]; exact nI_in (by omega) (by omega)
  unfold m_RRef_forgetPart
  rw [hs]
  refine Eq.trans (if_neg (i1 _ l1)) ?_
  refine Eq.trans (if_neg (i2 _ l1)) ?_
  refine Eq.trans (if_neg (i1 _ l2)) ?_
  refine Eq.trans (if_neg (i2 _ l2)) ?_
  refine Eq.trans (if_neg (i1 _ l3)) ?_
  refine Eq.trans (if_neg (i2 _ l3)) ?_
  refine Eq.trans (if_neg (i1 _ l4)) ?_
  refine Eq.trans (if_neg (i2 _ l4)) ?_
  refine Eq.trans (if_neg (i1 _ l5)) ?_
  refine Eq.trans (if_neg (i2 _ l5)) ?_
  rw [nI_clamp (show a < 2 ^ 31 by omega), nI_clamp (show P - 1 < 2 ^ 31 by omega)]
  rfl
theorem rrow_forg (g : St_Ref) (a b k : Nat) : rrow (rforg g a b) k = if k = a then rrow g b else rrow g k := by
  unfold rrow rforg
  simp only [qR_pNumber, qR_pGroup, qR_pLength, qR_pRow, qR_pPosition]
  unfold upd vp_updL
  by_cases hk : k = a
  · simp only [if_pos hk]
  · simp only [if_neg hk]
theorem RP_forg {g : St_Ref} {P : Nat} (h : RP g P) (a : Nat) : RP (rforg g a (P - 1)) (P - 1) := by
  obtain ⟨hl, hp, hP⟩ := h
  refine ⟨?_, ?_, by omega⟩
  · unfold rforg
    simp only [qR_pNumber, qR_pGroup, qR_pLength, qR_pRow, qR_pPosition]
    exact hl
  · unfold rforg
    simp only [qR_parts]
-- THE SAME PARTS ON BOTH SIDES: T is the set of their rows
def TC (N : Nat) (x : St_Parts) (P : Nat) (T : PQ → Prop) : Prop := PS N x P ∧ ∀ q, T q ↔ ∃ k, k < P ∧ crow x k = q
def TR (g : St_Ref) (P : Nat) (T : PQ → Prop) : Prop := RP g P ∧ (∀ q, T q ↔ ∃ k, k < P ∧ rrow g k = q) ∧ ∀ i j, i < P → j < P → (rrow g i).1 = (rrow g j).1 → i = j
theorem TC_inj {N P : Nat} {x : St_Parts} {T : PQ → Prop} (h : TC N x P T) {i j : Nat} (hi : i < P) (hj : j < P) (e : (crow x i).1 = (crow x j).1) : i = j := by
  have hs := h.1.2.2.2.2
  rcases Nat.lt_trichotomy i j with h1 | h1 | h1
  · have h2 : (crow x i).1 < (crow x j).1 := hs i j h1 hj
    rw [e] at h2
    exact absurd h2 Int32.lt_irrefl
  · exact h1
  · have h2 : (crow x j).1 < (crow x i).1 := hs j i h1 hi
    rw [e] at h2
    exact absurd h2 Int32.lt_irrefl
/-- a number names one row of the set at most -/
theorem TC_un {N P : Nat} {x : St_Parts} {T : PQ → Prop} (h : TC N x P T) {p q : PQ} (hp : T p) (hq : T q) (e : p.1 = q.1) : p = q := by
  obtain ⟨i, hi, rfl⟩ := (h.2 p).mp hp
  obtain ⟨j, hj, rfl⟩ := (h.2 q).mp hq
  rw [TC_inj h hi hj e]
/-- looking a number up, on both sides -/
theorem T_find {N P P' : Nat} {x : St_Parts} {g : St_Ref} {T : PQ → Prop} (hc : TC N x P T) (hr : TR g P' T) (v : Int32) : (m_Parts_find x v = some (-1) ∧ m_RRef_findPart g v = some (-1) ∧ ∀ q, T q → q.1 ≠ v) ∨ ∃ i j q, i < P ∧ j < P' ∧ T q ∧ q.1 = v ∧ crow x i = q ∧ rrow g j = q ∧ m_Parts_find x v = some (nI i) ∧ m_RRef_findPart g v = some (nI j) := by
  rcases P_find hc.1 v with ⟨e1, e2⟩ | ⟨i, hi, e1, e2⟩
  · left
    have hn : ∀ q, T q → q.1 ≠ v := by
      intro q hq
      obtain ⟨k, hk, rfl⟩ := (hc.2 q).mp hq
      exact e2 k hk
    rcases R_findPart hr.1 v with ⟨f1, f2⟩ | ⟨j, hj, f1, f2⟩
    · exact ⟨e1, f1, hn⟩
    · exact absurd f2 (hn _ ((hr.2.1 _).mpr ⟨j, hj, rfl⟩))
  · right
    have hT : T (crow x i) := (hc.2 _).mpr ⟨i, hi, rfl⟩
    rcases R_findPart hr.1 v with ⟨f1, f2⟩ | ⟨j, hj, f1, f2⟩
    · obtain ⟨k, hk, hke⟩ := (hr.2.1 _).mp hT
      exact absurd (show (rrow g k).1 = v by rw [hke]; exact e2) (f2 k hk)
    · have hT2 : T (rrow g j) := (hr.2.1 _).mpr ⟨j, hj, rfl⟩
      have he : crow x i = rrow g j := TC_un hc hT hT2 (by rw [f2]; exact e2)
      exact ⟨i, j, crow x i, hi, hj, hT, e2, rfl, he.symm, e1, f1⟩
theorem TC_add {N P : Nat} {x : St_Parts} {T : PQ → Prop} (h : TC N x P T) (hP : P < N) (q : PQ) (hq : ∀ p, T p → p.1 ≠ q.1) : ∃ x', m_Parts_add x q.1 q.2.1 q.2.2.1 q.2.2.2.1 q.2.2.2.2 = some x' ∧ TC N x' (P + 1) (fun p => T p ∨ p = q) := by
  obtain ⟨x', p, a1, a2, a3, a4⟩ := P_add h.1 hP q (fun k hk => hq (crow x k) ((h.2 _).mpr ⟨k, hk, rfl⟩))
  refine ⟨x', a1, a2, fun r => ⟨?_, ?_⟩⟩
  · rintro (hr | rfl)
    · obtain ⟨k, hk, rfl⟩ := (h.2 r).mp hr
      by_cases h1 : k < p
      · exact ⟨k, by omega, by rw [a4 k (by omega), if_pos h1]⟩
      · exact ⟨k + 1, by omega, by rw [a4 (k + 1) (by omega), if_neg (by omega), if_neg (by omega), Nat.add_sub_cancel]⟩
    · exact ⟨p, by omega, by rw [a4 p a3, if_neg (by omega), if_pos rfl]⟩
  · rintro ⟨k, hk, rfl⟩
    rw [a4 k (by omega)]
    by_cases h1 : k < p
    · rw [if_pos h1]; exact Or.inl ((h.2 _).mpr ⟨k, by omega, rfl⟩)
    · rw [if_neg h1]
      by_cases h2 : k = p
      · rw [if_pos h2]; exact Or.inr rfl
      · rw [if_neg h2]; exact Or.inl ((h.2 _).mpr ⟨k - 1, by omega, rfl⟩)
theorem TR_push {G : St_Ref} {P : Nat} {T : PQ → Prop} (h : TR G P T) (hP : P < 520) (grp : Int32) (pos : Int64) (len row : Int32) (hq : ∀ p, T p → p.1 ≠ g_RlastPart G + 1) : TR (rpush G grp pos len row) (P + 1) (fun p => T p ∨ p = (g_RlastPart G + 1, grp, len, row, pos)) := by
  obtain ⟨h1, h2, h3⟩ := h
  refine ⟨RP_push h1 hP grp pos len row, fun r => ⟨?_, ?_⟩, fun i j hi hj e => ?_⟩
  · rintro (hr | rfl)
    · obtain ⟨k, hk, rfl⟩ := (h2 r).mp hr
      exact ⟨k, by omega, by rw [rrow_push h1, if_neg (by omega)]⟩
    · exact ⟨P, by omega, by rw [rrow_push h1, if_pos rfl]⟩
  · rintro ⟨k, hk, rfl⟩
    rw [rrow_push h1]
    by_cases hk2 : k = P
    · rw [if_pos hk2]; exact Or.inr rfl
    · rw [if_neg hk2]; exact Or.inl ((h2 _).mpr ⟨k, by omega, rfl⟩)
  · rw [rrow_push h1, rrow_push h1] at e
    by_cases i1 : i = P
    · by_cases j1 : j = P
      · omega
      · rw [if_pos i1, if_neg j1] at e
        exact absurd e.symm (hq _ ((h2 _).mpr ⟨j, by omega, rfl⟩))
    · by_cases j1 : j = P
      · rw [if_neg i1, if_pos j1] at e
        exact absurd e (hq _ ((h2 _).mpr ⟨i, by omega, rfl⟩))
      · rw [if_neg i1, if_neg j1] at e
        exact h3 i j (by omega) (by omega) e
theorem TR_forg {g : St_Ref} {P : Nat} {T : PQ → Prop} (h : TR g P T) {a : Nat} (ha : a < P) : TR (rforg g a (P - 1)) (P - 1) (fun p => T p ∧ p.1 ≠ (rrow g a).1) := by
  obtain ⟨h1, h2, h3⟩ := h
  refine ⟨RP_forg h1 a, fun r => ⟨?_, ?_⟩, fun i j hi hj e => ?_⟩
  · rintro ⟨hr, hn⟩
    obtain ⟨k, hk, rfl⟩ := (h2 r).mp hr
    have hka : k ≠ a := fun e => hn (by rw [e])
    by_cases hk2 : k = P - 1
    · exact ⟨a, by omega, by rw [rrow_forg, if_pos rfl, hk2]⟩
    · exact ⟨k, by omega, by rw [rrow_forg, if_neg hka]⟩
  · rintro ⟨k, hk, rfl⟩
    rw [rrow_forg]
    by_cases hk2 : k = a
    · rw [if_pos hk2]
      refine ⟨(h2 _).mpr ⟨P - 1, by omega, rfl⟩, fun e => ?_⟩
      have := h3 _ _ (by omega) ha e
      omega
    · rw [if_neg hk2]
      refine ⟨(h2 _).mpr ⟨k, by omega, rfl⟩, fun e => ?_⟩
      exact hk2 (h3 _ _ (by omega) ha e)
  · rw [rrow_forg, rrow_forg] at e
    by_cases i1 : i = a
    · by_cases j1 : j = a
      · omega
      · rw [if_pos i1, if_neg j1] at e
        have := h3 _ _ (by omega) (by omega) e
        omega
    · by_cases j1 : j = a
      · rw [if_neg i1, if_pos j1] at e
        have := h3 _ _ (by omega) (by omega) e
        omega
      · rw [if_neg i1, if_neg j1] at e
        exact h3 i j (by omega) (by omega) e
