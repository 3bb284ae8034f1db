-- THE CLASS'S TABLE OF PARTS
abbrev PQ : Type := Int32 × Int32 × Int32 × Int32 × Int64
/-- number, group, length, row, position -/
def crow (x : St_Parts) (k : Nat) : PQ := (x.1.2 k, x.2.1.2 k, x.2.2.1.2 k, x.2.2.2.1.2 k, x.2.2.2.2.1.2 k)
/-- P PARTS by rising numbers, in a room of N -/
def PS (N : Nat) (x : St_Parts) (P : Nat) : Prop := (x.1.1 = N ∧ x.2.1.1 = N ∧ x.2.2.1.1 = N ∧ x.2.2.2.1.1 = N ∧ x.2.2.2.2.1.1 = N) ∧ x.2.2.2.2.2 = nI P ∧ P ≤ N ∧ N ≤ 512 ∧ ∀ i j, i < j → j < P → x.1.2 i < x.1.2 j
/-- the same without an order -/
def PL (N : Nat) (x : St_Parts) (P : Nat) : Prop := (x.1.1 = N ∧ x.2.1.1 = N ∧ x.2.2.1.1 = N ∧ x.2.2.2.1.1 = N ∧ x.2.2.2.2.1.1 = N) ∧ x.2.2.2.2.2 = nI P ∧ P ≤ N ∧ N ≤ 512
theorem PS.l {N P : Nat} {x : St_Parts} (h : PS N x P) : PL N x P := ⟨h.1, h.2.1, h.2.2.1, h.2.2.2.1⟩
theorem P_has1 {N P : Nat} {x : St_Parts} (h : PL N x P) {k : Nat} (hk : k < P) : m_Parts_has x (nI k) = some 1 := by
  obtain ⟨⟨h1, -⟩, h2, h3, h4⟩ := h
  unfold m_Parts_has
  rw [h1, h2, if_neg (nI_pos (by omega)), if_neg (nI_ge hk (by omega)), if_neg (nI_ge (by omega) (by omega))]
theorem P_has0 {N P : Nat} {x : St_Parts} (h : PL N x P) {v : Int32} (hv : v < 0 ∨ nI P ≤ v) : m_Parts_has x v = some 0 := by
  obtain ⟨⟨h1, -⟩, h2, h3, h4⟩ := h
  unfold m_Parts_has
  rw [h1, h2]
  rcases hv with hv | hv
  · rw [if_pos hv]
  · by_cases h0 : v < 0
    · rw [if_pos h0]
    · rw [if_neg h0, if_pos hv]
theorem P_in {N P k : Nat} (hP : P ≤ N) (hN : N ≤ 512) (hk : k < P) {M : Nat} (hM : M = N) : ¬ (nI k < 0 ∨ M ≤ (nI k).toNatClampNeg) := by
  rw [hM]; exact nI_in (by omega) (by omega)
theorem P_numberAt {N P : Nat} {x : St_Parts} (h : PL N x P) {k : Nat} (hk : k < P) : m_Parts_numberAt x (nI k) = some (x.1.2 k) := by
  unfold m_Parts_numberAt
  rw [bs (P_has1 h hk), if_neg e10, if_neg (P_in h.2.2.1 h.2.2.2 hk h.1.1), nI_clamp (by have := h.2.2; omega)]
theorem P_groupAt {N P : Nat} {x : St_Parts} (h : PL N x P) {k : Nat} (hk : k < P) : m_Parts_groupAt x (nI k) = some (x.2.1.2 k) := by
  unfold m_Parts_groupAt
  rw [bs (P_has1 h hk), if_neg e10, if_neg (P_in h.2.2.1 h.2.2.2 hk h.1.2.1), nI_clamp (by have := h.2.2; omega)]
theorem P_lengthAt {N P : Nat} {x : St_Parts} (h : PL N x P) {k : Nat} (hk : k < P) : m_Parts_lengthAt x (nI k) = some (x.2.2.1.2 k) := by
  unfold m_Parts_lengthAt
  rw [bs (P_has1 h hk), if_neg e10, if_neg (P_in h.2.2.1 h.2.2.2 hk h.1.2.2.1), nI_clamp (by have := h.2.2; omega)]
theorem P_rowAt {N P : Nat} {x : St_Parts} (h : PL N x P) {k : Nat} (hk : k < P) : m_Parts_rowAt x (nI k) = some (x.2.2.2.1.2 k) := by
  unfold m_Parts_rowAt
  rw [bs (P_has1 h hk), if_neg e10, if_neg (P_in h.2.2.1 h.2.2.2 hk h.1.2.2.2.1), nI_clamp (by have := h.2.2; omega)]
theorem P_positionAt {N P : Nat} {x : St_Parts} (h : PL N x P) {k : Nat} (hk : k < P) : m_Parts_positionAt x (nI k) = some (x.2.2.2.2.1.2 k) := by
  unfold m_Parts_positionAt
  rw [bs (P_has1 h hk), if_neg e10, if_neg (P_in h.2.2.1 h.2.2.2 hk h.1.2.2.2.2), nI_clamp (by have := h.2.2; omega)]
theorem P_numberAt0 {N P : Nat} {x : St_Parts} (h : PL N x P) {v : Int32} (hv : v < 0 ∨ nI P ≤ v) : m_Parts_numberAt x v = some (-1) := by
  unfold m_Parts_numberAt
  rw [bs (P_has0 h hv), if_pos rfl]
theorem P_rowAt0 {N P : Nat} {x : St_Parts} (h : PL N x P) {v : Int32} (hv : v < 0 ∨ nI P ≤ v) : m_Parts_rowAt x v = some (-1) := by
  unfold m_Parts_rowAt
  rw [bs (P_has0 h hv), if_pos rfl]
theorem P_find {N P : Nat} {x : St_Parts} (h : PS N x P) (v : Int32) : (m_Parts_find x v = some (-1) ∧ ∀ k, k < P → x.1.2 k ≠ v) ∨ ∃ k, k < P ∧ m_Parts_find x v = some (nI k) ∧ x.1.2 k = v := by
  obtain ⟨hl, h2, h3, h4, hs⟩ := id h
  have hx : x.1 = (N, x.1.2) := Prod.ext hl.1 rfl
  obtain ⟨p, e1, e2, e3, e4⟩ := C_placeOf (N := N) (P := P) (f := x.1.2) (by omega) h3 hs v
  have e1' : m_Log_placeOf x.1 x.2.2.2.2.2 v = some (nI p) := by rw [hx, h2]; exact e1
  unfold m_Parts_find
  rw [bs e1']
  by_cases hp : p < P
  · rw [bs (P_numberAt h.l hp), h2]
    by_cases hv : x.1.2 p = v
    · right
      refine ⟨p, hp, ?_, hv⟩
      rw [if_pos hv, if_neg (nI_ge hp (by omega))]
    · left
      rw [if_neg hv]
      refine ⟨rfl, fun k hk he => ?_⟩
      by_cases hkp : k < p
      · have := e3 k hkp
        rw [he] at this
        exact Int32.lt_irrefl this
      · by_cases hke : k = p
        · subst hke; exact hv he
        · have h5 := hs p k (by omega) hk
          have h6 := e4 p (by omega) hp
          rw [he] at h5
          exact Int32.lt_irrefl (Int32.lt_of_lt_of_le h5 h6)
  · left
    have hpe : p = P := by omega
    subst hpe
    rw [bs (P_numberAt0 h.l (Or.inr (nI_le (Nat.le_refl _) (by omega)))), h2]
    refine ⟨?_, fun k hk he => ?_⟩
    · split
      · rw [if_pos (nI_le (Nat.le_refl _) (by omega))]
      · rfl
    · have := e3 k hk
      rw [he] at this
      exact Int32.lt_irrefl this
/-- row q stands at b -/
def upR (x : St_Parts) (b : Nat) (q : PQ) : St_Parts := ((x.1.1, upd x.1.2 b q.1), (x.2.1.1, upd x.2.1.2 b q.2.1), (x.2.2.1.1, upd x.2.2.1.2 b q.2.2.1), (x.2.2.2.1.1, upd x.2.2.2.1.2 b q.2.2.2.1), (x.2.2.2.2.1.1, vp_updL x.2.2.2.2.1.2 b q.2.2.2.2), x.2.2.2.2.2)
theorem crow_upR (x : St_Parts) (b : Nat) (q : PQ) (k : Nat) : crow (upR x b q) k = if k = b then q else crow x k := by
  unfold crow upR upd vp_updL
  by_cases h : k = b
  · simp only [if_pos h]
  · simp only [if_neg h]
theorem PL_upR {N P : Nat} {x : St_Parts} (h : PL N x P) (b : Nat) (q : PQ) : PL N (upR x b q) P := h
theorem P_move {N P : Nat} {x : St_Parts} (h : PL N x P) {a b : Nat} (ha : a < P) (hb : b < P) : m_Parts_move x (nI a) (nI b) = some (upR x b (crow x a)) := by
  have i1 : ∀ M, M = N → ¬ (nI a < 0 ∨ M ≤ (nI a).toNatClampNeg) := fun M hM => P_in h.2.2.1 h.2.2.2 ha hM
  have i2 : ∀ M, M = N → ¬ (nI b < 0 ∨ M ≤ (nI b).toNatClampNeg) := fun M hM => P_in h.2.2.1 h.2.2.2 hb hM
  unfold m_Parts_move
  refine Eq.trans (bs (P_has1 h ha)) ?_
  refine Eq.trans (if_neg e10) ?_
  refine Eq.trans (bs (P_has1 h hb)) ?_
  refine Eq.trans (if_neg e10) ?_
  obtain ⟨⟨l1, l2, l3, l4, l5⟩, -, h3, h4⟩ := h
  refine Eq.trans (if_neg (i1 _ l1)) ?_
  refine Eq.trans (if_neg (i2 _ l1)) ?_
  refine Eq.trans (if_neg (i1 _ l2)) ?_
  refine Eq.trans (if_neg (i2 _ l2)) ?_
  refine Eq.trans (if_neg (i1 _ l3)) ?_
  refine Eq.trans (if_neg (i2 _ l3)) ?_
  refine Eq.trans (if_neg (i1 _ l4)) ?_
  refine Eq.trans (if_neg (i2 _ l4)) ?_
  refine Eq.trans (if_neg (i1 _ l5)) ?_
  refine Eq.trans (if_neg (i2 _ l5)) ?_
  rw [nI_clamp (show a < 2 ^ 31 by omega), nI_clamp (show b < 2 ^ 31 by omega)]
  rfl
theorem P_add_L {N P : Nat} {x0 : St_Parts} {p : Nat} (hp : p < P) (q : PQ) : ∀ (d fuel : Nat) (x : St_Parts) (i : Nat), PL N x P → p + d = i → i < P → (∀ k, k ≤ i → crow x k = crow x0 k) → (∀ k, i < k → k < P → crow x k = crow x0 (k - 1)) → d < fuel → ∃ x', m_Parts_add_L45 fuel x q.1 q.2.1 q.2.2.1 q.2.2.2.1 q.2.2.2.2 (nI p) (nI i) = some x' ∧ PL N x' P ∧ ∀ k, k < P → crow x' k = if k < p then crow x0 k else if k = p then q else crow x0 (k - 1) := by
  intro d
  induction d with
  | zero =>
    intro fuel x i h hi hiP ha hb hf
    obtain ⟨fu, rfl, -⟩ := fu1 hf
    have hie : i = p := by omega
    subst hie
    refine ⟨upR x i q, ?_, PL_upR h _ _, fun k hk => ?_⟩
    · have i1 : ∀ M, M = N → ¬ (nI i < 0 ∨ M ≤ (nI i).toNatClampNeg) := fun M hM => P_in h.2.2.1 h.2.2.2 hp hM
      rw [m_Parts_add_L45]
      refine Eq.trans (if_pos (Int32.le_refl _)) ?_
      refine Eq.trans (bs (P_has1 h hp)) ?_
      refine Eq.trans (if_neg e10) ?_
      obtain ⟨⟨l1, l2, l3, l4, l5⟩, -, h3, h4⟩ := h
      refine Eq.trans (if_neg (i1 _ l1)) ?_
      refine Eq.trans (if_neg (i1 _ l2)) ?_
      refine Eq.trans (if_neg (i1 _ l3)) ?_
      refine Eq.trans (if_neg (i1 _ l4)) ?_
      refine Eq.trans (if_neg (i1 _ l5)) ?_
      rw [nI_clamp (show i < 2 ^ 31 by omega)]
      rfl
    · rw [crow_upR]
      by_cases h1 : k < i
      · rw [if_neg (by omega), if_pos h1]; exact ha k (by omega)
      · rw [if_neg h1]
        by_cases h2 : k = i
        · rw [if_pos h2, if_pos h2]
        · rw [if_neg h2, if_neg h2]; exact hb k (by omega) hk
  | succ d ih =>
    intro fuel x i h hi hiP ha hb hf
    obtain ⟨fu, rfl, hf'⟩ := fu1 hf
    have h512 := h.2.2
    rw [m_Parts_add_L45]
    rw [if_neg (nI_ge (show p < i by omega) (by omega)), n1, pk_sub (show 1 ≤ i by omega), bs (P_move h (a := i - 1) (b := i) (by omega) hiP), show nI i + (-nI 1) = nI (i - 1) by rw [← n1]; exact sb_m1 (by omega)]
    refine ih fu (upR x i (crow x (i - 1))) (i - 1) (PL_upR h _ _) (by omega) (by omega) (fun k hk => ?_) (fun k hk hkP => ?_) (by omega)
    · rw [crow_upR, if_neg (by omega)]; exact ha k (by omega)
    · rw [crow_upR]
      by_cases h2 : k = i
      · rw [if_pos h2, ha (i - 1) (by omega), h2]
      · rw [if_neg h2]; exact hb k (by omega) hkP
/-- one more, at its place -/
theorem P_add {N P : Nat} {x : St_Parts} (h : PS N x P) (hP : P < N) (q : PQ) (hq : ∀ k, k < P → x.1.2 k ≠ q.1) : ∃ x' p, m_Parts_add x q.1 q.2.1 q.2.2.1 q.2.2.2.1 q.2.2.2.2 = some x' ∧ PS N x' (P + 1) ∧ p ≤ P ∧ ∀ k, k ≤ P → crow x' k = if k < p then crow x k else if k = p then q else crow x (k - 1) := by
  obtain ⟨hl, h2, h3, h4, hs⟩ := id h
  have hx : x.1 = (N, x.1.2) := Prod.ext hl.1 rfl
  obtain ⟨p, e1, e2, e3, e4⟩ := C_placeOf (N := N) (P := P) (f := x.1.2) (by omega) h3 hs q.1
  have e1' : m_Log_placeOf x.1 x.2.2.2.2.2 q.1 = some (nI p) := by rw [hx, h2]; exact e1
  obtain ⟨x1, hx1⟩ : ∃ x1 : St_Parts, x1 = (x.1, x.2.1, x.2.2.1, x.2.2.2.1, x.2.2.2.2.1, nI (P + 1)) := ⟨_, rfl⟩
  have hL1 : PL N x1 (P + 1) := by rw [hx1]; exact ⟨hl, rfl, by omega, h4⟩
  have hc1 : ∀ k, crow x1 k = crow x k := by intro k; rw [hx1]; rfl
  obtain ⟨x', a1, a2, a3⟩ := P_add_L (N := N) (P := P + 1) (x0 := x1) (p := p) (by omega) q (P - p) FU x1 P hL1 (by omega) (by omega) (fun k _ => rfl) (fun k hk1 hk2 => absurd hk2 (by omega)) (FU_lt (by omega))
  refine ⟨x', p, ?_, ?_, e2, fun k hk => ?_⟩
  · unfold m_Parts_add
    refine Eq.trans (if_pos (show x.2.2.2.2.2 < nI x.1.1 by rw [h2, hl.1]; exact nI_lt hP (by omega))) ?_
    refine Eq.trans (bs e1') ?_
    rw [h2, nI_1, n1, pk_sub (by omega), ← hx1]
    exact a1
  · refine ⟨a2.1, a2.2.1, a2.2.2.1, a2.2.2.2, fun i j hij hj => ?_⟩
    have ci := congrArg (fun r : PQ => r.1) (a3 i (by omega))
    have cj := congrArg (fun r : PQ => r.1) (a3 j (by omega))
    simp only [hc1] at ci cj
    show (crow x' i).1 < (crow x' j).1
    rw [show (crow x' i).1 = _ from ci, show (crow x' j).1 = _ from cj]
    by_cases i1 : i < p
    · rw [if_pos i1]
      by_cases j1 : j < p
      · rw [if_pos j1]; exact hs i j hij (by omega)
      · rw [if_neg j1]
        by_cases j2 : j = p
        · rw [if_pos j2]; exact e3 i i1
        · rw [if_neg j2]; exact hs i (j - 1) (by omega) (by omega)
    · rw [if_neg i1, if_neg (show ¬ j < p by omega), if_neg (show ¬ j = p by omega)]
      by_cases i2 : i = p
      · rw [if_pos i2]
        have h5 := e4 (j - 1) (by omega) (by omega)
        have h6 := hq (j - 1) (by omega)
        exact Int32.lt_of_le_of_ne h5 (fun e => h6 e.symm)
      · rw [if_neg i2]; exact hs (i - 1) (j - 1) (by omega) (by omega)
  · have := a3 k (by omega)
    simp only [hc1] at this
    exact this
