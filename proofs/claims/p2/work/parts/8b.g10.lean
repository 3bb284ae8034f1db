-- MARKS come and go in the class's tables
def mset (x : St_Marks) (p : Nat) (num cnt row : Int32) (dig : Int64) : St_Marks := ((x.1.1, upd x.1.2 p num), (x.2.1.1, upd x.2.1.2 p cnt), (x.2.2.1.1, upd x.2.2.1.2 p row), x.2.2.2.1, (x.2.2.2.2.1.1, vp_updL x.2.2.2.2.1.2 p dig), x.2.2.2.2.2)
theorem mrow_mset (x : St_Marks) (p : Nat) (num cnt row : Int32) (dig : Int64) (k : Nat) : mrow (mset x p num cnt row dig) k = if k = p then (num, cnt, row, dig, mls cnt x.2.2.2.1.2 p) else mrow x k := by
  unfold mrow mset upd vp_updL
  by_cases h : k = p
  · subst h
    simp only [if_true]
  · simp only [if_neg h]
theorem ML_mset {N P : Nat} {x : St_Marks} (h : ML N x P) (p : Nat) (num row : Int32) (dig : Int64) {c : Nat} (hc : c ≤ 12) : ML N (mset x p num (nI c) row dig) P := by
  refine ⟨h.1, h.2.1, h.2.2.1, h.2.2.2.1, fun k hk => ?_⟩
  show ∃ c' : Nat, c' ≤ 12 ∧ (if k = p then nI c else x.2.1.2 k) = nI c'
  split
  · exact ⟨c, hc, rfl⟩
  · exact h.2.2.2.2 k hk
theorem clamp12 {c : Nat} (hc : c ≤ 12) : jmax 0 (jmin 12 (nI c)) = nI c := by
  rcases (show c = 0 ∨ c = 1 ∨ c = 2 ∨ c = 3 ∨ c = 4 ∨ c = 5 ∨ c = 6 ∨ c = 7 ∨ c = 8 ∨ c = 9 ∨ c = 10 ∨ c = 11 ∨ c = 12 by omega) with rfl | rfl | rfl | rfl | rfl | rfl | rfl | rfl | rfl | rfl | rfl | rfl | rfl <;> decide +kernel
theorem M_add_L {N P : Nat} {x0 : St_Marks} {p : Nat} (hp : p < P) (num row : Int32) (dig : Int64) {c : Nat} (hc : c ≤ 12) : ∀ (d fuel : Nat) (x : St_Marks) (i : Nat), ML N x P → p + d = i → i < P → (∀ k, k ≤ i → mrow x k = mrow x0 k) → (∀ k, i < k → k < P → mrow x k = mrow x0 (k - 1)) → d < fuel → ∃ x', m_Marks_add_L46 fuel x num (nI c) row dig (nI p) (nI i) = some (nI p, x') ∧ ML N x' P ∧ (∀ k, k < P → k ≠ p → mrow x' k = if k < p then mrow x0 k else mrow x0 (k - 1)) ∧ x'.1.2 p = num ∧ x'.2.1.2 p = nI c ∧ x'.2.2.1.2 p = row ∧ x'.2.2.2.2.1.2 p = dig := by
  intro d
  induction d with
  | zero =>
    intro fuel x i h hi hiP ha hb hf
    obtain ⟨fu, rfl, -⟩ := fu1 hf
    have hie : i = p := by omega
    subst hie
    refine ⟨mset x i num (nI c) row dig, ?_, ML_mset h _ _ _ _ hc, fun k hk hne => ?_, ?_, ?_, ?_, ?_⟩
    · have i1 : ∀ M, M = N → ¬ (nI i < 0 ∨ M ≤ (nI i).toNatClampNeg) := fun M hM => M_in h.2.2.1 h.2.2.2.1 hp hM
      rw [m_Marks_add_L46]
      refine Eq.trans (if_pos (Int32.le_refl _)) ?_
      refine Eq.trans (bs (M_has1 h hp)) ?_
      refine Eq.trans (if_neg e10) ?_
      obtain ⟨⟨l1, l2, l3, l4, l5⟩, -, h3, h4, -⟩ := h
      refine Eq.trans (if_neg (i1 _ l1)) ?_
      refine Eq.trans (if_neg (i1 _ l2)) ?_
      refine Eq.trans (if_neg (i1 _ l3)) ?_
      refine Eq.trans (if_neg (i1 _ l5)) ?_
      rw [nI_clamp (show i < 2 ^ 31 by omega), clamp12 hc]
      rfl
    · rw [mrow_mset, if_neg hne]
      by_cases h1 : k < i
      · rw [if_pos h1]; exact ha k (by omega)
      · rw [if_neg h1]; exact hb k (by omega) hk
    · show (if i = i then num else _) = num
      rw [if_pos rfl]
    · show (if i = i then nI c else _) = nI c
      rw [if_pos rfl]
    · show (if i = i then row else _) = row
      rw [if_pos rfl]
    · show (if i = i then dig else _) = dig
      rw [if_pos rfl]
  | succ d ih =>
    intro fuel x i h hi hiP ha hb hf
    obtain ⟨fu, rfl, hf'⟩ := fu1 hf
    have hPN := h.2.2.1
    have h256 := h.2.2.2.1
    rw [m_Marks_add_L46]
    rw [if_neg (nI_ge (show p < i by omega) (by omega)), n1, pk_sub (show 1 ≤ i by omega), bs (M_move h (a := i - 1) (b := i) (by omega) hiP (by omega)), show nI i + (-nI 1) = nI (i - 1) by rw [← n1]; exact sb_m1 (by omega)]
    refine ih fu (mcp x (i - 1) i) (i - 1) (ML_mcp h (by omega)) (by omega) (by omega) (fun k hk => ?_) (fun k hk hkP => ?_) (by omega)
    · rw [mrow_mcp h (by omega) (by omega), if_neg (by omega)]; exact ha k (by omega)
    · rw [mrow_mcp h (by omega) (by omega)]
      by_cases h2 : k = i
      · rw [if_pos h2, ha (i - 1) (by omega), h2]
      · rw [if_neg h2]; exact hb k (by omega) hkP
theorem M_add {N P : Nat} {x : St_Marks} (h : MS N x P) (hP : P < N) (num row : Int32) (dig : Int64) {c : Nat} (hc : c ≤ 12) (hq : ∀ k, k < P → x.1.2 k ≠ num) : ∃ x' p, m_Marks_add x num (nI c) row dig = some (nI p, x') ∧ MS N x' (P + 1) ∧ p ≤ P ∧ (∀ k, k ≤ P → k ≠ p → mrow x' k = if k < p then mrow x k else mrow x (k - 1)) ∧ x'.1.2 p = num ∧ x'.2.1.2 p = nI c ∧ x'.2.2.1.2 p = row ∧ x'.2.2.2.2.1.2 p = dig := by
  obtain ⟨hML, hs⟩ := h
  obtain ⟨hl, h2, h3, h4, h5⟩ := id hML
  have hx : x.1 = (N, x.1.2) := Prod.ext hl.1 rfl
  obtain ⟨p, e1, e2, e3, e4⟩ := C_placeOf (N := N) (P := P) (f := x.1.2) (by omega) h3 hs num
  have e1' : m_Log_placeOf x.1 x.2.2.2.2.2 num = some (nI p) := by rw [hx, h2]; exact e1
  obtain ⟨x1, hx1⟩ : ∃ x1 : St_Marks, x1 = (x.1, x.2.1, x.2.2.1, x.2.2.2.1, x.2.2.2.2.1, nI (P + 1)) := ⟨_, rfl⟩
  have hL1 : ML N x1 (P + 1) := by rw [hx1]; exact ⟨hl, rfl, by omega, h4, h5⟩
  have hc1 : ∀ k, mrow x1 k = mrow x k := by intro k; rw [hx1]; rfl
  obtain ⟨x', a1, a2, a3, a4, a5, a6, a7⟩ := M_add_L (N := N) (P := P + 1) (x0 := x1) (p := p) (by omega) num row dig hc (P - p) FU x1 P hL1 (by omega) (by omega) (fun k _ => rfl) (fun k hk1 hk2 => absurd hk2 (by omega)) (FU_lt (by omega))
  refine ⟨x', p, ?_, ⟨a2, fun i j hij hj => ?_⟩, e2, fun k hk hne => ?_, a4, a5, a6, a7⟩
  · unfold m_Marks_add
    refine Eq.trans (if_pos (show x.2.2.2.2.2 < nI x.1.1 by rw [h2, hl.1]; exact nI_lt hP (by omega))) ?_
    refine Eq.trans (bs e1') ?_
    rw [h2, nI_1, n1, pk_sub (by omega), ← hx1]
    exact a1
  · have nm : ∀ k, k < P + 1 → x'.1.2 k = if k < p then x.1.2 k else if k = p then num else x.1.2 (k - 1) := by
      intro k hk
      by_cases hkp : k = p
      · subst hkp
        rw [if_neg (by omega), if_pos rfl]; exact a4
      · have := congrArg (fun r : MKQ => r.1) (a3 k hk hkp)
        simp only [hc1] at this
        rw [if_neg hkp]
        by_cases h1 : k < p
        · rw [if_pos h1] at this ⊢; exact this
        · rw [if_neg h1] at this ⊢; exact this
    rw [nm i (by omega), nm j hj]
    by_cases i1 : i < p
    · rw [if_pos i1]
      by_cases j1 : j < p
      · rw [if_pos j1]; exact hs i j hij (by omega)
      · rw [if_neg j1]
        by_cases j2 : j = p
        · rw [if_pos j2]; exact e3 i i1
        · rw [if_neg j2]; exact hs i (j - 1) (by omega) (by omega)
    · rw [if_neg i1, if_neg (show ¬ j < p by omega), if_neg (show ¬ j = p by omega)]
      by_cases i2 : i = p
      · rw [if_pos i2]
        exact Int32.lt_of_le_of_ne (e4 (j - 1) (by omega) (by omega)) (fun e => hq (j - 1) (by omega) e.symm)
      · rw [if_neg i2]; exact hs (i - 1) (j - 1) (by omega) (by omega)
  · have := a3 k (by omega) hne
    simp only [hc1] at this
    exact this
/-- PART i of MARK k is set -/
def mpt (x : St_Marks) (k i : Nat) (v : Int32) : St_Marks := (x.1, x.2.1, x.2.2.1, (x.2.2.2.1.1, upd x.2.2.2.1.2 (12 * k + i) v), x.2.2.2.2.1, x.2.2.2.2.2)
theorem M_setPart {N P : Nat} {x : St_Marks} (h : ML N x P) {k i c : Nat} (hk : k < P) (hc : x.2.1.2 k = nI c) (hc2 : c ≤ 12) (hi : i < c) (v : Int32) : m_Marks_setPart x (nI k) (nI i) v = some (mpt x k i v) := by
  have h3 := h.2.2.1
  have h4 := h.2.2.2.1
  unfold m_Marks_setPart
  rw [if_neg (nI_pos (by omega)), bs (M_countAt h hk), hc, if_neg (nI_ge hi (by omega)), show (12 : Int32) = nI 12 by decide +kernel, pk_mul, nI_add, if_neg (show ¬ (nI (k * 12 + i) < 0 ∨ x.2.2.2.1.1 ≤ (nI (k * 12 + i)).toNatClampNeg) by rw [h.1.2.2.2.1]; exact nI_in (by omega) (by omega)), nI_clamp (by omega), Nat.mul_comm k 12]
  rfl
theorem M_rem_L {N P : Nat} {x0 : St_Marks} {a : Nat} (ha : a < P) : ∀ (d fuel : Nat) (x : St_Marks) (i : Nat), ML N x P → i + d = P → a < i → (∀ k, k < a → mrow x k = mrow x0 k) → (∀ k, a ≤ k → k + 1 < i → mrow x k = mrow x0 (k + 1)) → (∀ k, i ≤ k → k < P → mrow x k = mrow x0 k) → d < fuel → ∃ x', m_Marks_remove_L13 fuel x (nI i) = some x' ∧ ML N x' (P - 1) ∧ (∀ k, k < P - 1 → mrow x' k = if k < a then mrow x0 k else mrow x0 (k + 1)) := by
  intro d
  induction d with
  | zero =>
    intro fuel x i h hi hai h1 h2 h3 hf
    obtain ⟨fu, rfl, -⟩ := fu1 hf
    obtain ⟨hl, hs, hP, hN, hc⟩ := id h
    refine ⟨(x.1, x.2.1, x.2.2.1, x.2.2.2.1, x.2.2.2.2.1, nI (P - 1)), ?_, ⟨hl, rfl, by omega, hN, hc⟩, fun k hk => ?_⟩
    · rw [m_Marks_remove_L13, hs, if_pos (nI_le (by omega) (by omega)), n1, pk_sub (by omega)]
    · show mrow x k = _
      by_cases hk2 : k < a
      · rw [if_pos hk2]; exact h1 k hk2
      · rw [if_neg hk2]; exact h2 k (by omega) (by omega)
  | succ d ih =>
    intro fuel x i h hi hai h1 h2 h3 hf
    obtain ⟨fu, rfl, hf'⟩ := fu1 hf
    have hPN := h.2.2.1
    have h256 := h.2.2.2.1
    rw [m_Marks_remove_L13, h.2.1, if_neg (nI_ge (by omega) (by omega)), n1, pk_sub (show 1 ≤ i by omega), bs (M_move h (a := i) (b := i - 1) (by omega) (by omega) (by omega)), nI_add]
    refine ih fu (mcp x i (i - 1)) (i + 1) (ML_mcp h (by omega)) (by omega) (by omega) (fun k hk => ?_) (fun k hk1 hk2 => ?_) (fun k hk1 hk2 => ?_) (by omega)
    · rw [mrow_mcp h (by omega) (by omega), if_neg (by omega)]; exact h1 k hk
    · rw [mrow_mcp h (by omega) (by omega)]
      by_cases hk3 : k = i - 1
      · rw [if_pos hk3, h3 i (by omega) (by omega), hk3, show i - 1 + 1 = i by omega]
      · rw [if_neg hk3]; exact h2 k hk1 (by omega)
    · rw [mrow_mcp h (by omega) (by omega), if_neg (by omega)]; exact h3 k (by omega) hk2
theorem M_remove {N P : Nat} {x : St_Marks} (h : MS N x P) {a : Nat} (ha : a < P) : ∃ x', m_Marks_remove x (nI a) = some x' ∧ MS N x' (P - 1) ∧ ∀ k, k < P - 1 → mrow x' k = if k < a then mrow x k else mrow x (k + 1) := by
  have h3 := h.1.2.2.1
  have h4 := h.1.2.2.2.1
  obtain ⟨x', a1, a2, a3⟩ := M_rem_L (N := N) (P := P) (x0 := x) ha (P - (a + 1)) FU x (a + 1) h.1 (by omega) (by omega) (fun k _ => rfl) (fun k h1 h2 => absurd h2 (by omega)) (fun k _ _ => rfl) (FU_lt (by omega))
  refine ⟨x', ?_, ⟨a2, fun i j hij hj => ?_⟩, a3⟩
  · unfold m_Marks_remove
    rw [bs (M_has1 h.1 ha), if_neg e10, nI_1]
    exact a1
  · have ci := congrArg (fun r : MKQ => r.1) (a3 i (by omega))
    have cj := congrArg (fun r : MKQ => r.1) (a3 j hj)
    show (mrow x' i).1 < (mrow x' j).1
    rw [show (mrow x' i).1 = _ from ci, show (mrow x' j).1 = _ from cj]
    by_cases i1 : i < a
    · rw [if_pos i1]
      by_cases j1 : j < a
      · rw [if_pos j1]; exact h.2 i j hij (by omega)
      · rw [if_neg j1]; exact h.2 i (j + 1) (by omega) (by omega)
    · rw [if_neg i1, if_neg (by omega)]; exact h.2 (i + 1) (j + 1) (by omega) (by omega)
