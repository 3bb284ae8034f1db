-- LISTS OUT OF TABLES
def lst {α : Type} (f : Nat → α) (P : Nat) : List α := (List.range P).map f
theorem lst_len {α : Type} (f : Nat → α) (P : Nat) : (lst f P).length = P := by simp [lst]
theorem lst_succ {α : Type} (f : Nat → α) (P : Nat) : lst f (P + 1) = lst f P ++ [f P] := by simp [lst, List.range_succ]
theorem lst_zero {α : Type} (f : Nat → α) : lst f 0 = [] := rfl
theorem lst_congr {α : Type} {f g : Nat → α} {P : Nat} (h : ∀ k, k < P → f k = g k) : lst f P = lst g P := by
  unfold lst
  apply List.map_congr_left
  intro k hk
  exact h k (List.mem_range.mp hk)
theorem mem_lst {α : Type} {f : Nat → α} {P : Nat} {q : α} : q ∈ lst f P ↔ ∃ k, k < P ∧ f k = q := by
  simp [lst]
theorem lst_app {α : Type} (f : Nat → α) (a : Nat) : ∀ b, lst f (a + b) = lst f a ++ lst (fun k => f (a + k)) b := by
  intro b
  induction b with
  | zero => simp [lst]
  | succ b ih => rw [← Nat.add_assoc, lst_succ, ih, lst_succ, List.append_assoc]
theorem lst_cons {α : Type} (f : Nat → α) (P : Nat) : lst f (P + 1) = f 0 :: lst (fun k => f (k + 1)) P := by
  rw [Nat.add_comm, lst_app]
  show [f 0] ++ _ = _
  rw [show (fun k => f (1 + k)) = fun k => f (k + 1) from funext fun k => by rw [Nat.add_comm]]
  rfl
theorem lst_ins {α : Type} {f f' : Nat → α} {P p : Nat} {q : α} (hp : p ≤ P) (h : ∀ k, k ≤ P → f' k = if k < p then f k else if k = p then q else f (k - 1)) : (lst f' (P + 1)).Perm (q :: lst f P) := by
  obtain ⟨b, rfl⟩ : ∃ b, P = p + b := ⟨P - p, by omega⟩
  rw [show p + b + 1 = p + (1 + b) by omega, lst_app f' p (1 + b), lst_app f p b]
  have e1 : lst f' p = lst f p := lst_congr (fun k hk => by rw [h k (by omega), if_pos hk])
  have e2 : lst (fun k => f' (p + k)) (1 + b) = q :: lst (fun k => f (p + k)) b := by
    rw [Nat.add_comm, lst_cons]
    congr 1
    · show f' (p + 0) = q
      rw [h _ (by omega), if_neg (by omega), if_pos (by omega)]
    · refine lst_congr (fun k hk => ?_)
      show f' (p + (k + 1)) = f (p + k)
      rw [h _ (by omega), if_neg (by omega), if_neg (by omega), show p + (k + 1) - 1 = p + k by omega]
  rw [e1, e2]
  exact List.perm_middle
theorem lst_del {α : Type} {f f' : Nat → α} {P a : Nat} (ha : a < P) (h : ∀ k, k < P - 1 → f' k = if k < a then f k else f (k + 1)) : (f a :: lst f' (P - 1)).Perm (lst f P) := by
  obtain ⟨b, rfl⟩ : ∃ b, P = a + (b + 1) := ⟨P - a - 1, by omega⟩
  rw [show a + (b + 1) - 1 = a + b by omega, lst_app f' a b, lst_app f a (b + 1), lst_cons]
  have e1 : lst f' a = lst f a := lst_congr (fun k hk => by rw [h k (by omega), if_pos hk])
  have e2 : lst (fun k => f' (a + k)) b = lst (fun k => f (a + (k + 1))) b := by
    refine lst_congr (fun k hk => ?_)
    show f' (a + k) = f (a + (k + 1))
    rw [h _ (by omega), if_neg (by omega), Nat.add_assoc]
  rw [e1, e2]
  exact List.perm_middle.symm
theorem lst_forg {α : Type} {f f' : Nat → α} {P a : Nat} (ha : a < P) (h : ∀ k, k < P - 1 → f' k = if k = a then f (P - 1) else f k) : (f a :: lst f' (P - 1)).Perm (lst f P) := by
  by_cases hl : a = P - 1
  · have e1 : lst f' (P - 1) = lst f (P - 1) := lst_congr (fun k hk => by rw [h k hk, if_neg (by omega)])
    obtain ⟨b, rfl⟩ : ∃ b, P = b + 1 := ⟨P - 1, by omega⟩
    rw [e1, lst_succ, hl]
    exact (List.perm_append_singleton _ _).symm
  · obtain ⟨b, rfl⟩ : ∃ b, P = a + (b + 1) + 1 := ⟨P - a - 2, by omega⟩
    rw [show a + (b + 1) + 1 - 1 = a + (b + 1) by omega] at h ⊢
    have e1 : lst f' a = lst f a := lst_congr (fun k hk => by rw [h k (by omega), if_neg (by omega)])
    have e2 : lst (fun k => f' (a + k)) (b + 1) = f (a + (b + 1)) :: lst (fun k => f (a + (k + 1))) b := by
      rw [lst_cons]
      congr 1
      · show f' (a + 0) = _
        rw [h _ (by omega), if_pos (by omega)]
      · refine lst_congr (fun k hk => ?_)
        show f' (a + (k + 1)) = f (a + (k + 1))
        rw [h _ (by omega), if_neg (by omega)]
    rw [lst_app f' a (b + 1), e1, e2, lst_succ f (a + (b + 1)), lst_app f a (b + 1), lst_cons (fun k => f (a + k)) b]
    show (f a :: (lst f a ++ f (a + (b + 1)) :: lst (fun k => f (a + (k + 1))) b)).Perm ((lst f a ++ f a :: lst (fun k => f (a + (k + 1))) b) ++ [f (a + (b + 1))])
    refine List.Perm.trans (List.Perm.cons _ List.perm_middle) ?_
    refine List.Perm.trans ?_ (List.perm_append_singleton _ _).symm
    refine List.Perm.trans (List.Perm.swap _ _ _) ?_
    exact List.Perm.cons _ List.perm_middle.symm
-- ROWS: intervals that don't meet
def hasI (i : Nat × Nat) (r : Nat) : Bool := decide (i.1 ≤ r ∧ r < i.1 + i.2)
def cov (l : List (Nat × Nat)) (r : Nat) : Nat := l.countP (fun i => hasI i r)
def DJ (n : Nat) (l : List (Nat × Nat)) : Prop := (∀ i, i ∈ l → 2 ≤ i.1 ∧ 1 ≤ i.2 ∧ i.1 + i.2 ≤ n) ∧ l.Pairwise (fun a b => a.1 + a.2 ≤ b.1 ∨ b.1 + b.2 ≤ a.1)
def covS (l : List (Nat × Nat)) : Nat → Nat
  | 0 => 0
  | r + 1 => covS l r + cov l r
theorem cov_cons (a : Nat × Nat) (l : List (Nat × Nat)) (r : Nat) : cov (a :: l) r = (if a.1 ≤ r ∧ r < a.1 + a.2 then 1 else 0) + cov l r := by
  unfold cov
  rw [List.countP_cons, Nat.add_comm]
  congr 1
  unfold hasI
  simp only [decide_eq_true_eq]
theorem cov_nil (r : Nat) : cov [] r = 0 := rfl
theorem covS_cons (a : Nat × Nat) (l : List (Nat × Nat)) : ∀ n, covS (a :: l) n = covS [a] n + covS l n := by
  intro n
  induction n with
  | zero => rfl
  | succ n ih =>
    rw [covS, covS, covS, ih, cov_cons a l, cov_cons a [], cov_nil]
    omega
theorem covS_one (a : Nat × Nat) : ∀ n, covS [a] n = min n (a.1 + a.2) - min n a.1 := by
  intro n
  induction n with
  | zero => rw [covS]; omega
  | succ n ih =>
    rw [covS, ih, cov_cons a [], cov_nil]
    split <;> omega
theorem DJ_tail {n : Nat} {a : Nat × Nat} {l : List (Nat × Nat)} (h : DJ n (a :: l)) : DJ n l := ⟨fun i hi => h.1 i (List.mem_cons_of_mem _ hi), (List.pairwise_cons.mp h.2).2⟩
theorem cov_zero {l : List (Nat × Nat)} {r : Nat} (h : ∀ i, i ∈ l → ¬ (i.1 ≤ r ∧ r < i.1 + i.2)) : cov l r = 0 := by
  unfold cov
  rw [List.countP_eq_zero]
  intro i hi
  unfold hasI
  simp only [decide_eq_true_eq]
  exact h i hi
theorem cov_pos {l : List (Nat × Nat)} {r : Nat} : cov l r = 0 ↔ ∀ i, i ∈ l → ¬ (i.1 ≤ r ∧ r < i.1 + i.2) := by
  refine ⟨fun h i hi => ?_, cov_zero⟩
  unfold cov at h
  rw [List.countP_eq_zero] at h
  have := h i hi
  unfold hasI at this
  simpa only [decide_eq_true_eq] using this
theorem cov_le {n : Nat} {l : List (Nat × Nat)} (h : DJ n l) (r : Nat) : cov l r ≤ 1 := by
  induction l with
  | nil => rw [cov_nil]; omega
  | cons a l ih =>
    have h2 := ih (DJ_tail h)
    have h3 := (List.pairwise_cons.mp h.2).1
    rw [cov_cons]
    split
    · rename_i hr
      rw [cov_zero (l := l) (r := r) (fun i hi hc => by have := h3 i hi; omega)]
      omega
    · omega
theorem covS_le {n : Nat} {l : List (Nat × Nat)} (h : DJ n l) : ∀ m, covS l m ≤ m - 2 := by
  intro m
  induction m with
  | zero => rw [covS]; omega
  | succ m ih =>
    rw [covS]
    by_cases hm : m < 2
    · rw [cov_zero (l := l) (r := m) (fun i hi hc => by have := h.1 i hi; omega)]
      omega
    · have := cov_le h m
      omega
def lens (l : List (Nat × Nat)) : Nat := (l.map (fun i => i.2)).sum
theorem covS_sum {n : Nat} {l : List (Nat × Nat)} (h : DJ n l) : covS l n = lens l := by
  induction l with
  | nil =>
    have : ∀ m, covS [] m = 0 := by
      intro m
      induction m with
      | zero => rfl
      | succ m ih => rw [covS, ih, cov_nil]
    rw [this]; rfl
  | cons a l ih =>
    have h1 := h.1 a List.mem_cons_self
    rw [covS_cons, covS_one, ih (DJ_tail h)]
    unfold lens
    rw [List.map_cons, List.sum_cons]
    omega
theorem DJ_sum {n : Nat} {l : List (Nat × Nat)} (h : DJ n l) : lens l ≤ n - 2 := by
  rw [← covS_sum h]; exact covS_le h n
theorem DJ_perm {n : Nat} {l l' : List (Nat × Nat)} (p : l.Perm l') (h : DJ n l) : DJ n l' :=
  ⟨fun i hi => h.1 i (p.mem_iff.mpr hi), (p.pairwise_iff (fun hr => hr.symm)).mp h.2⟩
theorem DJ_cons {n : Nat} {a : Nat × Nat} {l : List (Nat × Nat)} (h : DJ n l) (h1 : 2 ≤ a.1 ∧ 1 ≤ a.2 ∧ a.1 + a.2 ≤ n) (h2 : ∀ r, a.1 ≤ r → r < a.1 + a.2 → cov l r = 0) : DJ n (a :: l) := by
  refine ⟨fun i hi => ?_, List.pairwise_cons.mpr ⟨fun i hi => ?_, h.2⟩⟩
  · rcases List.mem_cons.mp hi with rfl | hi
    · exact h1
    · exact h.1 i hi
  · have hi1 := h.1 i hi
    have k1 := fun hr => cov_pos.mp (h2 a.1 (Nat.le_refl _) (by omega)) i hi hr
    have k2 := fun (q1 : a.1 ≤ i.1) (q2 : i.1 < a.1 + a.2) => cov_pos.mp (h2 i.1 q1 q2) i hi ⟨by omega, by omega⟩
    rcases Nat.lt_or_ge i.1 a.1 with q | q
    · by_cases q3 : i.1 + i.2 ≤ a.1
      · exact Or.inr q3
      · exact absurd ⟨by omega, by omega⟩ k1
    · by_cases q3 : a.1 + a.2 ≤ i.1
      · exact Or.inl q3
      · exact absurd trivial (fun _ => k2 q (by omega))
theorem cov_perm {l l' : List (Nat × Nat)} (p : l.Perm l') (r : Nat) : cov l r = cov l' r := p.countP_eq _
theorem cov_app (l l' : List (Nat × Nat)) (r : Nat) : cov (l ++ l') r = cov l r + cov l' r := by
  unfold cov
  rw [List.countP_append]
theorem lens_app (l l' : List (Nat × Nat)) : lens (l ++ l') = lens l + lens l' := by
  unfold lens
  rw [List.map_append, List.sum_append]
theorem lens_ge {l : List (Nat × Nat)} {c : Nat} (h : ∀ i, i ∈ l → c ≤ i.2) : c * l.length ≤ lens l := by
  induction l with
  | nil => simp [lens]
  | cons a l ih =>
    have h1 := h a List.mem_cons_self
    have h2 := ih (fun i hi => h i (List.mem_cons_of_mem _ hi))
    unfold lens at h2 ⊢
    rw [List.map_cons, List.sum_cons, List.length_cons, Nat.mul_succ]
    omega
-- MARKS GO FROM THE CLASS'S TABLES, FROM THE FIRST ON
theorem M_rF_L {N P : Nat} {x0 : St_Marks} {a : Nat} (ha : 0 < a) : ∀ (d fuel : Nat) (x : St_Marks) (i : Nat), ML N x P → i + d = P → a ≤ i → (∀ k, k + a < i → mrow x k = mrow x0 (k + a)) → (∀ k, i ≤ k → k < P → mrow x k = mrow x0 k) → d < fuel → ∃ x', m_Marks_removeFirst_L7 fuel x (nI a) (nI i) = some x' ∧ ML N x' (P - a) ∧ ∀ k, k < P - a → mrow x' k = mrow x0 (k + a) := by
  intro d
  induction d with
  | zero =>
    intro fuel x i h hi hai h1 h2 hf
    obtain ⟨fu, rfl, -⟩ := fu1 hf
    obtain ⟨hl, hs, hP, hN, hc⟩ := id h
    refine ⟨(x.1, x.2.1, x.2.2.1, x.2.2.2.1, x.2.2.2.2.1, nI (P - a)), ?_, ⟨hl, rfl, by omega, hN, hc⟩, fun k hk => h1 k (by omega)⟩
    have hj : jmax 0 (nI P - nI a) = nI (P - a) := by
      rw [pk_sub (by omega)]
      by_cases h0 : P - a = 0
      · rw [h0]; rfl
      · exact jmax0 (by omega) (by omega)
    rw [m_Marks_removeFirst_L7, hs, if_pos (nI_le (by omega) (by omega)), hj]
  | succ d ih =>
    intro fuel x i h hi hai h1 h2 hf
    obtain ⟨fu, rfl, hf'⟩ := fu1 hf
    have hPN := h.2.2.1
    have h256 := h.2.2.2.1
    rw [m_Marks_removeFirst_L7, h.2.1, if_neg (nI_ge (by omega) (by omega)), pk_sub hai, bs (M_move h (a := i) (b := i - a) (by omega) (by omega) (by omega)), nI_1]
    refine ih fu (mcp x i (i - a)) (i + 1) (ML_mcp h (by omega)) (by omega) (by omega) (fun k hk => ?_) (fun k hk1 hk2 => ?_) (by omega)
    · rw [mrow_mcp h (by omega) (by omega)]
      by_cases hk3 : k = i - a
      · rw [if_pos hk3, h2 i (by omega) (by omega), hk3, show i - a + a = i by omega]
      · rw [if_neg hk3]; exact h1 k (by omega)
    · rw [mrow_mcp h (by omega) (by omega), if_neg (by omega)]; exact h2 k (by omega) hk2
theorem ML_removeFirst {N P : Nat} {x : St_Marks} (h : ML N x P) {a : Nat} (ha : a ≤ P) : ∃ x', m_Marks_removeFirst x (nI a) = some x' ∧ ML N x' (P - a) ∧ ∀ k, k < P - a → mrow x' k = mrow x (k + a) := by
  have h3 := h.2.2.1
  have h4 := h.2.2.2.1
  unfold m_Marks_removeFirst
  by_cases h0 : a = 0
  · subst h0
    rw [if_neg (by decide +kernel)]
    exact ⟨x, rfl, h, fun k _ => rfl⟩
  · obtain ⟨x', a1, a2, a3⟩ := M_rF_L (N := N) (P := P) (x0 := x) (a := a) (by omega) (P - a) FU x a h (by omega) (by omega) (fun k hk => absurd hk (by omega)) (fun k _ _ => rfl) (FU_lt (by omega))
    rw [n0, if_pos (nI_lt (by omega) (by omega))]
    exact ⟨x', a1, a2, a3⟩
theorem MS_of {N P : Nat} {x x' : St_Marks} {Q a : Nat} (h : MS N x P) (hQ : Q + a ≤ P) (a2 : ML N x' Q) (a3 : ∀ k, k < Q → mrow x' k = mrow x (k + a)) : MS N x' Q := by
  refine ⟨a2, fun i j hij hj => ?_⟩
  have ci := congrArg (fun r : MKQ => r.1) (a3 i (by omega))
  have cj := congrArg (fun r : MKQ => r.1) (a3 j hj)
  show (mrow x' i).1 < (mrow x' j).1
  rw [show (mrow x' i).1 = _ from ci, show (mrow x' j).1 = _ from cj]
  exact h.2 (i + a) (j + a) (by omega) (by omega)
-- THE REFERENCE'S TABLE OF MARKS, kept ones and others
theorem n12 : (12 : Int32) = nI 12 := by decide +kernel
def qrow (g : St_Ref) (k : Nat) : MKQ := ((g_RmNumber g).2 k, (g_RmCount g).2 k, (g_RmRow g).2 k, (g_RmDigest g).2 k, mls ((g_RmCount g).2 k) (g_RmPart g).2 k)
/-- one to twelve PARTS -/
def K12 (m : MKQ) : Prop := ∃ c : Nat, 1 ≤ c ∧ c ≤ 12 ∧ m.2.1 = nI c
def MR (g : St_Ref) (L : List MKQ) : Prop := g_Rmarks g = nI L.length ∧ L.length ≤ 270 ∧ lst (qrow g) L.length = L ∧ ∀ m, m ∈ L → K12 m
def MC (N : Nat) (x : St_Marks) (l : List MKQ) : Prop := MS N x l.length ∧ lst (mrow x) l.length = l
theorem MR_mem {g : St_Ref} {L : List MKQ} (h : MR g L) {k : Nat} (hk : k < L.length) : qrow g k ∈ L := by
  have := h.2.2.1
  rw [← this]
  exact mem_lst.mpr ⟨k, hk, rfl⟩
theorem MR_ex {g : St_Ref} {L : List MKQ} (h : MR g L) {m : MKQ} (hm : m ∈ L) : ∃ k, k < L.length ∧ qrow g k = m := by
  have := h.2.2.1
  rw [← this] at hm
  exact mem_lst.mp hm
theorem MC_mem {N : Nat} {x : St_Marks} {l : List MKQ} (h : MC N x l) {k : Nat} (hk : k < l.length) : mrow x k ∈ l := by
  have := h.2
  rw [← this]
  exact mem_lst.mpr ⟨k, hk, rfl⟩
theorem MC_ex {N : Nat} {x : St_Marks} {l : List MKQ} (h : MC N x l) {m : MKQ} (hm : m ∈ l) : ∃ k, k < l.length ∧ mrow x k = m := by
  have := h.2
  rw [← this] at hm
  exact mem_lst.mp hm
theorem R_fM_L {n : Nat} {g : St_Ref} {M : Nat} (h : RI n g) (hp : g_Rmarks g = nI M) (hP : M ≤ 270) (v : Int32) : ∀ (d fuel j : Nat), j + d = M → d < fuel → (m_RRef_findMark_L2 g fuel v (nI j) = some (-1) ∧ ∀ k, j ≤ k → k < M → (qrow g k).1 ≠ v) ∨ ∃ k, j ≤ k ∧ k < M ∧ m_RRef_findMark_L2 g fuel v (nI j) = some (nI k) ∧ (qrow g k).1 = v := by
  have l1 : (g_RmNumber g).1 = 270 := ri_mNumber h
  intro d
  induction d with
  | zero =>
    intro fuel j hj hf
    obtain ⟨fu, rfl, -⟩ := fu1 hf
    left
    rw [m_RRef_findMark_L2, hp, if_pos (nI_le (by omega) (by omega))]
    exact ⟨rfl, fun k h1 h2 => absurd h2 (by omega)⟩
  | succ d ih =>
    intro fuel j hj hf
    obtain ⟨fu, rfl, hf'⟩ := fu1 hf
    rw [m_RRef_findMark_L2, hp, if_neg (nI_ge (by omega) (by omega)), l1, if_neg (nI_in (by omega) (by omega)), nI_clamp (by omega), nI_1]
    by_cases hv : (g_RmNumber g).2 j = v
    · right
      exact ⟨j, by omega, by omega, if_pos hv, hv⟩
    · rw [if_neg hv]
      rcases ih fu (j + 1) (by omega) (by omega) with ⟨e1, e2⟩ | ⟨k, e1, e2, e3, e4⟩
      · left
        refine ⟨e1, fun k h1 h2 => ?_⟩
        by_cases hk : k = j
        · subst hk; exact hv
        · exact e2 k (by omega) h2
      · right
        exact ⟨k, by omega, e2, e3, e4⟩
theorem R_findMark {n : Nat} {g : St_Ref} {M : Nat} (h : RI n g) (hp : g_Rmarks g = nI M) (hP : M ≤ 270) (v : Int32) : (m_RRef_findMark g v = some (-1) ∧ ∀ k, k < M → (qrow g k).1 ≠ v) ∨ ∃ k, k < M ∧ m_RRef_findMark g v = some (nI k) ∧ (qrow g k).1 = v := by
  unfold m_RRef_findMark
  rw [n0]
  rcases R_fM_L h hp hP v M FU 0 (by omega) (FU_lt (by omega)) with ⟨e1, e2⟩ | ⟨k, e1, e2, e3, e4⟩
  · exact Or.inl ⟨e1, fun k hk => e2 k (by omega) hk⟩
  · exact Or.inr ⟨k, e2, e3, e4⟩
/-- all but the MARKS and what is only drawn upon -/
def FrA (g g' : St_Ref) : Prop := fMed g' = fMed g ∧ fTap g' = fTap g ∧ fPar g' = fPar g ∧ fHd g' = fHd g ∧ fLs g' = fLs g
theorem FrA.rf (g : St_Ref) : FrA g g := ⟨rfl, rfl, rfl, rfl, rfl⟩
theorem FrA.tr {a b c : St_Ref} (h : FrA a b) (k : FrA b c) : FrA a c := ⟨k.1.trans h.1, k.2.1.trans h.2.1, k.2.2.1.trans h.2.2.1, k.2.2.2.1.trans h.2.2.2.1, k.2.2.2.2.trans h.2.2.2.2⟩
theorem R_fg_L {n a b : Nat} (ha : a < 270) (hb : b < 270) : ∀ (d fuel i : Nat) (g : St_Ref), RI n g → g_Rmarks g = nI b → i + d = 12 → d < fuel → ∃ g', m_RRef_forgetMark_L72 fuel g (nI a) (nI i) = some g' ∧ RI n g' ∧ FrA g g' ∧ g_Rmarks g' = nI b ∧ g_RmNumber g' = g_RmNumber g ∧ g_RmRow g' = g_RmRow g ∧ g_RmCount g' = g_RmCount g ∧ g_RmDigest g' = g_RmDigest g ∧ ∀ j, (g_RmPart g').2 j = if 12 * a + i ≤ j ∧ j < 12 * a + 12 then (g_RmPart g).2 (12 * b + (j - 12 * a)) else (g_RmPart g).2 j := by
  intro d
  induction d with
  | zero =>
    intro fuel i g h hm hi hf
    obtain ⟨fu, rfl, -⟩ := fu1 hf
    refine ⟨g, ?_, h, FrA.rf g, hm, rfl, rfl, rfl, rfl, fun j => ?_⟩
    · rw [m_RRef_forgetMark_L72, n12, if_pos (nI_le (by omega) (by omega))]
    · rw [if_neg (by omega)]
  | succ d ih =>
    intro fuel i g h hm hi hf
    obtain ⟨fu, rfl, hf'⟩ := fu1 hf
    have l1 : (g_RmPart g).1 = 3240 := ri_mPart h
    have l2 : (g_RmPartRow g).1 = 3240 := ri_mPartRow h
    have l3 : (g_RmPartDigest g).1 = 3240 := ri_mPartDigest h
    have i1 : ∀ M, M = 3240 → ¬ (nI (12 * b + i) < 0 ∨ M ≤ (nI (12 * b + i)).toNatClampNeg) := fun M hM => by rw [hM]; exact nI_in (by omega) (by omega)
    have i2 : ∀ M, M = 3240 → ¬ (nI (12 * a + i) < 0 ∨ M ≤ (nI (12 * a + i)).toNatClampNeg) := fun M hM => by rw [hM]; exact nI_in (by omega) (by omega)
    have e1 : (12 : Int32) * g_Rmarks g + nI i = nI (12 * b + i) := by rw [hm, n12, pk_mul, nI_add]
    have e2 : (12 : Int32) * nI a + nI i = nI (12 * a + i) := by rw [n12, pk_mul, nI_add]
    have c1 : (nI (12 * b + i)).toNatClampNeg = 12 * b + i := nI_clamp (by omega)
    have c2 : (nI (12 * a + i)).toNatClampNeg = 12 * a + i := nI_clamp (by omega)
    obtain ⟨g1, hg1⟩ : ∃ g1, g1 = s_RmPartDigest (s_RmPartRow (s_RmPart g ((g_RmPart g).1, upd (g_RmPart g).2 (12 * a + i) ((g_RmPart g).2 (12 * b + i)))) ((g_RmPartRow g).1, upd (g_RmPartRow g).2 (12 * a + i) ((g_RmPartRow g).2 (12 * b + i)))) ((g_RmPartDigest g).1, vp_updL (g_RmPartDigest g).2 (12 * a + i) ((g_RmPartDigest g).2 (12 * b + i))) := ⟨_, rfl⟩
    have h1 : RI n g1 := by
      rw [hg1]
      refine rs_mPartDigest (rs_mPartRow (rs_mPart h ?_) ?_) ?_
      · exact l1
      · exact l2
      · exact l3
    have hF : FrA g g1 := by rw [hg1]; refine ⟨?_, ?_, ?_, ?_, ?_⟩ <;> simp only [qf_Med, qf_Tap, qf_Par, qf_Hd, qf_Ls]
    have hm1 : g_Rmarks g1 = nI b := by rw [hg1]; simp only [qR_marks]; exact hm
    have hp1 : g_RmPart g1 = ((g_RmPart g).1, upd (g_RmPart g).2 (12 * a + i) ((g_RmPart g).2 (12 * b + i))) := by rw [hg1]; simp only [qR_mPart]
    have w1 : g_RmNumber g1 = g_RmNumber g := by rw [hg1]; simp only [qR_mNumber]
    have w2 : g_RmRow g1 = g_RmRow g := by rw [hg1]; simp only [qR_mRow]
    have w3 : g_RmCount g1 = g_RmCount g := by rw [hg1]; simp only [qR_mCount]
    have w4 : g_RmDigest g1 = g_RmDigest g := by rw [hg1]; simp only [qR_mDigest]
    obtain ⟨g', z1, z2, z3, z4, z5, z6, z7, z8, z9⟩ := ih fu (i + 1) g1 h1 hm1 (by omega) (by omega)
    refine ⟨g', ?_, z2, hF.tr z3, z4, z5.trans w1, z6.trans w2, z7.trans w3, z8.trans w4, fun j => ?_⟩
    · rw [m_RRef_forgetMark_L72, e1, e2, c1, c2]
      refine Eq.trans (if_neg (show ¬ (12 : Int32) ≤ nI i by rw [n12]; exact nI_ge (by omega) (by omega))) ?_
      rw [c1] at i1
      rw [c2] at i2
      refine Eq.trans (if_neg (i1 _ l1)) ?_
      refine Eq.trans (if_neg (i2 _ l1)) ?_
      refine Eq.trans (if_neg (i1 _ l2)) ?_
      refine Eq.trans (if_neg (i2 _ l2)) ?_
      refine Eq.trans (if_neg (i1 _ l3)) ?_
      refine Eq.trans (if_neg (i2 _ l3)) ?_
      rw [← hg1, nI_1]
      exact z1
    · rw [z9 j, hp1]
      show (if 12 * a + (i + 1) ≤ j ∧ j < 12 * a + 12 then (if 12 * b + (j - 12 * a) = 12 * a + i then (g_RmPart g).2 (12 * b + i) else (g_RmPart g).2 (12 * b + (j - 12 * a))) else (if j = 12 * a + i then (g_RmPart g).2 (12 * b + i) else (g_RmPart g).2 j)) = _
      by_cases q1 : j = 12 * a + i
      · rw [if_neg (by omega), if_pos q1, if_pos (by omega), show j - 12 * a = i by omega]
      · by_cases q2 : 12 * a + (i + 1) ≤ j ∧ j < 12 * a + 12
        · rw [if_pos q2, if_neg (by omega), if_pos (by omega)]
        · rw [if_neg q2, if_neg q1, if_neg (by omega)]
/-- MARK a goes, the last one takes its place -/
theorem R_forgetMark {n : Nat} {g : St_Ref} {L : List MKQ} (h : RI n g) (hR : MR g L) {a : Nat} (ha : a < L.length) : ∃ g' L', m_RRef_forgetMark g (nI a) = some g' ∧ RI n g' ∧ FrA g g' ∧ MR g' L' ∧ (qrow g a :: L').Perm L := by
  obtain ⟨hp, hP, hl, hk⟩ := id hR
  have hs : g_Rmarks g - 1 = nI (L.length - 1) := by rw [hp, n1, pk_sub (by omega)]
  have l1 : (g_RmNumber g).1 = 270 := ri_mNumber h
  have l2 : (g_RmRow g).1 = 270 := ri_mRow h
  have l3 : (g_RmCount g).1 = 270 := ri_mCount h
  have l4 : (g_RmDigest g).1 = 270 := ri_mDigest h
  have c1 : (nI (L.length - 1)).toNatClampNeg = L.length - 1 := nI_clamp (by omega)
  have c2 : (nI a).toNatClampNeg = a := nI_clamp (by omega)
  have i1 : ∀ M, M = 270 → ¬ (nI (L.length - 1) < 0 ∨ M ≤ L.length - 1) := fun M hM => by
    have := nI_in (c := L.length - 1) (N := 270) (by omega) (by omega)
    rw [c1] at this
    rw [hM]; exact this
  have i2 : ∀ M, M = 270 → ¬ (nI a < 0 ∨ M ≤ a) := fun M hM => by
    have := nI_in (c := a) (N := 270) (by omega) (by omega)
    rw [c2] at this
    rw [hM]; exact this
  obtain ⟨g1, hg1⟩ : ∃ g1 : St_Ref, g1 = s_RmDigest (s_RmCount (s_RmRow (s_RmNumber (s_Rmarks g (nI (L.length - 1))) ((g_RmNumber g).1, upd (g_RmNumber g).2 a ((g_RmNumber g).2 (L.length - 1)))) ((g_RmRow g).1, upd (g_RmRow g).2 a ((g_RmRow g).2 (L.length - 1)))) ((g_RmCount g).1, upd (g_RmCount g).2 a ((g_RmCount g).2 (L.length - 1)))) ((g_RmDigest g).1, vp_updL (g_RmDigest g).2 a ((g_RmDigest g).2 (L.length - 1))) := ⟨_, rfl⟩
  have h1 : RI n g1 := by
    rw [hg1]
    refine rs_mDigest (rs_mCount (rs_mRow (rs_mNumber (rs_marks h ?_) ?_) ?_) ?_) ?_
    · exact ⟨L.length - 1, by omega, rfl⟩
    · exact l1
    · exact l2
    · exact l3
    · exact l4
  have hF : FrA g g1 := by rw [hg1]; refine ⟨?_, ?_, ?_, ?_, ?_⟩ <;> simp only [qf_Med, qf_Tap, qf_Par, qf_Hd, qf_Ls]
  have m1 : g_Rmarks g1 = nI (L.length - 1) := by rw [hg1]; simp only [qR_marks]
  have m2 : g_RmPart g1 = g_RmPart g := by rw [hg1]; simp only [qR_mPart]
  have w1 : g_RmNumber g1 = ((g_RmNumber g).1, upd (g_RmNumber g).2 a ((g_RmNumber g).2 (L.length - 1))) := by rw [hg1]; simp only [qR_mNumber]
  have w2 : g_RmRow g1 = ((g_RmRow g).1, upd (g_RmRow g).2 a ((g_RmRow g).2 (L.length - 1))) := by rw [hg1]; simp only [qR_mRow]
  have w3 : g_RmCount g1 = ((g_RmCount g).1, upd (g_RmCount g).2 a ((g_RmCount g).2 (L.length - 1))) := by rw [hg1]; simp only [qR_mCount]
  have w4 : g_RmDigest g1 = ((g_RmDigest g).1, vp_updL (g_RmDigest g).2 a ((g_RmDigest g).2 (L.length - 1))) := by rw [hg1]; simp only [qR_mDigest]
  obtain ⟨g', z1, z2, z3, z4, z5, z6, z7, z8, z9⟩ := R_fg_L (n := n) (a := a) (b := L.length - 1) (by omega) (by omega) 12 FU 0 g1 h1 m1 (by omega) (FU_lt (by omega))
  have hq : ∀ k, k < L.length - 1 → qrow g' k = if k = a then qrow g (L.length - 1) else qrow g k := by
    intro k hk1
    obtain ⟨ca, -, hca, ea⟩ := hk _ (MR_mem hR (show L.length - 1 < L.length by omega))
    obtain ⟨ck, -, hck, ek⟩ := hk _ (MR_mem hR (show k < L.length by omega))
    have ea' : (g_RmCount g).2 (L.length - 1) = nI ca := ea
    have ek' : (g_RmCount g).2 k = nI ck := ek
    unfold qrow
    rw [z5, z6, z7, z8, w1, w2, w3, w4]
    unfold upd vp_updL
    by_cases hka : k = a
    · simp only [if_pos hka]
      refine Prod.ext rfl (Prod.ext rfl (Prod.ext rfl (Prod.ext rfl ?_)))
      refine mls_congr (fun i hi => ?_)
      rw [ea', nI_clamp (by omega)] at hi
      rw [z9, if_pos (by omega), m2, show 12 * k + i - 12 * a = i by omega]
    · simp only [if_neg hka]
      refine Prod.ext rfl (Prod.ext rfl (Prod.ext rfl (Prod.ext rfl ?_)))
      refine mls_congr (fun i hi => ?_)
      rw [ek', nI_clamp (by omega)] at hi
      rw [z9, if_neg (by omega), m2]
  have hp2 : (qrow g a :: lst (qrow g') (L.length - 1)).Perm L := by
    have := lst_forg (f := qrow g) (f' := qrow g') (P := L.length) ha hq
    rw [hl] at this
    exact this
  refine ⟨g', lst (qrow g') (L.length - 1), ?_, z2, hF.tr z3, ⟨by rw [lst_len]; exact z4, by rw [lst_len]; omega, by rw [lst_len], fun m hm => hk m (hp2.mem_iff.mp (List.mem_cons_of_mem _ hm))⟩, hp2⟩
  unfold m_RRef_forgetMark
  rw [hs, c1, c2]
  refine Eq.trans (if_neg (i1 _ l1)) ?_
  refine Eq.trans (if_neg (i2 _ l1)) ?_
  refine Eq.trans (if_neg (i1 _ l2)) ?_
  refine Eq.trans (if_neg (i2 _ l2)) ?_
  refine Eq.trans (if_neg (i1 _ l3)) ?_
  refine Eq.trans (if_neg (i2 _ l3)) ?_
  refine Eq.trans (if_neg (i1 _ l4)) ?_
  refine Eq.trans (if_neg (i2 _ l4)) ?_
  rw [← hg1, n0]
  exact z1
-- ROOM: free rows
def pIv (q : PQ) : Nat × Nat := (q.2.2.2.1.toNatClampNeg, 1 + bod q.2.2.1.toNatClampNeg)
def ent (c : Nat) : Nat := (c + 1) / 2
def mIv (m : MKQ) : Nat × Nat := (m.2.2.1.toNatClampNeg, 1 + ent m.2.1.toNatClampNeg)
/-- a PART that fits a medium of n rows -/
def FitP (n : Nat) (q : PQ) : Prop := ∃ a b l w : Nat, q.1 = nI a ∧ 1 ≤ a ∧ a ≤ 1000000000 ∧ q.2.1 = nI b ∧ b < 8 ∧ q.2.2.1 = nI l ∧ l ≤ 155 ∧ q.2.2.2.1 = nI w ∧ 2 ≤ w ∧ w + 1 + bod l ≤ n
/-- a kept MARK that fits -/
def FitK (n : Nat) (m : MKQ) : Prop := ∃ a c w : Nat, m.1 = nI a ∧ 1 ≤ a ∧ a ≤ 1000000000 ∧ m.2.1 = nI c ∧ 1 ≤ c ∧ c ≤ 12 ∧ m.2.2.1 = nI w ∧ 2 ≤ w ∧ w + 1 + ent c ≤ n
/-- a MARK that is not kept -/
def FitM (m : MKQ) : Prop := ∃ a c : Nat, m.1 = nI a ∧ 1 ≤ a ∧ a ≤ 1000000000 ∧ m.2.1 = nI c ∧ 1 ≤ c ∧ c ≤ 12 ∧ m.2.2.1 = (-1) ∧ m.2.2.2.1 = 0
theorem nI_m1 {w : Nat} (h : w < 2 ^ 31) : nI w ≠ (-1) := by
  intro e
  have := congrArg Int32.toInt e
  rw [nI_toInt h] at this
  have h2 : Int32.toInt (-1) = -1 := by decide
  rw [h2] at this
  omega
theorem m1_nI {w : Nat} (h : w < 2 ^ 31) : (-1 : Int32) ≠ nI w := fun e => nI_m1 h e.symm
theorem R_entries {c : Nat} (h : c < 2 ^ 30) : m_RRef_entries (nI c) = some (nI (ent c)) := by
  unfold m_RRef_entries ent
  rw [n1, n2, nI_add, pk_div (by omega) (by omega) (by omega)]
theorem C_entriesOf {c : Nat} (h : c < 2 ^ 30) : m_Log_entriesOf (nI c) = some (nI (ent c)) := by
  unfold m_Log_entriesOf ent
  rw [n2, nI_add, n1, pk_sub (by omega), pk_div (by omega) (by omega) (by omega), show c + 2 - 1 = c + 1 by omega]
theorem C_rowsOfMark {c : Nat} (h : c < 2 ^ 30) : m_Log_rowsOfMark (nI c) = some (nI (1 + ent c)) := by
  unfold m_Log_rowsOfMark
  rw [bs (C_entriesOf h), n1, nI_add]
/-- the first run of c free rows: d rows from r on, run of them before r are free -/
def runF (b : Nat → Int32) (c : Nat) : Nat → Nat → Nat → Option Nat
  | 0, _, _ => none
  | d + 1, run, r => if b r = 0 then (if run + 1 = c then some (r + 1 - c) else runF b c d (run + 1) (r + 1)) else runF b c d 0 (r + 1)
def rv : Option Nat → Int32
  | none => (-1)
  | some w => nI w
theorem runF_congr {b b' : Nat → Int32} (c : Nat) : ∀ (d run r : Nat), (∀ j, r ≤ j → j < r + d → (b j = 0 ↔ b' j = 0)) → runF b c d run r = runF b' c d run r := by
  intro d
  induction d with
  | zero => intro run r h; rfl
  | succ d ih =>
    intro run r h
    rw [runF, runF, ih (run + 1) (r + 1) (fun j h1 h2 => h j (by omega) (by omega)), ih 0 (r + 1) (fun j h1 h2 => h j (by omega) (by omega))]
    by_cases h0 : b r = 0
    · rw [if_pos h0, if_pos ((h r (by omega) (by omega)).mp h0)]
    · rw [if_neg h0, if_neg (fun e => h0 ((h r (by omega) (by omega)).mpr e))]
theorem runF_spec {b : Nat → Int32} {c : Nat} : ∀ (d run r : Nat) (w : Nat), run ≤ r → (∀ j, r ≤ j + run → j < r → b j = 0) → runF b c d run r = some w → r ≤ w + run ∧ w + c ≤ r + d ∧ ∀ j, w ≤ j → j < w + c → b j = 0 := by
  intro d
  induction d with
  | zero => intro run r w _ _ h; cases h
  | succ d ih =>
    intro run r w hr hb h
    rw [runF] at h
    by_cases h0 : b r = 0
    · rw [if_pos h0] at h
      by_cases h1 : run + 1 = c
      · rw [if_pos h1] at h
        have hw : r + 1 - c = w := Option.some.inj h
        refine ⟨by omega, by omega, fun j j1 j2 => ?_⟩
        by_cases hj : j = r
        · rw [hj]; exact h0
        · exact hb j (by omega) (by omega)
      · rw [if_neg h1] at h
        obtain ⟨a1, a2, a3⟩ := ih (run + 1) (r + 1) w (by omega) (fun j j1 j2 => by
          by_cases hj : j = r
          · rw [hj]; exact h0
          · exact hb j (by omega) (by omega)) h
        exact ⟨by omega, by omega, a3⟩
    · rw [if_neg h0] at h
      obtain ⟨a1, a2, a3⟩ := ih 0 (r + 1) w (by omega) (fun j j1 j2 => absurd j2 (by omega)) h
      exact ⟨by omega, by omega, a3⟩
theorem C_fR_L {n : Nat} {x : St_Room} (hx : x.1 = n) (hn : n ≤ 512) {c : Nat} (hc : 1 ≤ c ∧ c ≤ 1000) : ∀ (d fuel run r : Nat), r + d = n → run + 2 ≤ r → d < fuel → m_Room_firstRun_L4 x fuel (nI c) (nI run) (nI r) = some (rv (runF x.2 c d run r)) := by
  intro d
  induction d with
  | zero =>
    intro fuel run r hr h2 hf
    obtain ⟨fu, rfl, -⟩ := fu1 hf
    rw [m_Room_firstRun_L4, hx, if_pos (nI_le (by omega) (by omega))]; rfl
  | succ d ih =>
    intro fuel run r hr h2 hf
    obtain ⟨fu, rfl, hf'⟩ := fu1 hf
    rw [m_Room_firstRun_L4, hx, if_neg (nI_ge (by omega) (by omega)), if_neg (nI_in (by omega) (by omega)), nI_clamp (by omega), runF, nI_1, nI_1]
    by_cases h0 : x.2 r = 0
    · rw [if_pos h0, if_pos h0]
      by_cases h1 : run + 1 = c
      · rw [if_pos h1, if_pos (show nI (run + 1) = nI c by rw [h1]), pk_sub (by omega), nI_1, show r - c + 1 = r + 1 - c by omega]; rfl
      · rw [if_neg h1, if_neg (fun e => h1 ((nI_eq (by omega) (by omega)).mp e))]
        exact ih fu (run + 1) (r + 1) (by omega) (by omega) (by omega)
    · rw [if_neg h0, if_neg h0, n0, if_neg (fun e => absurd ((nI_eq (by omega) (by omega)).mp e) (by omega))]
      exact ih fu 0 (r + 1) (by omega) (by omega) (by omega)
theorem C_firstRun {n : Nat} {x : St_Room} (hx : x.1 = n) (hn : 4 ≤ n ∧ n ≤ 512) {c : Nat} (hc : 1 ≤ c ∧ c ≤ 1000) : m_Room_firstRun x (nI c) = some (rv (runF x.2 c (n - 2) 0 2)) := by
  unfold m_Room_firstRun
  rw [n0, n2]
  exact C_fR_L hx hn.2 hc (n - 2) FU 0 2 (by omega) (by omega) (FU_lt (by omega))
theorem R_fR_L {n : Nat} {g : St_Ref} {f : Nat → Int32} (hu : g_Rused g = (512, f)) (hr0 : g_Rrows g = nI n) (hn : n ≤ 512) {c : Nat} (hc : 1 ≤ c ∧ c ≤ 1000) : ∀ (d fuel run r : Nat), r + d = n → run + 2 ≤ r → d < fuel → m_RRef_room_L4 g fuel (nI c) (nI run) (nI r) = some (rv (runF f c d run r)) := by
  intro d
  induction d with
  | zero =>
    intro fuel run r hr h2 hf
    obtain ⟨fu, rfl, -⟩ := fu1 hf
    rw [m_RRef_room_L4, hr0, if_pos (nI_le (by omega) (by omega))]; rfl
  | succ d ih =>
    intro fuel run r hr h2 hf
    obtain ⟨fu, rfl, hf'⟩ := fu1 hf
    rw [m_RRef_room_L4, hr0, if_neg (nI_ge (by omega) (by omega)), hu, if_neg (nI_in (show r < 512 by omega) (by omega)), nI_clamp (by omega), runF, nI_1, nI_1]
    by_cases h0 : f r = 0
    · rw [if_pos h0, if_pos h0]
      by_cases h1 : run + 1 = c
      · rw [if_pos h1, if_pos (show nI (run + 1) = nI c by rw [h1]), pk_sub (by omega), nI_1, show r - c + 1 = r + 1 - c by omega]; rfl
      · rw [if_neg h1, if_neg (fun e => h1 ((nI_eq (by omega) (by omega)).mp e))]
        exact ih fu (run + 1) (r + 1) (by omega) (by omega) (by omega)
    · rw [if_neg h0, if_neg h0, n0, if_neg (fun e => absurd ((nI_eq (by omega) (by omega)).mp e) (by omega))]
      exact ih fu 0 (r + 1) (by omega) (by omega) (by omega)
theorem R_room {n : Nat} {g : St_Ref} {f : Nat → Int32} (hu : g_Rused g = (512, f)) (hr0 : g_Rrows g = nI n) (hn : 4 ≤ n ∧ n ≤ 512) {c : Nat} (hc : 1 ≤ c ∧ c ≤ 1000) : m_RRef_room g (nI c) = some (rv (runF f c (n - 2) 0 2)) := by
  unfold m_RRef_room
  rw [n0, n2]
  exact R_fR_L hu hr0 hn.2 hc (n - 2) FU 0 2 (by omega) (by omega) (FU_lt (by omega))
/-- how many of d rows from r on are free -/
def freeF (b : Nat → Int32) : Nat → Nat → Nat
  | 0, _ => 0
  | d + 1, r => (if b r = 0 then 1 else 0) + freeF b d (r + 1)
theorem freeF_congr {b b' : Nat → Int32} : ∀ (d r : Nat), (∀ j, r ≤ j → j < r + d → (b j = 0 ↔ b' j = 0)) → freeF b d r = freeF b' d r := by
  intro d
  induction d with
  | zero => intro r h; rfl
  | succ d ih =>
    intro r h
    rw [freeF, freeF, ih (r + 1) (fun j h1 h2 => h j (by omega) (by omega))]
    by_cases h0 : b r = 0
    · rw [if_pos h0, if_pos ((h r (by omega) (by omega)).mp h0)]
    · rw [if_neg h0, if_neg (fun e => h0 ((h r (by omega) (by omega)).mpr e))]
theorem C_cF_L {n : Nat} {x : St_Room} (hx : x.1 = n) (hn : n ≤ 512) : ∀ (d fuel a r : Nat), r + d = n → d < fuel → m_Room_countFree_L4 x fuel (nI a) (nI r) = some (nI (a + freeF x.2 d r)) := by
  intro d
  induction d with
  | zero =>
    intro fuel a r hr hf
    obtain ⟨fu, rfl, -⟩ := fu1 hf
    rw [m_Room_countFree_L4, hx, if_pos (nI_le (by omega) (by omega))]; rfl
  | succ d ih =>
    intro fuel a r hr hf
    obtain ⟨fu, rfl, hf'⟩ := fu1 hf
    rw [m_Room_countFree_L4, hx, if_neg (nI_ge (by omega) (by omega)), if_neg (nI_in (by omega) (by omega)), nI_clamp (by omega), freeF, nI_1 a, nI_1 r]
    by_cases h0 : x.2 r = 0
    · rw [if_pos h0, if_pos h0, ih fu (a + 1) (r + 1) (by omega) (by omega), ← Nat.add_assoc]
    · rw [if_neg h0, if_neg h0, ih fu a (r + 1) (by omega) (by omega), Nat.zero_add]
theorem C_countFree {n : Nat} {x : St_Room} (hx : x.1 = n) (hn : 4 ≤ n ∧ n ≤ 512) : m_Room_countFree x = some (nI (freeF x.2 (n - 2) 2)) := by
  unfold m_Room_countFree
  have h := C_cF_L hx hn.2 (n - 2) FU 0 2 (by omega) (FU_lt (by omega))
  rw [Nat.zero_add] at h
  exact h
theorem R_cF_L {n : Nat} {g : St_Ref} {f : Nat → Int32} (hu : g_Rused g = (512, f)) (hr0 : g_Rrows g = nI n) (hn : n ≤ 512) : ∀ (d fuel a r : Nat), r + d = n → d < fuel → m_RRef_told_L76 fuel g (nI a) (nI r) = some (nI (a + freeF f d r), g) := by
  intro d
  induction d with
  | zero =>
    intro fuel a r hr hf
    obtain ⟨fu, rfl, -⟩ := fu1 hf
    rw [m_RRef_told_L76, hr0, if_pos (nI_le (by omega) (by omega))]; rfl
  | succ d ih =>
    intro fuel a r hr hf
    obtain ⟨fu, rfl, hf'⟩ := fu1 hf
    rw [m_RRef_told_L76, hr0, if_neg (nI_ge (by omega) (by omega)), hu, if_neg (nI_in (show r < 512 by omega) (by omega)), nI_clamp (by omega), freeF, nI_1 a, nI_1 r]
    by_cases h0 : f r = 0
    · rw [if_pos h0, if_pos h0, ih fu (a + 1) (r + 1) (by omega) (by omega), ← Nat.add_assoc]
    · rw [if_neg h0, if_neg h0, n0, nI_add, Nat.add_zero, ih fu a (r + 1) (by omega) (by omega), Nat.zero_add]
/-- rows a .. a + c - 1 become v -/
def setF (f : Nat → Int32) (a c : Nat) (v : Int32) : Nat → Int32 := fun j => if a ≤ j ∧ j < a + c then v else f j
theorem kRm_set {n : Nat} {f : Nat → Int32} {a c : Nat} {v : Int32} (h : ∀ j, f j = 0 ∨ f j = 1) (hv : v = 0 ∨ v = 1) : kRm n (n, setF f a c v) := by
  refine ⟨rfl, fun j => ?_⟩
  show (if a ≤ j ∧ j < a + c then v else f j) = 0 ∨ (if a ≤ j ∧ j < a + c then v else f j) = 1
  by_cases hj : a ≤ j ∧ j < a + c
  · rw [if_pos hj]; exact hv
  · rw [if_neg hj]; exact h j
theorem C_set_L {n a c : Nat} (hn : n ≤ 512) (hac : a + c ≤ n) (v : Int32) : ∀ (d fuel i : Nat) (f : Nat → Int32), i + d = c → d < fuel → m_Room_set_L3 fuel (n, f) (nI a) (nI c) v (nI i) = some (n, setF f (a + i) d (vp_nar .boolean v)) := by
  intro d
  induction d with
  | zero =>
    intro fuel i f hi hf
    obtain ⟨fu, rfl, -⟩ := fu1 hf
    rw [m_Room_set_L3, if_pos (nI_le (by omega) (by omega))]
    have : setF f (a + i) 0 (vp_nar .boolean v) = f := by
      funext j
      unfold setF
      rw [if_neg (by omega)]
    rw [this]
  | succ d ih =>
    intro fuel i f hi hf
    obtain ⟨fu, rfl, hf'⟩ := fu1 hf
    rw [m_Room_set_L3, if_neg (nI_ge (by omega) (by omega)), nI_add, if_neg (nI_pos (by omega))]
    rw [if_neg (show ¬ nI (n, f).1 ≤ nI (a + i) from nI_ge (show a + i < n by omega) (by omega)), if_neg (show ¬ (nI (a + i) < 0 ∨ (n, f).1 ≤ (nI (a + i)).toNatClampNeg) from nI_in (show a + i < n by omega) (by omega)), nI_clamp (by omega), nI_1]
    refine Eq.trans (ih fu (i + 1) (upd f (a + i) (vp_nar .boolean v)) (by omega) (by omega)) ?_
    congr 2
    funext j
    unfold setF upd
    by_cases h1 : j = a + i
    · rw [if_neg (by omega), if_pos h1, if_pos (by omega)]
    · by_cases h2 : a + (i + 1) ≤ j ∧ j < a + (i + 1) + d
      · rw [if_pos h2, if_pos (by omega)]
      · rw [if_neg h2, if_neg h1, if_neg (by omega)]
theorem C_take {n a c : Nat} {x : St_Room} (hx : x.1 = n) (hn : n ≤ 512) (hac : a + c ≤ n) : m_Room_take x (nI a) (nI c) = some (n, setF x.2 a c 1) := by
  have h := C_set_L hn hac 1 c FU 0 x.2 (by omega) (FU_lt (by omega))
  have hx2 : x = (n, x.2) := Prod.ext hx rfl
  have h2 : m_Room_set x (nI a) (nI c) 1 = some (n, setF x.2 a c 1) := by
    unfold m_Room_set
    rw [n0]
    rw [hx2]
    exact h
  unfold m_Room_take
  rw [bs h2]
theorem C_free {n a c : Nat} {x : St_Room} (hx : x.1 = n) (hn : n ≤ 512) (hac : a + c ≤ n) : m_Room_free x (nI a) (nI c) = some (n, setF x.2 a c 0) := by
  have h := C_set_L hn hac 0 c FU 0 x.2 (by omega) (FU_lt (by omega))
  have hx2 : x = (n, x.2) := Prod.ext hx rfl
  have h2 : m_Room_set x (nI a) (nI c) 0 = some (n, setF x.2 a c 0) := by
    unfold m_Room_set
    rw [n0]
    rw [hx2]
    exact h
  unfold m_Room_free
  rw [bs h2]
-- THE REFERENCE'S USED ROWS
theorem sr_used (g : St_Ref) (a b : AI) : s_Rused (s_Rused g a) b = s_Rused g b := rfl
theorem nb1 : vp_nar .boolean 1 = 1 := by decide +kernel
theorem nb0 : vp_nar .boolean 0 = 0 := by decide +kernel
theorem n512 : (512 : Int32) = nI 512 := by decide +kernel
theorem upd1 {f : Nat → Int32} {k r : Nat} : upd f k 1 r = 0 ↔ f r = 0 ∧ r ≠ k := by
  unfold upd
  by_cases h : r = k
  · rw [if_pos h]
    exact ⟨fun e => absurd e (by decide), fun e => absurd h e.2⟩
  · rw [if_neg h]
    exact ⟨fun e => ⟨e, h⟩, fun e => e.1⟩
theorem R_u51 {g : St_Ref} (kk : St_Ref → Int32 → Option St_Ref) {k len w : Nat} (hk : k < 520) (l1 : (g_RpLength g).1 = 520) (l2 : (g_RpRow g).1 = 520) (e1 : (g_RpLength g).2 k = nI len) (e2 : (g_RpRow g).2 k = nI w) (hl : len ≤ 155) (hw : w + 1 + bod len ≤ 512) : ∀ (d fuel i : Nat) (f : Nat → Int32), i + d = bod len + 1 → d < fuel → ∃ f', m_RRef_marksUsed_L51 kk fuel (s_Rused g (512, f)) (nI k) (nI i) = kk (s_Rused g (512, f')) (nI k) ∧ ∀ r, f' r = 0 ↔ f r = 0 ∧ ¬ (w + i ≤ r ∧ r < w + 1 + bod len) := by
  have c0 : (nI k).toNatClampNeg = k := nI_clamp (by omega)
  have i0 : ∀ M, M = 520 → ¬ (nI k < 0 ∨ M ≤ k) := fun M hM => by
    have := nI_in (c := k) (N := 520) hk (by omega)
    rw [c0] at this
    rw [hM]; exact this
  intro d
  induction d with
  | zero =>
    intro fuel i f hi hf
    obtain ⟨fu, rfl, -⟩ := fu1 hf
    refine ⟨f, ?_, fun r => ⟨fun e => ⟨e, by omega⟩, fun e => e.1⟩⟩
    rw [m_RRef_marksUsed_L51]
    simp only [qR_pLength]
    rw [c0, e1]
    refine Eq.trans (if_neg (i0 _ l1)) ?_
    refine Eq.trans (bs (R_bodies (by omega))) ?_
    exact if_pos (nI_lt (by omega) (by omega))
  | succ d ih =>
    intro fuel i f hi hf
    obtain ⟨fu, rfl, hf'⟩ := fu1 hf
    obtain ⟨f', a1, a2⟩ := ih fu (i + 1) (upd f (w + i) 1) (by omega) (by omega)
    refine ⟨f', ?_, fun r => ?_⟩
    · rw [m_RRef_marksUsed_L51]
      simp only [qR_pLength, qR_pRow, qR_used, sr_used]
      rw [c0, e1, e2, nI_add]
      refine Eq.trans (if_neg (i0 _ l1)) ?_
      refine Eq.trans (bs (R_bodies (by omega))) ?_
      refine Eq.trans (if_neg (nI_nlt (by omega) (by omega))) ?_
      refine Eq.trans (if_neg (i0 _ l2)) ?_
      refine Eq.trans (if_neg (nI_in (show w + i < 512 by omega) (by omega))) ?_
      rw [nb1, nI_clamp (show w + i < 2 ^ 31 by omega), nI_1]
      exact a1
    · rw [a2 r, upd1]
      constructor
      · rintro ⟨⟨q1, q2⟩, q3⟩
        exact ⟨q1, fun q => q3 ⟨by omega, q.2⟩⟩
      · rintro ⟨q1, q2⟩
        exact ⟨⟨q1, fun q => q2 ⟨by omega, by omega⟩⟩, fun q => q2 ⟨by omega, q.2⟩⟩
theorem R_u41 {g : St_Ref} {n P : Nat} (h : RI n g) (hp : g_Rparts g = nI P) (hP : P ≤ 520) (hfit : ∀ k, k < P → FitP n (rrow g k)) (hn : n ≤ 512) : ∀ (d fuel k : Nat) (f : Nat → Int32), k + d = P → d < fuel → ∃ f', m_RRef_marksUsed_L41 fuel (s_Rused g (512, f)) (nI k) = m_RRef_marksUsed_L92 FU (s_Rused g (512, f')) 0 ∧ ∀ r, f' r = 0 ↔ f r = 0 ∧ ∀ j, k ≤ j → j < P → ¬ ((pIv (rrow g j)).1 ≤ r ∧ r < (pIv (rrow g j)).1 + (pIv (rrow g j)).2) := by
  intro d
  induction d with
  | zero =>
    intro fuel k f hk hf
    obtain ⟨fu, rfl, -⟩ := fu1 hf
    refine ⟨f, ?_, fun r => ⟨fun e => ⟨e, fun j h1 h2 => absurd h2 (by omega)⟩, fun e => e.1⟩⟩
    rw [m_RRef_marksUsed_L41]
    simp only [qR_parts]
    rw [hp]
    exact if_pos (nI_le (by omega) (by omega))
  | succ d ih =>
    intro fuel k f hk hf
    obtain ⟨fu, rfl, hf'⟩ := fu1 hf
    obtain ⟨a, b, l, w, q1, q2, q3, q4, q5, q6, q7, q8, q9, q10⟩ := hfit k (by omega)
    have e1 : (g_RpLength g).2 k = nI l := q6
    have e2 : (g_RpRow g).2 k = nI w := q8
    obtain ⟨f1, a1, a2⟩ := R_u51 (g := g) (fun (g18 : St_Ref) (v1_19 : Int32) => m_RRef_marksUsed_L41 fu g18 (v1_19 + 1)) (k := k) (by omega) (ri_pLength h) (ri_pRow h) e1 e2 q7 (by omega) (bod l + 1) FU 0 f (by omega) (FU_lt (by unfold bod; omega))
    obtain ⟨f', b1, b2⟩ := ih fu (k + 1) f1 (by omega) (by omega)
    refine ⟨f', ?_, fun r => ?_⟩
    · rw [m_RRef_marksUsed_L41]
      simp only [qR_parts]
      rw [hp]
      refine Eq.trans (if_neg (nI_ge (by omega) (by omega))) ?_
      refine Eq.trans a1 ?_
      show m_RRef_marksUsed_L41 fu (s_Rused g (512, f1)) (nI k + 1) = _
      rw [nI_1]
      exact b1
    · have hI : (pIv (rrow g k)).1 = w ∧ (pIv (rrow g k)).2 = 1 + bod l := by
        unfold pIv
        rw [q6, q8, nI_clamp (by omega), nI_clamp (by omega)]
        exact ⟨rfl, rfl⟩
      rw [b2 r, a2 r]
      constructor
      · rintro ⟨⟨z1, z2⟩, z3⟩
        refine ⟨z1, fun j j1 j2 => ?_⟩
        by_cases hj : j = k
        · rw [hj, hI.1, hI.2]
          intro q
          exact z2 ⟨by omega, by omega⟩
        · exact z3 j (by omega) j2
      · rintro ⟨z1, z2⟩
        refine ⟨⟨z1, fun q => ?_⟩, fun j j1 j2 => z2 j (by omega) j2⟩
        have := z2 k (by omega) (by omega)
        rw [hI.1, hI.2] at this
        exact this ⟨by omega, by omega⟩
theorem R_u102 {g : St_Ref} (kk : St_Ref → Int32 → Option St_Ref) {k c w : Nat} (hk : k < 270) (l1 : (g_RmCount g).1 = 270) (l2 : (g_RmRow g).1 = 270) (e1 : (g_RmCount g).2 k = nI c) (e2 : (g_RmRow g).2 k = nI w) (hc : c ≤ 12) (hw : w + 1 + ent c ≤ 512) : ∀ (d fuel i : Nat) (f : Nat → Int32), i + d = ent c + 1 → d < fuel → ∃ f', m_RRef_marksUsed_L102 kk fuel (s_Rused g (512, f)) (nI k) (nI i) = kk (s_Rused g (512, f')) (nI k) ∧ ∀ r, f' r = 0 ↔ f r = 0 ∧ ¬ (w + i ≤ r ∧ r < w + 1 + ent c) := by
  have c0 : (nI k).toNatClampNeg = k := nI_clamp (by omega)
  have i0 : ∀ M, M = 270 → ¬ (nI k < 0 ∨ M ≤ k) := fun M hM => by
    have := nI_in (c := k) (N := 270) hk (by omega)
    rw [c0] at this
    rw [hM]; exact this
  intro d
  induction d with
  | zero =>
    intro fuel i f hi hf
    obtain ⟨fu, rfl, -⟩ := fu1 hf
    refine ⟨f, ?_, fun r => ⟨fun e => ⟨e, by omega⟩, fun e => e.1⟩⟩
    rw [m_RRef_marksUsed_L102]
    simp only [qR_mRow, qR_mCount]
    rw [c0, e1, e2]
    refine Eq.trans (if_neg (i0 _ l2)) ?_
    refine Eq.trans (if_neg (nI_m1 (by omega))) ?_
    refine Eq.trans (if_neg (i0 _ l1)) ?_
    refine Eq.trans (bs (R_entries (by omega))) ?_
    exact if_pos (nI_lt (by omega) (by omega))
  | succ d ih =>
    intro fuel i f hi hf
    obtain ⟨fu, rfl, hf'⟩ := fu1 hf
    obtain ⟨f', a1, a2⟩ := ih fu (i + 1) (upd f (w + i) 1) (by omega) (by omega)
    refine ⟨f', ?_, fun r => ?_⟩
    · rw [m_RRef_marksUsed_L102]
      simp only [qR_mRow, qR_mCount, qR_used, sr_used]
      rw [c0, e1, e2, nI_add]
      refine Eq.trans (if_neg (i0 _ l2)) ?_
      refine Eq.trans (if_neg (nI_m1 (by omega))) ?_
      refine Eq.trans (if_neg (i0 _ l1)) ?_
      refine Eq.trans (bs (R_entries (by omega))) ?_
      refine Eq.trans (if_neg (nI_nlt (by omega) (by omega))) ?_
      refine Eq.trans (if_neg (i0 _ l2)) ?_
      refine Eq.trans (if_neg (nI_in (show w + i < 512 by omega) (by omega))) ?_
      rw [nb1, nI_clamp (show w + i < 2 ^ 31 by omega), nI_1]
      exact a1
    · rw [a2 r, upd1]
      constructor
      · rintro ⟨⟨q1, q2⟩, q3⟩
        exact ⟨q1, fun q => q3 ⟨by omega, q.2⟩⟩
      · rintro ⟨q1, q2⟩
        exact ⟨⟨q1, fun q => q2 ⟨by omega, by omega⟩⟩, fun q => q2 ⟨by omega, q.2⟩⟩
theorem R_u92 {g : St_Ref} {n M : Nat} (h : RI n g) (hp : g_Rmarks g = nI M) (hP : M ≤ 270) (hfit : ∀ k, k < M → FitK n (qrow g k) ∨ FitM (qrow g k)) (hn : n ≤ 512) : ∀ (d fuel k : Nat) (f : Nat → Int32), k + d = M → d < fuel → ∃ f', m_RRef_marksUsed_L92 fuel (s_Rused g (512, f)) (nI k) = some (s_Rused g (512, f')) ∧ ∀ r, f' r = 0 ↔ f r = 0 ∧ ∀ j, k ≤ j → j < M → FitK n (qrow g j) → ¬ ((mIv (qrow g j)).1 ≤ r ∧ r < (mIv (qrow g j)).1 + (mIv (qrow g j)).2) := by
  intro d
  induction d with
  | zero =>
    intro fuel k f hk hf
    obtain ⟨fu, rfl, -⟩ := fu1 hf
    refine ⟨f, ?_, fun r => ⟨fun e => ⟨e, fun j h1 h2 => absurd h2 (by omega)⟩, fun e => e.1⟩⟩
    rw [m_RRef_marksUsed_L92]
    simp only [qR_marks]
    rw [hp]
    exact if_pos (nI_le (by omega) (by omega))
  | succ d ih =>
    intro fuel k f hk hf
    obtain ⟨fu, rfl, hf'⟩ := fu1 hf
    have c0 : (nI k).toNatClampNeg = k := nI_clamp (by omega)
    rcases hfit k (by omega) with hK | hM
    · obtain ⟨a, c, w, q1, q2, q3, q4, q5, q6, q7, q8, q9⟩ := id hK
      have e1 : (g_RmCount g).2 k = nI c := q4
      have e2 : (g_RmRow g).2 k = nI w := q7
      obtain ⟨f1, a1, a2⟩ := R_u102 (g := g) (fun (g11 : St_Ref) (v1_12 : Int32) => m_RRef_marksUsed_L92 fu g11 (v1_12 + 1)) (k := k) (by omega) (ri_mCount h) (ri_mRow h) e1 e2 q6 (by omega) (ent c + 1) FU 0 f (by omega) (FU_lt (by unfold ent; omega))
      obtain ⟨f', b1, b2⟩ := ih fu (k + 1) f1 (by omega) (by omega)
      refine ⟨f', ?_, fun r => ?_⟩
      · rw [m_RRef_marksUsed_L92]
        simp only [qR_marks]
        rw [hp]
        refine Eq.trans (if_neg (nI_ge (by omega) (by omega))) ?_
        refine Eq.trans a1 ?_
        show m_RRef_marksUsed_L92 fu (s_Rused g (512, f1)) (nI k + 1) = _
        rw [nI_1]
        exact b1
      · have hI : (mIv (qrow g k)).1 = w ∧ (mIv (qrow g k)).2 = 1 + ent c := by
          unfold mIv
          rw [q4, q7, nI_clamp (by omega), nI_clamp (by omega)]
          exact ⟨rfl, rfl⟩
        rw [b2 r, a2 r]
        constructor
        · rintro ⟨⟨z1, z2⟩, z3⟩
          refine ⟨z1, fun j j1 j2 j3 => ?_⟩
          by_cases hj : j = k
          · rw [hj, hI.1, hI.2]
            intro q
            exact z2 ⟨by omega, by omega⟩
          · exact z3 j (by omega) j2 j3
        · rintro ⟨z1, z2⟩
          refine ⟨⟨z1, fun q => ?_⟩, fun j j1 j2 j3 => z2 j (by omega) j2 j3⟩
          have := z2 k (by omega) (by omega) hK
          rw [hI.1, hI.2] at this
          exact this ⟨by omega, by omega⟩
    · obtain ⟨a, c, q1, q2, q3, q4, q5, q6, q7, q8⟩ := id hM
      have e2 : (g_RmRow g).2 k = (-1) := q7
      obtain ⟨f', b1, b2⟩ := ih fu (k + 1) f (by omega) (by omega)
      refine ⟨f', ?_, fun r => ?_⟩
      · rw [m_RRef_marksUsed_L92]
        simp only [qR_marks]
        rw [hp]
        refine Eq.trans (if_neg (nI_ge (by omega) (by omega))) ?_
        obtain ⟨fv, hfv, -⟩ := fu1 (k := 1) (fuel := FU) (FU_lt (by omega))
        rw [hfv, m_RRef_marksUsed_L102]
        simp only [qR_mRow]
        rw [c0, e2]
        refine Eq.trans (if_neg (show ¬ (nI k < 0 ∨ (g_RmRow g).1 ≤ k) by
          have := nI_in (c := k) (N := 270) (by omega) (by omega)
          rw [c0] at this
          rw [show (g_RmRow g).1 = 270 from ri_mRow h]; exact this)) ?_
        refine Eq.trans (if_pos rfl) ?_
        show m_RRef_marksUsed_L92 fu (s_Rused g (512, f)) (nI k + 1) = _
        rw [nI_1]
        exact b1
      · rw [b2 r]
        constructor
        · rintro ⟨z1, z2⟩
          refine ⟨z1, fun j j1 j2 j3 => ?_⟩
          by_cases hj : j = k
          · rw [hj] at j3
            obtain ⟨_, _, w, _, _, _, _, _, _, p7, _, p9⟩ := j3
            rw [q7] at p7
            exact absurd p7 (m1_nI (by omega))
          · exact z2 j (by omega) j2 j3
        · rintro ⟨z1, z2⟩
          exact ⟨z1, fun j j1 j2 j3 => z2 j (by omega) j2 j3⟩
theorem R_u2 {g : St_Ref} {n : Nat} (hr : g_Rrows g = nI n) (hn : n ≤ 512) : ∀ (d fuel k : Nat) (f : Nat → Int32), k + d = 512 → d < fuel → (∀ r, r < k → (f r = 0 ↔ 2 ≤ r ∧ r < n)) → ∃ f', m_RRef_marksUsed_L2 fuel (s_Rused g (512, f)) (nI k) = m_RRef_marksUsed_L41 FU (s_Rused g (512, f')) 0 ∧ ∀ r, r < 512 → (f' r = 0 ↔ 2 ≤ r ∧ r < n) := by
  intro d
  induction d with
  | zero =>
    intro fuel k f hk hf h0
    obtain ⟨fu, rfl, -⟩ := fu1 hf
    refine ⟨f, ?_, fun r hr => h0 r (by omega)⟩
    rw [m_RRef_marksUsed_L2, n512]
    exact if_pos (nI_le (by omega) (by omega))
  | succ d ih =>
    intro fuel k f hk hf h0
    obtain ⟨fu, rfl, hf'⟩ := fu1 hf
    have c0 : (nI k).toNatClampNeg = k := nI_clamp (by omega)
    have i0 : ¬ (nI k < 0 ∨ 512 ≤ k) := by
      have := nI_in (c := k) (N := 512) (by omega) (by omega)
      rw [c0] at this
      exact this
    have step : ∀ v : Int32, (v = 0 ↔ 2 ≤ k ∧ k < n) → ∃ f', m_RRef_marksUsed_L2 fu (s_Rused g (512, upd f k v)) (nI (k + 1)) = m_RRef_marksUsed_L41 FU (s_Rused g (512, f')) 0 ∧ ∀ r, r < 512 → (f' r = 0 ↔ 2 ≤ r ∧ r < n) := fun v hv => ih fu (k + 1) (upd f k v) (by omega) (by omega) (fun r hr => by
      unfold upd
      by_cases hrk : r = k
      · rw [if_pos hrk, hrk]; exact hv
      · rw [if_neg hrk]; exact h0 r (by omega))
    by_cases h2 : k < 2
    · obtain ⟨f', a1, a2⟩ := step 1 ⟨fun e => absurd e (by decide), fun e => absurd e.1 (by omega)⟩
      refine ⟨f', ?_, a2⟩
      rw [m_RRef_marksUsed_L2]
      simp only [qR_rows, qR_used, sr_used]
      rw [c0, n512, n2, nb1, nI_1]
      refine Eq.trans (if_neg (nI_ge (by omega) (by omega))) ?_
      refine Eq.trans (if_pos (nI_lt h2 (by omega))) ?_
      refine Eq.trans (if_neg i0) ?_
      exact a1
    · by_cases h3 : k < n
      · obtain ⟨f', a1, a2⟩ := step 0 ⟨fun e => ⟨by omega, h3⟩, fun e => rfl⟩
        refine ⟨f', ?_, a2⟩
        rw [m_RRef_marksUsed_L2]
        simp only [qR_rows, qR_used, sr_used]
        rw [c0, n512, n2, nb0, nI_1, hr]
        refine Eq.trans (if_neg (nI_ge (by omega) (by omega))) ?_
        refine Eq.trans (if_neg (nI_nlt (by omega) (by omega))) ?_
        refine Eq.trans (if_pos (nI_lt h3 (by omega))) ?_
        refine Eq.trans (if_neg i0) ?_
        exact a1
      · obtain ⟨f', a1, a2⟩ := step 1 ⟨fun e => absurd e (by decide), fun e => absurd e.2 (by omega)⟩
        refine ⟨f', ?_, a2⟩
        rw [m_RRef_marksUsed_L2]
        simp only [qR_rows, qR_used, sr_used]
        rw [c0, n512, n2, nb1, nI_1, hr]
        refine Eq.trans (if_neg (nI_ge (by omega) (by omega))) ?_
        refine Eq.trans (if_neg (nI_nlt (by omega) (by omega))) ?_
        refine Eq.trans (if_neg (nI_nlt (by omega) (by omega))) ?_
        refine Eq.trans (if_neg i0) ?_
        exact a1
/-- what is used: all but the rows that no PART and no kept MARK has -/
theorem R_marksUsed {g : St_Ref} {n P M : Nat} (h : RI n g) (hn : n ≤ 512) (hp : g_Rparts g = nI P) (hP : P ≤ 520) (hfP : ∀ k, k < P → FitP n (rrow g k)) (hm : g_Rmarks g = nI M) (hM : M ≤ 270) (hfM : ∀ k, k < M → FitK n (qrow g k) ∨ FitM (qrow g k)) : ∃ f, m_RRef_marksUsed g = some (s_Rused g (512, f)) ∧ ∀ r, r < 512 → (f r = 0 ↔ (2 ≤ r ∧ r < n) ∧ (∀ j, j < P → ¬ ((pIv (rrow g j)).1 ≤ r ∧ r < (pIv (rrow g j)).1 + (pIv (rrow g j)).2)) ∧ ∀ j, j < M → FitK n (qrow g j) → ¬ ((mIv (qrow g j)).1 ≤ r ∧ r < (mIv (qrow g j)).1 + (mIv (qrow g j)).2)) := by
  have hu : g = s_Rused g (512, (g_Rused g).2) := by
    have : (512, (g_Rused g).2) = g_Rused g := Prod.ext (ri_used h).symm rfl
    rw [this]; rfl
  obtain ⟨f1, a1, a2⟩ := R_u2 (g := g) (n := n) (ri_rows h) hn 512 FU 0 (g_Rused g).2 (by omega) (FU_lt (by omega)) (fun r hr => absurd hr (by omega))
  obtain ⟨f2, b1, b2⟩ := R_u41 h hp hP hfP hn P FU 0 f1 (by omega) (FU_lt (by omega))
  obtain ⟨f3, c1, c2⟩ := R_u92 h hm hM hfM hn M FU 0 f2 (by omega) (FU_lt (by omega))
  refine ⟨f3, ?_, fun r hr => ?_⟩
  · unfold m_RRef_marksUsed
    rw [n0]
    rw [← hu] at a1
    refine Eq.trans a1 ?_
    refine Eq.trans b1 ?_
    exact c1
  · rw [c2 r, b2 r, a2 r hr]
    constructor
    · rintro ⟨⟨z1, z2⟩, z3⟩
      exact ⟨z1, fun j hj => z2 j (by omega) hj, fun j hj => z3 j (by omega) hj⟩
    · rintro ⟨z1, z2, z3⟩
      exact ⟨⟨z1, fun j _ hj => z2 j hj⟩, fun j _ hj => z3 j hj⟩
-- THE SAME THINGS ON BOTH SIDES
def PC (n : Nat) (x : St_Parts) (lp : List PQ) : Prop := PS n x lp.length ∧ lst (crow x) lp.length = lp
def PR (r : St_Ref) (lp : List PQ) : Prop := TR r lp.length (fun q => q ∈ lp)
theorem PC_tc {n : Nat} {x : St_Parts} {lp : List PQ} (h : PC n x lp) : TC n x lp.length (fun q => q ∈ lp) := by
  refine ⟨h.1, fun q => ?_⟩
  have e := h.2
  constructor
  · intro hq
    rw [← e] at hq
    exact mem_lst.mp hq
  · intro hq
    rw [← e]
    exact mem_lst.mpr hq
theorem PC_mem {n : Nat} {x : St_Parts} {lp : List PQ} (h : PC n x lp) {k : Nat} (hk : k < lp.length) : crow x k ∈ lp := ((PC_tc h).2 _).mpr ⟨k, hk, rfl⟩
theorem PR_mem {r : St_Ref} {lp : List PQ} (h : PR r lp) {k : Nat} (hk : k < lp.length) : rrow r k ∈ lp := (h.2.1 _).mpr ⟨k, hk, rfl⟩
theorem TR_congr {r : St_Ref} {P : Nat} {T T' : PQ → Prop} (h : TR r P T) (e : ∀ q, T q ↔ T' q) : TR r P T' := ⟨h.1, fun q => (e q).symm.trans (h.2.1 q), h.2.2⟩
theorem TR_fr {r r' : St_Ref} {P : Nat} {T : PQ → Prop} (e : fPar r' = fPar r) (h : TR r P T) : TR r' P T := by
  have e1 := e_pNumber e
  have e2 := e_pGroup e
  have e3 := e_pPosition e
  have e4 := e_pLength e
  have e5 := e_pRow e
  have e6 := e_parts e
  have er : ∀ k, rrow r' k = rrow r k := by
    intro k
    unfold rrow
    rw [e1, e2, e3, e4, e5]
  obtain ⟨⟨⟨l1, l2, l3, l4, l5⟩, hp, hP⟩, h2, h3⟩ := h
  refine ⟨⟨⟨by rw [e1]; exact l1, by rw [e2]; exact l2, by rw [e3]; exact l3, by rw [e4]; exact l4, by rw [e5]; exact l5⟩, by rw [e6]; exact hp, hP⟩, fun q => ?_, fun i j hi hj he => ?_⟩
  · rw [h2 q]
    exact ⟨fun ⟨k, hk, e⟩ => ⟨k, hk, by rw [er]; exact e⟩, fun ⟨k, hk, e⟩ => ⟨k, hk, by rw [← er]; exact e⟩⟩
  · rw [er, er] at he
    exact h3 i j hi hj he
theorem PR_fr {r r' : St_Ref} {lp : List PQ} (e : fPar r' = fPar r) (h : PR r lp) : PR r' lp := TR_fr e h
theorem MR_fr {r r' : St_Ref} {L : List MKQ} (e : fMrk r' = fMrk r) (h : MR r L) : MR r' L := by
  have er : qrow r' = qrow r := by
    funext k
    unfold qrow
    rw [e_mNumber e, e_mRow e, e_mCount e, e_mDigest e, e_mPart e]
  exact ⟨by rw [e_marks e]; exact h.1, h.2.1, by rw [er]; exact h.2.2.1, h.2.2.2⟩
/-- the numbers of a MARK's PARTS rise, up to GP -/
def Ris (GP : Nat) (m : MKQ) : Prop := ∃ ns : List Nat, m.2.2.2.2 = ns.map nI ∧ m.2.1 = nI ns.length ∧ 1 ≤ ns.length ∧ ns.length ≤ 12 ∧ ns.Pairwise (fun a b => a < b) ∧ ∀ a, a ∈ ns → 1 ≤ a ∧ a ≤ GP
def NumLe (G : Nat) (v : Int32) : Prop := ∃ a : Nat, 1 ≤ a ∧ a ≤ G ∧ v = nI a
def ivs (lp : List PQ) (lk : List MKQ) : List (Nat × Nat) := lp.map pIv ++ lk.map mIv
def Abs (n : Nat) (lp : List PQ) (lk lm : List MKQ) (GP GM : Nat) : Prop := (∀ q, q ∈ lp → FitP n q ∧ NumLe GP q.1) ∧ (∀ m, m ∈ lk → FitK n m ∧ Ris GP m ∧ NumLe GM m.1) ∧ (∀ m, m ∈ lm → FitM m ∧ Ris GP m ∧ NumLe GM m.1 ∧ ∀ v, v ∈ m.2.2.2.2 → ∃ q, q ∈ lp ∧ q.1 = v) ∧ DJ n (ivs lp lk) ∧ (lk ++ lm).Pairwise (fun a b => a.1 ≠ b.1) ∧ GP ≤ 1000000000 ∧ GM ≤ 1000000000
def BT (n : Nat) (x : St_Room) (l : List (Nat × Nat)) : Prop := x.1 = n ∧ ∀ r, 2 ≤ r → r < n → (x.2 r = 0 ↔ cov l r = 0)
theorem BT_perm {n : Nat} {x : St_Room} {l l' : List (Nat × Nat)} (p : l.Perm l') (h : BT n x l) : BT n x l' := ⟨h.1, fun r h1 h2 => by rw [← cov_perm p r]; exact h.2 r h1 h2⟩
theorem ivs_perm {lp lp' : List PQ} {lk lk' : List MKQ} (p : lp.Perm lp') (q : lk.Perm lk') : (ivs lp lk).Perm (ivs lp' lk') := List.Perm.append (p.map _) (q.map _)
theorem Abs_perm {n : Nat} {lp lp' : List PQ} {lk lk' lm lm' : List MKQ} {GP GM : Nat} (p : lp.Perm lp') (q : lk.Perm lk') (s : lm.Perm lm') (h : Abs n lp lk lm GP GM) : Abs n lp' lk' lm' GP GM := by
  obtain ⟨h1, h2, h3, h4, h5, h6⟩ := h
  refine ⟨fun z hz => h1 z (p.mem_iff.mpr hz), fun z hz => h2 z (q.mem_iff.mpr hz), fun z hz => ?_, DJ_perm (ivs_perm p q) h4, ((List.Perm.append q s).pairwise_iff (fun hr => hr.symm)).mp h5, h6⟩
  obtain ⟨k1, k2, k3, k4⟩ := h3 z (s.mem_iff.mpr hz)
  exact ⟨k1, k2, k3, fun v hv => by obtain ⟨w, hw, e⟩ := k4 v hv; exact ⟨w, p.mem_iff.mp hw, e⟩⟩
theorem pIv_of {n : Nat} {q : PQ} (h : FitP n q) (hn : n ≤ 512) : 1 ≤ (pIv q).2 := by unfold pIv; exact Nat.le_add_right _ _
theorem mIv_of {n : Nat} {m : MKQ} (h : FitK n m) (hn : n ≤ 512) : 2 ≤ (mIv m).2 := by
  obtain ⟨a, c, w, -, -, -, q4, q5, q6, -⟩ := h
  unfold mIv ent
  rw [q4, nI_clamp (by omega)]
  show 2 ≤ 1 + (c + 1) / 2
  omega
/-- so much fits the rows -/
theorem Abs_room {n : Nat} {lp : List PQ} {lk lm : List MKQ} {GP GM : Nat} (h : Abs n lp lk lm GP GM) (hn : n ≤ 512) : lp.length + 2 * lk.length ≤ n - 2 := by
  have h1 := DJ_sum h.2.2.2.1
  unfold ivs at h1
  rw [lens_app] at h1
  have h2 := lens_ge (l := lp.map pIv) (c := 1) (fun i hi => by
    obtain ⟨q, hq, rfl⟩ := List.mem_map.mp hi
    exact pIv_of (h.1 q hq).1 hn)
  have h3 := lens_ge (l := lk.map mIv) (c := 2) (fun i hi => by
    obtain ⟨q, hq, rfl⟩ := List.mem_map.mp hi
    exact mIv_of (h.2.1 q hq).1 hn)
  rw [List.length_map] at h2 h3
  omega
theorem FitM_notK {n : Nat} {m : MKQ} (h : FitM m) (hn : n ≤ 512) : ¬ FitK n m := by
  rintro ⟨_, _, w, _, _, _, _, _, _, p7, _, p9⟩
  obtain ⟨_, _, _, _, _, _, _, _, q7, _⟩ := h
  rw [q7] at p7
  exact m1_nI (by omega) p7
/-- the reference's used rows are the class's taken ones -/
theorem used_bits {n : Nat} {r : St_Ref} {x : St_Room} {lp : List PQ} {lk lm L : List MKQ} {GP GM : Nat} (hR : RI n r) (hn : n ≤ 512) (hA : Abs n lp lk lm GP GM) (hB : BT n x (ivs lp lk)) (hP : PR r lp) (hM : MR r L) (hL : L.Perm (lk ++ lm)) : ∃ f, m_RRef_marksUsed r = some (s_Rused r (512, f)) ∧ ∀ w, 2 ≤ w → w < n → (f w = 0 ↔ x.2 w = 0) := by
  obtain ⟨h1, h2, h3, h4, h5, h6⟩ := id hA
  have hfM : ∀ k, k < L.length → FitK n (qrow r k) ∨ FitM (qrow r k) := by
    intro k hk
    rcases List.mem_append.mp (hL.mem_iff.mp (MR_mem hM hk)) with hm | hm
    · exact Or.inl (h2 _ hm).1
    · exact Or.inr (h3 _ hm).1
  obtain ⟨f, a1, a2⟩ := R_marksUsed hR hn hP.1.2.1 hP.1.2.2 (fun k hk => (h1 _ (PR_mem hP hk)).1) hM.1 hM.2.1 hfM
  refine ⟨f, a1, fun w w1 w2 => ?_⟩
  rw [a2 w (by omega), hB.2 w w1 w2, cov_pos]
  unfold ivs
  constructor
  · rintro ⟨-, z2, z3⟩ i hi
    rcases List.mem_append.mp hi with hi | hi
    · obtain ⟨q, hq, rfl⟩ := List.mem_map.mp hi
      obtain ⟨k, hk, rfl⟩ := (hP.2.1 q).mp hq
      exact z2 k hk
    · obtain ⟨m, hm, rfl⟩ := List.mem_map.mp hi
      obtain ⟨k, hk, rfl⟩ := MR_ex hM (hL.mem_iff.mpr (List.mem_append.mpr (Or.inl hm)))
      exact z3 k hk (h2 _ hm).1
  · intro z
    refine ⟨⟨w1, w2⟩, fun j hj => z _ (List.mem_append.mpr (Or.inl (List.mem_map.mpr ⟨_, PR_mem hP hj, rfl⟩))), fun j hj hK => ?_⟩
    rcases List.mem_append.mp (hL.mem_iff.mp (MR_mem hM hj)) with hm | hm
    · exact z _ (List.mem_append.mpr (Or.inr (List.mem_map.mpr ⟨_, hm, rfl⟩)))
    · exact absurd hK (FitM_notK (h3 _ hm).1 hn)
/-- always the same: medium, power, TAPE, open or not -/
def Cor (n : Nat) (g : St_Log) (r : St_Ref) : Prop := (4 ≤ n ∧ n ≤ 512) ∧ CI n g ∧ RI n r ∧ tri (g_medium g) = rtri r ∧ g_isOpen g = g_Ropen r ∧ ∃ ts : Nat, BB 2000 (g_tape g) ts ∧ g_Rtaped r = nI ts ∧ ∀ j, j < ts → (g_tape g).1.2 j = (g_Rtape r).2 j
/-- the same while it is open: numbers -/
def Nums (g : St_Log) (r : St_Ref) (GP GM : Nat) : Prop := g_greatestPart g = nI GP ∧ g_RlastPart r = nI GP ∧ g_greatestMark g = nI GM ∧ g_RlastMark r = nI GM
def Hds (g : St_Log) (r : St_Ref) : Prop := ∃ (ow : Nat → Int32) (S : Nat), g_owners g = (8, ow) ∧ g_Rowners r = (8, ow) ∧ g_serial g = nI S ∧ g_Rserial r = nI S ∧ S ≤ 1000000000 ∧ ∀ j, j < 8 → ∃ o : Nat, o ≤ 65535 ∧ ow j = nI o
def TabC (n : Nat) (g : St_Log) (lp : List PQ) (lk lm : List MKQ) : Prop := PC n (g_parts g) lp ∧ MC (n / 2) (g_kept g) lk ∧ MC 6 (g_made g) lm ∧ BT n (g_room g) (ivs lp lk)
def TabR (r : St_Ref) (lp : List PQ) (L : List MKQ) : Prop := PR r lp ∧ MR r L
def Tab (n : Nat) (g : St_Log) (r : St_Ref) : Prop := ∃ (lp : List PQ) (lk lm L : List MKQ) (GP GM : Nat), TabC n g lp lk lm ∧ TabR r lp L ∧ L.Perm (lk ++ lm) ∧ Abs n lp lk lm GP GM ∧ Nums g r GP GM ∧ Hds g r
def Rel (n : Nat) (g : St_Log) (r : St_Ref) : Prop := Cor n g r ∧ (g_isOpen g = 1 → Tab n g r)
theorem TabC_fr {n : Nat} {g g' : St_Log} {lp : List PQ} {lk lm : List MKQ} (e1 : g_parts g' = g_parts g) (e2 : g_kept g' = g_kept g) (e3 : g_made g' = g_made g) (e4 : g_room g' = g_room g) (h : TabC n g lp lk lm) : TabC n g' lp lk lm := by
  unfold TabC
  rw [e1, e2, e3, e4]; exact h
theorem TabR_fr {r r' : St_Ref} {lp : List PQ} {L : List MKQ} (e1 : fPar r' = fPar r) (e2 : fMrk r' = fMrk r) (h : TabR r lp L) : TabR r' lp L := ⟨PR_fr e1 h.1, MR_fr e2 h.2⟩
theorem Nums_fr {g g' : St_Log} {r r' : St_Ref} {GP GM : Nat} (e1 : g_greatestPart g' = g_greatestPart g) (e2 : g_greatestMark g' = g_greatestMark g) (e3 : fLs r' = fLs r) (h : Nums g r GP GM) : Nums g' r' GP GM := by
  unfold Nums
  rw [e1, e2, e_lastPart e3, e_lastMark e3]; exact h
theorem Hds_fr {g g' : St_Log} {r r' : St_Ref} (e1 : g_owners g' = g_owners g) (e2 : g_serial g' = g_serial g) (e3 : fHd r' = fHd r) (h : Hds g r) : Hds g' r' := by
  unfold Hds
  rw [e1, e2, e_owners e3, e_serial e3]; exact h
theorem Tab_fr {n : Nat} {g g' : St_Log} {r r' : St_Ref} (e1 : g_parts g' = g_parts g) (e2 : g_kept g' = g_kept g) (e3 : g_made g' = g_made g) (e4 : g_room g' = g_room g) (e5 : g_greatestPart g' = g_greatestPart g) (e6 : g_greatestMark g' = g_greatestMark g) (e7 : g_owners g' = g_owners g) (e8 : g_serial g' = g_serial g) (f1 : fPar r' = fPar r) (f2 : fMrk r' = fMrk r) (f3 : fLs r' = fLs r) (f4 : fHd r' = fHd r) (h : Tab n g r) : Tab n g' r' := by
  obtain ⟨lp, lk, lm, L, GP, GM, h1, h2, h3, h4, h5, h6⟩ := h
  exact ⟨lp, lk, lm, L, GP, GM, TabC_fr e1 e2 e3 e4 h1, TabR_fr f1 f2 h2, h3, h4, Nums_fr e5 e6 f3 h5, Hds_fr e7 e8 f4 h6⟩
