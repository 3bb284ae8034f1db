-- LISTS OUT OF TABLES
def lst {α : Type} (f : Nat → α) (P : Nat) : List α := (List.range P).map f
theorem lst_len {α : Type} (f : Nat → α) (P : Nat) : (lst f P).length = P := by simp [lst]
theorem lst_succ {α : Type} (f : Nat → α) (P : Nat) : lst f (P + 1) = lst f P ++ [f P] := by simp [lst, List.range_succ]
theorem lst_zero {α : Type} (f : Nat → α) : lst f 0 = [] := rfl
theorem lst_congr {α : Type} {f g : Nat → α} {P : Nat} (h : ∀ k, k < P → f k = g k) : lst f P = lst g P := by
  unfold lst
  apply List.map_congr_left
  intro k hk
  exact h k (List.mem_range.mp hk)
theorem mem_lst {α : Type} {f : Nat → α} {P : Nat} {q : α} : q ∈ lst f P ↔ ∃ k, k < P ∧ f k = q := by
  simp [lst]
theorem lst_app {α : Type} (f : Nat → α) (a : Nat) : ∀ b, lst f (a + b) = lst f a ++ lst (fun k => f (a + k)) b := by
  intro b
  induction b with
  | zero => simp [lst]
  | succ b ih => rw [← Nat.add_assoc, lst_succ, ih, lst_succ, List.append_assoc]
theorem lst_cons {α : Type} (f : Nat → α) (P : Nat) : lst f (P + 1) = f 0 :: lst (fun k => f (k + 1)) P := by
  rw [Nat.add_comm, lst_app]
  show [f 0] ++ _ = _
  rw [show (fun k => f (1 + k)) = fun k => f (k + 1) from funext fun k => by rw [Nat.add_comm]]
  rfl
theorem lst_ins {α : Type} {f f' : Nat → α} {P p : Nat} {q : α} (hp : p ≤ P) (h : ∀ k, k ≤ P → f' k = if k < p then f k else if k = p then q else f (k - 1)) : (lst f' (P + 1)).Perm (q :: lst f P) := by
  obtain ⟨b, rfl⟩ : ∃ b, P = p + b := ⟨P - p, by omega⟩
  rw [show p + b + 1 = p + (1 + b) by omega, lst_app f' p (1 + b), lst_app f p b]
  have e1 : lst f' p = lst f p := lst_congr (fun k hk => by rw [h k (by omega), if_pos hk])
  have e2 : lst (fun k => f' (p + k)) (1 + b) = q :: lst (fun k => f (p + k)) b := by
    rw [Nat.add_comm, lst_cons]
    congr 1
    · show f' (p + 0) = q
      rw [h _ (by omega), if_neg (by omega), if_pos (by omega)]
    · refine lst_congr (fun k hk => ?_)
      show f' (p + (k + 1)) = f (p + k)
      rw [h _ (by omega), if_neg (by omega), if_neg (by omega), show p + (k + 1) - 1 = p + k by omega]
  rw [e1, e2]
  exact List.perm_middle
theorem lst_del {α : Type} {f f' : Nat → α} {P a : Nat} (ha : a < P) (h : ∀ k, k < P - 1 → f' k = if k < a then f k else f (k + 1)) : (f a :: lst f' (P - 1)).Perm (lst f P) := by
  obtain ⟨b, rfl⟩ : ∃ b, P = a + (b + 1) := ⟨P - a - 1, by omega⟩
  rw [show a + (b + 1) - 1 = a + b by omega, lst_app f' a b, lst_app f a (b + 1), lst_cons]
  have e1 : lst f' a = lst f a := lst_congr (fun k hk => by rw [h k (by omega), if_pos hk])
  have e2 : lst (fun k => f' (a + k)) b = lst (fun k => f (a + (k + 1))) b := by
    refine lst_congr (fun k hk => ?_)
    show f' (a + k) = f (a + (k + 1))
    rw [h _ (by omega), if_neg (by omega), Nat.add_assoc]
  rw [e1, e2]
  exact List.perm_middle.symm
theorem lst_forg {α : Type} {f f' : Nat → α} {P a : Nat} (ha : a < P) (h : ∀ k, k < P - 1 → f' k = if k = a then f (P - 1) else f k) : (f a :: lst f' (P - 1)).Perm (lst f P) := by
  by_cases hl : a = P - 1
  · have e1 : lst f' (P - 1) = lst f (P - 1) := lst_congr (fun k hk => by rw [h k hk, if_neg (by omega)])
    obtain ⟨b, rfl⟩ : ∃ b, P = b + 1 := ⟨P - 1, by omega⟩
    rw [e1, lst_succ, hl]
    exact (List.perm_append_singleton _ _).symm
  · obtain ⟨b, rfl⟩ : ∃ b, P = a + (b + 1) + 1 := ⟨P - a - 2, by omega⟩
    rw [show a + (b + 1) + 1 - 1 = a + (b + 1) by omega] at h ⊢
    have e1 : lst f' a = lst f a := lst_congr (fun k hk => by rw [h k (by omega), if_neg (by omega)])
    have e2 : lst (fun k => f' (a + k)) (b + 1) = f (a + (b + 1)) :: lst (fun k => f (a + (k + 1))) b := by
      rw [lst_cons]
      congr 1
      · show f' (a + 0) = _
        rw [h _ (by omega), if_pos (by omega)]
      · refine lst_congr (fun k hk => ?_)
        show f' (a + (k + 1)) = f (a + (k + 1))
        rw [h _ (by omega), if_neg (by omega)]
    rw [lst_app f' a (b + 1), e1, e2, lst_succ f (a + (b + 1)), lst_app f a (b + 1), lst_cons (fun k => f (a + k)) b]
    show (f a :: (lst f a ++ f (a + (b + 1)) :: lst (fun k => f (a + (k + 1))) b)).Perm ((lst f a ++ f a :: lst (fun k => f (a + (k + 1))) b) ++ [f (a + (b + 1))])
    refine List.Perm.trans (List.Perm.cons _ List.perm_middle) ?_
    refine List.Perm.trans ?_ (List.perm_append_singleton _ _).symm
    refine List.Perm.trans (List.Perm.swap _ _ _) ?_
    exact List.Perm.cons _ List.perm_middle.symm
-- ROWS: intervals that don't meet
def hasI (i : Nat × Nat) (r : Nat) : Bool := decide (i.1 ≤ r ∧ r < i.1 + i.2)
def cov (l : List (Nat × Nat)) (r : Nat) : Nat := l.countP (fun i => hasI i r)
def DJ (n : Nat) (l : List (Nat × Nat)) : Prop := (∀ i, i ∈ l → 2 ≤ i.1 ∧ 1 ≤ i.2 ∧ i.1 + i.2 ≤ n) ∧ l.Pairwise (fun a b => a.1 + a.2 ≤ b.1 ∨ b.1 + b.2 ≤ a.1)
def covS (l : List (Nat × Nat)) : Nat → Nat
  | 0 => 0
  | r + 1 => covS l r + cov l r
theorem cov_cons (a : Nat × Nat) (l : List (Nat × Nat)) (r : Nat) : cov (a :: l) r = (if a.1 ≤ r ∧ r < a.1 + a.2 then 1 else 0) + cov l r := by
  unfold cov
  rw [List.countP_cons, Nat.add_comm]
  congr 1
  unfold hasI
  simp only [decide_eq_true_eq]
theorem cov_nil (r : Nat) : cov [] r = 0 := rfl
theorem covS_cons (a : Nat × Nat) (l : List (Nat × Nat)) : ∀ n, covS (a :: l) n = covS [a] n + covS l n := by
  intro n
  induction n with
  | zero => rfl
  | succ n ih =>
    rw [covS, covS, covS, ih, cov_cons a l, cov_cons a [], cov_nil]
    omega
theorem covS_one (a : Nat × Nat) : ∀ n, covS [a] n = min n (a.1 + a.2) - min n a.1 := by
  intro n
  induction n with
  | zero => rw [covS]; omega
  | succ n ih =>
    rw [covS, ih, cov_cons a [], cov_nil]
    split <;> omega
theorem DJ_tail {n : Nat} {a : Nat × Nat} {l : List (Nat × Nat)} (h : DJ n (a :: l)) : DJ n l := ⟨fun i hi => h.1 i (List.mem_cons_of_mem _ hi), (List.pairwise_cons.mp h.2).2⟩
theorem cov_zero {l : List (Nat × Nat)} {r : Nat} (h : ∀ i, i ∈ l → ¬ (i.1 ≤ r ∧ r < i.1 + i.2)) : cov l r = 0 := by
  unfold cov
  rw [List.countP_eq_zero]
  intro i hi
  unfold hasI
  simp only [decide_eq_true_eq]
  exact h i hi
theorem cov_pos {l : List (Nat × Nat)} {r : Nat} : cov l r = 0 ↔ ∀ i, i ∈ l → ¬ (i.1 ≤ r ∧ r < i.1 + i.2) := by
  refine ⟨fun h i hi => ?_, cov_zero⟩
  unfold cov at h
  rw [List.countP_eq_zero] at h
  have := h i hi
  unfold hasI at this
  simpa only [decide_eq_true_eq] using this
theorem cov_le {n : Nat} {l : List (Nat × Nat)} (h : DJ n l) (r : Nat) : cov l r ≤ 1 := by
  induction l with
  | nil => rw [cov_nil]; omega
  | cons a l ih =>
    have h2 := ih (DJ_tail h)
    have h3 := (List.pairwise_cons.mp h.2).1
    rw [cov_cons]
    split
    · rename_i hr
      rw [cov_zero (l := l) (r := r) (fun i hi hc => by have := h3 i hi; omega)]
      omega
    · omega
theorem covS_le {n : Nat} {l : List (Nat × Nat)} (h : DJ n l) : ∀ m, covS l m ≤ m - 2 := by
  intro m
  induction m with
  | zero => rw [covS]; omega
  | succ m ih =>
    rw [covS]
    by_cases hm : m < 2
    · rw [cov_zero (l := l) (r := m) (fun i hi hc => by have := h.1 i hi; omega)]
      omega
    · have := cov_le h m
      omega
def lens (l : List (Nat × Nat)) : Nat := (l.map (fun i => i.2)).sum
theorem covS_sum {n : Nat} {l : List (Nat × Nat)} (h : DJ n l) : covS l n = lens l := by
  induction l with
  | nil =>
    have : ∀ m, covS [] m = 0 := by
      intro m
      induction m with
      | zero => rfl
      | succ m ih => rw [covS, ih, cov_nil]
    rw [this]; rfl
  | cons a l ih =>
    have h1 := h.1 a List.mem_cons_self
    rw [covS_cons, covS_one, ih (DJ_tail h)]
    unfold lens
    rw [List.map_cons, List.sum_cons]
    omega
theorem DJ_sum {n : Nat} {l : List (Nat × Nat)} (h : DJ n l) : lens l ≤ n - 2 := by
  rw [← covS_sum h]; exact covS_le h n
theorem DJ_perm {n : Nat} {l l' : List (Nat × Nat)} (p : l.Perm l') (h : DJ n l) : DJ n l' :=
  ⟨fun i hi => h.1 i (p.mem_iff.mpr hi), (p.pairwise_iff (fun hr => hr.symm)).mp h.2⟩
theorem DJ_cons {n : Nat} {a : Nat × Nat} {l : List (Nat × Nat)} (h : DJ n l) (h1 : 2 ≤ a.1 ∧ 1 ≤ a.2 ∧ a.1 + a.2 ≤ n) (h2 : ∀ r, a.1 ≤ r → r < a.1 + a.2 → cov l r = 0) : DJ n (a :: l) := by
  refine ⟨fun i hi => ?_, List.pairwise_cons.mpr ⟨fun i hi => ?_, h.2⟩⟩
  · rcases List.mem_cons.mp hi with rfl | hi
    · exact h1
    · exact h.1 i hi
  · have hi1 := h.1 i hi
    have k1 := fun hr => cov_pos.mp (h2 a.1 (Nat.le_refl _) (by omega)) i hi hr
    have k2 := fun (q1 : a.1 ≤ i.1) (q2 : i.1 < a.1 + a.2) => cov_pos.mp (h2 i.1 q1 q2) i hi ⟨by omega, by omega⟩
    rcases Nat.lt_or_ge i.1 a.1 with q | q
    · by_cases q3 : i.1 + i.2 ≤ a.1
      · exact Or.inr q3
      · exact absurd ⟨by omega, by omega⟩ k1
    · by_cases q3 : a.1 + a.2 ≤ i.1
      · exact Or.inl q3
      · exact absurd trivial (fun _ => k2 q (by omega))
theorem cov_perm {l l' : List (Nat × Nat)} (p : l.Perm l') (r : Nat) : cov l r = cov l' r := p.countP_eq _
theorem cov_app (l l' : List (Nat × Nat)) (r : Nat) : cov (l ++ l') r = cov l r + cov l' r := by
  unfold cov
  rw [List.countP_append]
theorem lens_app (l l' : List (Nat × Nat)) : lens (l ++ l') = lens l + lens l' := by
  unfold lens
  rw [List.map_append, List.sum_append]
theorem lens_ge {l : List (Nat × Nat)} {c : Nat} (h : ∀ i, i ∈ l → c ≤ i.2) : c * l.length ≤ lens l := by
  induction l with
  | nil => simp [lens]
  | cons a l ih =>
    have h1 := h a List.mem_cons_self
    have h2 := ih (fun i hi => h i (List.mem_cons_of_mem _ hi))
    unfold lens at h2 ⊢
    rw [List.map_cons, List.sum_cons, List.length_cons, Nat.mul_succ]
    omega
