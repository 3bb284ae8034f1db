-- THE CLASS'S TABLES OF MARKS
abbrev MKQ : Type := Int32 × Int32 × Int32 × Int64 × List Int32
def mls (c : Int32) (pn : Nat → Int32) (k : Nat) : List Int32 := (List.range c.toNatClampNeg).map (fun i => pn (12 * k + i))
/-- number, how many PARTS, row, digest, the numbers of the PARTS -/
def mrow (x : St_Marks) (k : Nat) : MKQ := (x.1.2 k, x.2.1.2 k, x.2.2.1.2 k, x.2.2.2.2.1.2 k, mls (x.2.1.2 k) x.2.2.2.1.2 k)
/-- room for N MARKS, P are there, each with at most 12 PARTS -/
def ML (N : Nat) (x : St_Marks) (P : Nat) : Prop := (x.1.1 = N ∧ x.2.1.1 = N ∧ x.2.2.1.1 = N ∧ x.2.2.2.1.1 = N * 12 ∧ x.2.2.2.2.1.1 = N) ∧ x.2.2.2.2.2 = nI P ∧ P ≤ N ∧ N ≤ 256 ∧ ∀ k, k < N → ∃ c : Nat, c ≤ 12 ∧ x.2.1.2 k = nI c
def MS (N : Nat) (x : St_Marks) (P : Nat) : Prop := ML N x P ∧ ∀ i j, i < j → j < P → x.1.2 i < x.1.2 j
theorem M_has1 {N P : Nat} {x : St_Marks} (h : ML N x P) {k : Nat} (hk : k < P) : m_Marks_has x (nI k) = some 1 := by
  obtain ⟨⟨h1, -⟩, h2, h3, h4, -⟩ := h
  unfold m_Marks_has
  rw [h1, h2, if_neg (nI_pos (by omega)), if_neg (nI_ge hk (by omega)), if_neg (nI_ge (by omega) (by omega))]
theorem M_has0 {N P : Nat} {x : St_Marks} (h : ML N x P) {v : Int32} (hv : v < 0 ∨ nI P ≤ v) : m_Marks_has x v = some 0 := by
  obtain ⟨⟨h1, -⟩, h2, h3, h4, -⟩ := h
  unfold m_Marks_has
  rw [h1, h2]
  rcases hv with hv | hv
  · rw [if_pos hv]
  · by_cases h0 : v < 0
    · rw [if_pos h0]
    · rw [if_neg h0, if_pos hv]
theorem M_in {N P k : Nat} (hP : P ≤ N) (hN : N ≤ 256) (hk : k < P) {M : Nat} (hM : M = N) : ¬ (nI k < 0 ∨ M ≤ (nI k).toNatClampNeg) := by
  rw [hM]; exact nI_in (by omega) (by omega)
theorem M_numberAt {N P : Nat} {x : St_Marks} (h : ML N x P) {k : Nat} (hk : k < P) : m_Marks_numberAt x (nI k) = some (x.1.2 k) := by
  unfold m_Marks_numberAt
  rw [bs (M_has1 h hk), if_neg e10, if_neg (M_in h.2.2.1 h.2.2.2.1 hk h.1.1), nI_clamp (by have := h.2.2.1; have := h.2.2.2.1; omega)]
theorem M_countAt {N P : Nat} {x : St_Marks} (h : ML N x P) {k : Nat} (hk : k < P) : m_Marks_countAt x (nI k) = some (x.2.1.2 k) := by
  unfold m_Marks_countAt
  rw [bs (M_has1 h hk), if_neg e10, if_neg (M_in h.2.2.1 h.2.2.2.1 hk h.1.2.1), nI_clamp (by have := h.2.2.1; have := h.2.2.2.1; omega)]
theorem M_rowAt {N P : Nat} {x : St_Marks} (h : ML N x P) {k : Nat} (hk : k < P) : m_Marks_rowAt x (nI k) = some (x.2.2.1.2 k) := by
  unfold m_Marks_rowAt
  rw [bs (M_has1 h hk), if_neg e10, if_neg (M_in h.2.2.1 h.2.2.2.1 hk h.1.2.2.1), nI_clamp (by have := h.2.2.1; have := h.2.2.2.1; omega)]
theorem M_digestAt {N P : Nat} {x : St_Marks} (h : ML N x P) {k : Nat} (hk : k < P) : m_Marks_digestAt x (nI k) = some (x.2.2.2.2.1.2 k) := by
  unfold m_Marks_digestAt
  rw [bs (M_has1 h hk), if_neg e10, if_neg (M_in h.2.2.1 h.2.2.2.1 hk h.1.2.2.2.2), nI_clamp (by have := h.2.2.1; have := h.2.2.2.1; omega)]
theorem M_numberAt0 {N P : Nat} {x : St_Marks} (h : ML N x P) {v : Int32} (hv : v < 0 ∨ nI P ≤ v) : m_Marks_numberAt x v = some (-1) := by
  unfold m_Marks_numberAt
  rw [bs (M_has0 h hv), if_pos rfl]
theorem M_countAt0 {N P : Nat} {x : St_Marks} (h : ML N x P) {v : Int32} (hv : v < 0 ∨ nI P ≤ v) : m_Marks_countAt x v = some 0 := by
  unfold m_Marks_countAt
  rw [bs (M_has0 h hv), if_pos rfl]
/-- PART i of MARK k, or -1 -/
theorem M_partAt {N P : Nat} {x : St_Marks} (h : ML N x P) {k c : Nat} (hk : k < P) (hc : x.2.1.2 k = nI c) (hc2 : c ≤ 12) (v : Int32) : m_Marks_partAt x (nI k) v = some (if v < 0 ∨ nI c ≤ v then (-1) else x.2.2.2.1.2 (12 * k + v.toNatClampNeg)) := by
  have h3 := h.2.2.1
  have h4 := h.2.2.2.1
  unfold m_Marks_partAt
  by_cases h0 : v < 0
  · rw [if_pos h0, if_pos (Or.inl h0)]
  · rw [if_neg h0, bs (M_countAt h hk), hc]
    by_cases h1 : nI c ≤ v
    · rw [if_pos h1, if_pos (Or.inr h1)]
    · rw [if_neg h1, if_neg (show ¬ (v < 0 ∨ nI c ≤ v) from fun e => e.elim h0 h1)]
      rcases pk_ix v (n := c) (by omega) with h2 | h2 | ⟨i, hi, rfl⟩
      · exact absurd h2 h0
      · exact absurd h2 h1
      · rw [show (12 : Int32) = nI 12 by decide +kernel, pk_mul, nI_add, if_neg (show ¬ (nI (k * 12 + i) < 0 ∨ x.2.2.2.1.1 ≤ (nI (k * 12 + i)).toNatClampNeg) by rw [h.1.2.2.2.1]; exact nI_in (by omega) (by omega)), nI_clamp (by omega), nI_clamp (by omega), Nat.mul_comm k 12]
theorem M_find {N P : Nat} {x : St_Marks} (h : MS N x P) (v : Int32) : (m_Marks_find x v = some (-1) ∧ ∀ k, k < P → x.1.2 k ≠ v) ∨ ∃ k, k < P ∧ m_Marks_find x v = some (nI k) ∧ x.1.2 k = v := by
  obtain ⟨hML, hs⟩ := h
  obtain ⟨hl, h2, h3, h4, -⟩ := id hML
  have hx : x.1 = (N, x.1.2) := Prod.ext hl.1 rfl
  obtain ⟨p, e1, e2, e3, e4⟩ := C_placeOf (N := N) (P := P) (f := x.1.2) (by omega) h3 hs v
  have e1' : m_Log_placeOf x.1 x.2.2.2.2.2 v = some (nI p) := by rw [hx, h2]; exact e1
  unfold m_Marks_find
  rw [bs e1']
  by_cases hp : p < P
  · rw [bs (M_numberAt hML hp), h2]
    by_cases hv : x.1.2 p = v
    · right
      refine ⟨p, hp, ?_, hv⟩
      rw [if_pos hv, if_neg (nI_ge hp (by omega))]
    · left
      rw [if_neg hv]
      refine ⟨rfl, fun k hk he => ?_⟩
      by_cases hkp : k < p
      · have := e3 k hkp
        rw [he] at this
        exact Int32.lt_irrefl this
      · by_cases hke : k = p
        · subst hke; exact hv he
        · have h5 := hs p k (by omega) hk
          have h6 := e4 p (by omega) hp
          rw [he] at h5
          exact Int32.lt_irrefl (Int32.lt_of_lt_of_le h5 h6)
  · left
    have hpe : p = P := by omega
    subst hpe
    rw [bs (M_numberAt0 hML (Or.inr (nI_le (Nat.le_refl _) (by omega)))), h2]
    refine ⟨?_, fun k hk he => ?_⟩
    · split
      · rw [if_pos (nI_le (Nat.le_refl _) (by omega))]
      · rfl
    · have := e3 k hk
      rw [he] at this
      exact Int32.lt_irrefl this
/-- i PARTS of MARK a stand at b too -/
def pcp (pn : Nat → Int32) (a b i : Nat) : Nat → Int32 := fun j => if 12 * b ≤ j ∧ j < 12 * b + i then pn (12 * a + (j - 12 * b)) else pn j
theorem pcp_step (pn : Nat → Int32) {a b i : Nat} (hab : a ≠ b) (hi : i < 12) : upd (pcp pn a b i) (12 * b + i) (pcp pn a b i (12 * a + i)) = pcp pn a b (i + 1) := by
  funext j
  unfold upd pcp
  by_cases h : j = 12 * b + i
  · subst h
    rw [if_pos rfl, if_neg (by omega), if_pos (by omega), show 12 * b + i - 12 * b = i by omega]
  · rw [if_neg h]
    by_cases h2 : 12 * b ≤ j ∧ j < 12 * b + i
    · rw [if_pos h2, if_pos (by omega)]
    · rw [if_neg h2, if_neg (by omega)]
/-- MARK a stands at b too -/
def mcp (x : St_Marks) (a b : Nat) : St_Marks := ((x.1.1, upd x.1.2 b (x.1.2 a)), (x.2.1.1, upd x.2.1.2 b (x.2.1.2 a)), (x.2.2.1.1, upd x.2.2.1.2 b (x.2.2.1.2 a)), (x.2.2.2.1.1, pcp x.2.2.2.1.2 a b (x.2.1.2 a).toNatClampNeg), (x.2.2.2.2.1.1, vp_updL x.2.2.2.2.1.2 b (x.2.2.2.2.1.2 a)), x.2.2.2.2.2)
theorem M_move_L {N : Nat} (hN : N ≤ 256) {a b c : Nat} (ha : a < N) (hb : b < N) (hab : a ≠ b) (hc2 : c ≤ 12) (pn : Nat → Int32) (x1 : AI) (x2 : AI) (x3 : AI) (x5 : AL) (x6 : Int32) (l2 : x2.1 = N) (hc : x2.2 a = nI c) : ∀ (d fuel i : Nat), i + d = c → d < fuel → m_Marks_move_L67 fuel (x1, x2, x3, (N * 12, pcp pn a b i), x5, x6) (nI a) (nI b) (nI i) = some (x1, x2, x3, (N * 12, pcp pn a b c), x5, x6) := by
  intro d
  induction d with
  | zero =>
    intro fuel i hi hf
    obtain ⟨fu, rfl, -⟩ := fu1 hf
    rw [m_Marks_move_L67]
    simp only
    rw [l2, if_neg (nI_in ha (by omega)), nI_clamp (by omega), hc, if_pos (nI_le (by omega) (by omega)), show i = c by omega]
  | succ d ih =>
    intro fuel i hi hf
    obtain ⟨fu, rfl, hf'⟩ := fu1 hf
    rw [m_Marks_move_L67]
    simp only
    rw [l2, if_neg (nI_in ha (by omega)), nI_clamp (show a < 2 ^ 31 by omega), hc, if_neg (nI_ge (by omega) (by omega)), show (12 : Int32) = nI 12 by decide +kernel, pk_mul, pk_mul, nI_add, nI_add, if_neg (nI_in (show a * 12 + i < N * 12 by omega) (by omega)), if_neg (nI_in (show b * 12 + i < N * 12 by omega) (by omega)), nI_clamp (show a * 12 + i < 2 ^ 31 by omega), nI_clamp (show b * 12 + i < 2 ^ 31 by omega), Nat.mul_comm a 12, Nat.mul_comm b 12, pcp_step pn hab (by omega), nI_1]
    exact ih fu (i + 1) (by omega) (by omega)
theorem M_move {N P : Nat} {x : St_Marks} (h : ML N x P) {a b : Nat} (ha : a < P) (hb : b < P) (hab : a ≠ b) : m_Marks_move x (nI a) (nI b) = some (mcp x a b) := by
  have i1 : ∀ M, M = N → ¬ (nI a < 0 ∨ M ≤ (nI a).toNatClampNeg) := fun M hM => M_in h.2.2.1 h.2.2.2.1 ha hM
  have i2 : ∀ M, M = N → ¬ (nI b < 0 ∨ M ≤ (nI b).toNatClampNeg) := fun M hM => M_in h.2.2.1 h.2.2.2.1 hb hM
  obtain ⟨c, hc2, hc⟩ := h.2.2.2.2 a (by have := h.2.2.1; omega)
  unfold m_Marks_move
  refine Eq.trans (bs (M_has1 h ha)) ?_
  refine Eq.trans (if_neg e10) ?_
  refine Eq.trans (bs (M_has1 h hb)) ?_
  refine Eq.trans (if_neg e10) ?_
  obtain ⟨⟨l1, l2, l3, l4, l5⟩, -, h3, h4, -⟩ := h
  refine Eq.trans (if_neg (i1 _ l1)) ?_
  refine Eq.trans (if_neg (i2 _ l1)) ?_
  refine Eq.trans (if_neg (i1 _ l2)) ?_
  refine Eq.trans (if_neg (i2 _ l2)) ?_
  refine Eq.trans (if_neg (i1 _ l3)) ?_
  refine Eq.trans (if_neg (i2 _ l3)) ?_
  refine Eq.trans (if_neg (i1 _ l5)) ?_
  refine Eq.trans (if_neg (i2 _ l5)) ?_
  rw [nI_clamp (show a < 2 ^ 31 by omega), nI_clamp (show b < 2 ^ 31 by omega)]
  have hpn : x.2.2.2.1 = (N * 12, pcp x.2.2.2.1.2 a b 0) := by
    refine Prod.ext l4 (funext fun j => ?_)
    show x.2.2.2.1.2 j = (if 12 * b ≤ j ∧ j < 12 * b + 0 then _ else x.2.2.2.1.2 j)
    rw [if_neg (by omega)]
  rw [hpn]
  have hm := M_move_L (N := N) h4 (a := a) (b := b) (c := c) (by omega) (by omega) hab hc2 x.2.2.2.1.2 (x.1.1, upd x.1.2 b (x.1.2 a)) (x.2.1.1, upd x.2.1.2 b (x.2.1.2 a)) (x.2.2.1.1, upd x.2.2.1.2 b (x.2.2.1.2 a)) (x.2.2.2.2.1.1, vp_updL x.2.2.2.2.1.2 b (x.2.2.2.2.1.2 a)) x.2.2.2.2.2 l2 (by show (if a = b then x.2.1.2 a else x.2.1.2 a) = nI c; rw [if_neg hab]; exact hc) c FU 0 (by omega) (FU_lt (by omega))
  rw [n0]
  refine Eq.trans hm ?_
  unfold mcp
  rw [hc, nI_clamp (by omega), l4]
theorem mls_congr {c : Int32} {pn pn' : Nat → Int32} {k k' : Nat} (h : ∀ i, i < c.toNatClampNeg → pn (12 * k + i) = pn' (12 * k' + i)) : mls c pn k = mls c pn' k' := by
  unfold mls
  apply List.map_congr_left
  intro i hi
  exact h i (List.mem_range.mp hi)
theorem mrow_mcp {N P : Nat} {x : St_Marks} (h : ML N x P) {a b : Nat} (ha : a < N) {k : Nat} (hk : k < N) : mrow (mcp x a b) k = if k = b then mrow x a else mrow x k := by
  obtain ⟨ca, hca, ea⟩ := h.2.2.2.2 a ha
  obtain ⟨ck, hck, ek⟩ := h.2.2.2.2 k hk
  unfold mrow mcp upd vp_updL
  by_cases hkb : k = b
  · subst hkb
    simp only [if_true]
    refine Prod.ext rfl (Prod.ext rfl (Prod.ext rfl (Prod.ext rfl ?_)))
    refine mls_congr (fun i hi => ?_)
    show (if 12 * k ≤ 12 * k + i ∧ 12 * k + i < 12 * k + _ then _ else _) = _
    rw [if_pos ⟨by omega, by omega⟩, show 12 * k + i - 12 * k = i by omega]
  · simp only [if_neg hkb]
    refine Prod.ext rfl (Prod.ext rfl (Prod.ext rfl (Prod.ext rfl ?_)))
    refine mls_congr (fun i hi => ?_)
    rw [ek, nI_clamp (by omega)] at hi
    show (if 12 * b ≤ 12 * k + i ∧ 12 * k + i < 12 * b + _ then _ else _) = _
    rw [ea, nI_clamp (by omega), if_neg (by omega)]
theorem ML_mcp {N P : Nat} {x : St_Marks} (h : ML N x P) {a b : Nat} (ha : a < N) : ML N (mcp x a b) P := by
  refine ⟨h.1, h.2.1, h.2.2.1, h.2.2.2.1, fun k hk => ?_⟩
  show ∃ c : Nat, c ≤ 12 ∧ (if k = b then x.2.1.2 a else x.2.1.2 k) = nI c
  split
  · exact h.2.2.2.2 a ha
  · exact h.2.2.2.2 k hk
