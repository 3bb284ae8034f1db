-- A HEAD IS DRAWN, AND WRITTEN
/-- the owners' numbers from j on -/
def ownF (ow : Nat → Int32) : Nat → Nat → (Nat → Int32) → (Nat → Int32)
  | 0, _, f => f
  | d + 1, j, f => ownF ow d (j + 1) (pF f (8 + 2 * j) 2 (ow j).toInt64)
def headImg (ow : Nat → Int32) (ser : Int32) : Nat → Int32 :=
  pF (ownF ow 8 0 (pF (pF (fun _ => 0) 0 1 4) 4 4 ser.toInt64)) 24 8 (digF (ownF ow 8 0 (pF (pF (fun _ => 0) 0 1 4) 4 4 ser.toInt64)) 0 24)
theorem By_own (ow : Nat → Int32) : ∀ (d j : Nat) (f : Nat → Int32), (∀ j, By (f j)) → ∀ k, By (ownF ow d j f k) := by
  intro d
  induction d with
  | zero => intro j f h; exact h
  | succ d ih => intro j f h; exact ih _ _ (By_pF h _ _ _)
theorem own_hi (ow : Nat → Int32) : ∀ (d j : Nat) (f : Nat → Int32) (k : Nat), j + d ≤ 8 → 24 ≤ k → ownF ow d j f k = f k := by
  intro d
  induction d with
  | zero => intro j f k h1 h2; rfl
  | succ d ih =>
    intro j f k h1 h2
    rw [ownF, ih _ _ _ (by omega) h2, pF_hi (by omega)]
theorem By_head (ow : Nat → Int32) (ser : Int32) : ∀ j, By (headImg ow ser j) := by
  unfold headImg
  exact By_pF (By_own ow _ _ _ (By_pF (By_pF (fun _ => By0) _ _ _) _ _ _)) _ _ _
theorem head_hi (ow : Nat → Int32) (ser : Int32) {j : Nat} (hj : 32 ≤ j) : headImg ow ser j = 0 := by
  unfold headImg
  rw [pF_hi (by omega), own_hi ow _ _ _ _ (by omega) (by omega), pF_hi (by omega), pF_hi (by omega)]
theorem C_dH_L {g : St_Log} {ow : Nat → Int32} (how : g_owners g = (8, ow)) : ∀ (d fuel : Nat) (im : St_Bytes) (j : Nat), BBe 224 im → j + d = 8 → d < fuel → ∃ im', m_Log_drawHead_L35 fuel (s_image g im) (nI j) = some (s_image g im') ∧ im'.1.2 = pF (ownF ow d j im.1.2) 24 8 (digF (ownF ow d j im.1.2) 0 24) ∧ BBe 224 im' := by
  intro d
  induction d with
  | zero =>
    intro fuel im j hI hj hf
    obtain ⟨fu, rfl, -⟩ := fu1 hf
    obtain ⟨im', s1, s2, s3⟩ := C_drawSum (g := s_image g im) (im := im) rfl hI
    refine ⟨im', ?_, s2, s3⟩
    rw [m_Log_drawHead_L35, n8]
    refine Eq.trans (if_pos (nI_le (by omega) (by omega))) ?_
    refine Eq.trans (bs s1) ?_
    rfl
  | succ d ih =>
    intro fuel im j hI hj hf
    obtain ⟨fu, rfl, hf'⟩ := fu1 hf
    obtain ⟨x', h1, h2, h3⟩ := Be_put hI (by omega) (i := 8 + 2 * j) (K := 2) (by omega) (by omega) (ow j).toInt64
    obtain ⟨im', i1, i2, i3⟩ := ih fu x' (j + 1) h3 (by omega) (by omega)
    refine ⟨im', ?_, by rw [i2, h2]; rfl, i3⟩
    rw [m_Log_drawHead_L35]
    refine Eq.trans (if_neg (show ¬ (8 : Int32) ≤ nI j by rw [n8]; exact nI_ge (by omega) (by omega))) ?_
    simp only [q_image, q_owners, ss_image, how]
    refine Eq.trans (if_neg (nI_in (show j < 8 by omega) (by omega))) ?_
    rw [n8, n2, pk_mul, nI_add, nI_clamp (by omega), nI_1]
    refine Eq.trans (bs (show m_Bytes_put im (nI (8 + 2 * j)) (ow j).toInt64 (nI 2) = some x' from h1)) ?_
    exact i1
theorem C_drawHead {g : St_Log} {ow : Nat → Int32} {ser : Int32} (how : g_owners g = (8, ow)) (hs : g_serial g = ser) (hI : BBe 224 (g_image g)) : ∃ im', m_Log_drawHead g = some (s_image g im') ∧ im'.1.2 = headImg ow ser ∧ BBe 224 im' := by
  obtain ⟨e1, e2⟩ := Be_clear hI (by omega)
  obtain ⟨y2, p2, c2, b2⟩ := Be_put e2 (by omega) (i := 0) (K := 1) (by omega) (by omega) 4
  obtain ⟨y3, p3, c3, b3⟩ := Be_put b2 (by omega) (i := 4) (K := 4) (by omega) (by omega) ser.toInt64
  obtain ⟨im', i1, i2, i3⟩ := C_dH_L how 8 FU y3 0 b3 (by omega) (FU_lt (by omega))
  refine ⟨im', ?_, by rw [i2, c3, c2]; rfl, i3⟩
  unfold m_Log_drawHead
  rw [hs]
  refine Eq.trans (bs e1) ?_
  refine Eq.trans (bs p2) ?_
  refine Eq.trans (bs p3) ?_
  simp only [ss_image]
  exact i1
theorem R_oL {g : St_Ref} {ow : Nat → Int32} (how : g_Rowners g = (8, ow)) (hm : (g_Rmedium g).1 = 16384) (hp : Pw (g_RcutIn g)) {S : Nat} (hs : g_Rserial g = nI S) (hS : S ≤ 1000000000) {a : Nat} (ha : a < 8) : ∀ (d fuel : Nat) (f : Nat → Int32) (j : Nat), (∀ k, By (f k)) → j + d = 8 → d < fuel → m_RRef_owner_L93 fuel (s_Rdraft g (256, f)) (nI a) (nI j) = some (if (wrS (fun k => pF (ownF ow d j f) 24 8 (digF (ownF ow d j f) 0 24) (0 + k)) (32 * (S % 2)) 32 0 (rtri g)).1 = 0 then ((-5), rout (s_Rdraft g (256, pF (ownF ow d j f) 24 8 (digF (ownF ow d j f) 0 24))) (wrS (fun k => pF (ownF ow d j f) 24 8 (digF (ownF ow d j f) 0 24) (0 + k)) (32 * (S % 2)) 32 0 (rtri g))) else (ow a, rout (s_Rdraft g (256, pF (ownF ow d j f) 24 8 (digF (ownF ow d j f) 0 24))) (wrS (fun k => pF (ownF ow d j f) 24 8 (digF (ownF ow d j f) 0 24) (0 + k)) (32 * (S % 2)) 32 0 (rtri g)))) := by
  intro d
  induction d with
  | zero =>
    intro fuel f j hb hj hf
    obtain ⟨fu, rfl, -⟩ := fu1 hf
    show m_RRef_owner_L93 (fu + 1) (s_Rdraft g (256, f)) (nI a) (nI j) = some (if (wrS (fun k => pF f 24 8 (digF f 0 24) (0 + k)) (32 * (S % 2)) 32 0 (rtri g)).1 = 0 then ((-5), rout (s_Rdraft g (256, pF f 24 8 (digF f 0 24))) (wrS (fun k => pF f 24 8 (digF f 0 24) (0 + k)) (32 * (S % 2)) 32 0 (rtri g))) else (ow a, rout (s_Rdraft g (256, pF f 24 8 (digF f 0 24))) (wrS (fun k => pF f 24 8 (digF f 0 24) (0 + k)) (32 * (S % 2)) 32 0 (rtri g))))
    have hj2 : jrem (nI S) 2 = nI (S % 2) := by
      unfold jrem
      rw [n2, pk_rem (by omega) (by omega) (by omega)]
    have s1 := R_sumDraft (g := s_Rdraft g (256, f)) rfl
    have hw : m_RRef_write (s_Rdraft g (256, pF f 24 8 (digF f 0 24))) (nI (S % 2)) (nI 0) = _ := R_write (g := s_Rdraft g (256, pF f 24 8 (digF f 0 24))) (row := S % 2) (fr := 0) (by omega) hm rfl (by omega) (By_pF hb _ _ _) hp
    obtain ⟨q, hq⟩ : ∃ q, q = wrS (fun k => pF f 24 8 (digF f 0 24) (0 + k)) (32 * (S % 2)) 32 0 (rtri g) := ⟨_, rfl⟩
    have hw2 : m_RRef_write (s_Rdraft g (256, pF f 24 8 (digF f 0 24))) (nI (S % 2)) 0 = some (q.1, rout (s_Rdraft g (256, pF f 24 8 (digF f 0 24))) q) := by rw [hq]; exact hw
    rw [← hq]
    rw [m_RRef_owner_L93, n8]
    refine Eq.trans (if_pos (nI_le (by omega) (by omega))) ?_
    refine Eq.trans (bs s1) ?_
    simp only [sr_draft, qR_serial]
    rw [hs, hj2]
    refine Eq.trans (bs hw2) ?_
    have ho : g_Rowners (rout (s_Rdraft g (256, pF f 24 8 (digF f 0 24))) q) = (8, ow) := by
      rw [← how]
      unfold rout
      split <;> rfl
    simp only
    by_cases h0 : q.1 = 0
    · rw [if_pos h0, if_pos h0]
    · rw [if_neg h0, if_neg h0, ho]
      refine Eq.trans (if_neg (nI_in (show a < 8 from ha) (by omega))) ?_
      rw [nI_clamp (by omega)]
  | succ d ih =>
    intro fuel f j hb hj hf
    obtain ⟨fu, rfl, hf'⟩ := fu1 hf
    rw [m_RRef_owner_L93]
    refine Eq.trans (if_neg (show ¬ (8 : Int32) ≤ nI j by rw [n8]; exact nI_ge (by omega) (by omega))) ?_
    simp only [qR_draft, qR_owners, sr_draft, how]
    refine Eq.trans (if_neg (nI_in (show j < 8 by omega) (by omega))) ?_
    rw [n8, n2, pk_mul, nI_add, nI_clamp (show j < 2 ^ 31 by omega), nI_1]
    refine Eq.trans (bs (R_put (x := (256, f)) (i := 8 + 2 * j) (K := 2) (by show 256 < 2 ^ 31; omega) (by omega) (by show 8 + 2 * j + 2 ≤ 256; omega) _)) ?_
    exact ih fu (pF f (8 + 2 * j) 2 (ow j).toInt64) (j + 1) (By_pF hb _ _ _) (by omega) (by omega)
-- FINDING: numbers that rise
theorem ush1 {m : Nat} (h : m < 2 ^ 31) : jiushr (nI m) 1 = nI (m / 2) := by
  unfold jiushr
  exact pk_ushrN (by omega) 1 1 (by decide)
theorem pO_L {N P : Nat} {f : Nat → Int32} (hN : N < 2 ^ 30) (hP : P ≤ N) (hs : ∀ i j, i < j → j < P → f i < f j) (v : Int32) : ∀ (d fuel lo hi : Nat), lo ≤ hi → hi ≤ P → hi - lo ≤ d → d < fuel → (∀ i, i < lo → f i < v) → (∀ i, hi ≤ i → i < P → v ≤ f i) → ∃ p, m_Log_placeOf_L10 (N, f) fuel v (nI lo) (nI hi) = some (nI p) ∧ p ≤ P ∧ (∀ i, i < p → f i < v) ∧ (∀ i, p ≤ i → i < P → v ≤ f i) := by
  intro d
  induction d with
  | zero =>
    intro fuel lo hi h1 h2 h3 hf ha hb
    obtain ⟨fu, rfl, -⟩ := fu1 hf
    have : lo = hi := by omega
    subst this
    rw [m_Log_placeOf_L10, if_pos (nI_le (by omega) (by omega))]
    exact ⟨lo, rfl, h2, ha, hb⟩
  | succ d ih =>
    intro fuel lo hi h1 h2 h3 hf ha hb
    obtain ⟨fu, rfl, hf'⟩ := fu1 hf
    rw [m_Log_placeOf_L10]
    by_cases he : lo = hi
    · subst he
      rw [if_pos (nI_le (by omega) (by omega))]
      exact ⟨lo, rfl, h2, ha, hb⟩
    · rw [if_neg (nI_ge (by omega) (by omega)), nI_add, ush1 (by omega), if_neg (nI_in (show (lo + hi) / 2 < N by omega) (by omega)), nI_clamp (by omega)]
      by_cases hv : v ≤ f ((lo + hi) / 2)
      · rw [if_pos hv]
        refine ih fu lo ((lo + hi) / 2) (by omega) (by omega) (by omega) (by omega) ha (fun i hi1 hi2 => ?_)
        by_cases hq : i = (lo + hi) / 2
        · subst hq; exact hv
        · exact Int32.le_trans hv (Int32.le_of_lt (hs _ _ (by omega) hi2))
      · rw [if_neg hv, nI_1]
        refine ih fu ((lo + hi) / 2 + 1) hi (by omega) h2 (by omega) (by omega) (fun i hi1 => ?_) hb
        by_cases hq : i = (lo + hi) / 2
        · subst hq; exact Int32.not_le.mp hv
        · exact Int32.lt_trans (hs i _ (by omega) (by omega)) (Int32.not_le.mp hv)
/-- where a number stands, or would stand -/
theorem C_placeOf {N P : Nat} {f : Nat → Int32} (hN : N < 1048576) (hP : P ≤ N) (hs : ∀ i j, i < j → j < P → f i < f j) (v : Int32) : ∃ p, m_Log_placeOf (N, f) (nI P) v = some (nI p) ∧ p ≤ P ∧ (∀ i, i < p → f i < v) ∧ (∀ i, p ≤ i → i < P → v ≤ f i) := by
  unfold m_Log_placeOf
  have hj : jmin (nI P) (nI (N, f).1) = nI P := by
    unfold jmin
    rw [if_neg (nI_nlt hP (by show N < 2 ^ 31; omega))]
  rw [hj, n0]
  exact pO_L (by omega) hP hs v P FU 0 P (by omega) (by omega) (by omega) (FU_lt (by omega)) (fun i hi => absurd hi (by omega)) (fun i h1 h2 => absurd h2 (by omega))
-- THE CLASS'S TABLE OF PARTS
abbrev PQ : Type := Int32 × Int32 × Int32 × Int32 × Int64
/-- number, group, length, row, position -/
def crow (x : St_Parts) (k : Nat) : PQ := (x.1.2 k, x.2.1.2 k, x.2.2.1.2 k, x.2.2.2.1.2 k, x.2.2.2.2.1.2 k)
/-- P PARTS by rising numbers, in a room of N -/
def PS (N : Nat) (x : St_Parts) (P : Nat) : Prop := (x.1.1 = N ∧ x.2.1.1 = N ∧ x.2.2.1.1 = N ∧ x.2.2.2.1.1 = N ∧ x.2.2.2.2.1.1 = N) ∧ x.2.2.2.2.2 = nI P ∧ P ≤ N ∧ N ≤ 512 ∧ ∀ i j, i < j → j < P → x.1.2 i < x.1.2 j
/-- the same without an order -/
def PL (N : Nat) (x : St_Parts) (P : Nat) : Prop := (x.1.1 = N ∧ x.2.1.1 = N ∧ x.2.2.1.1 = N ∧ x.2.2.2.1.1 = N ∧ x.2.2.2.2.1.1 = N) ∧ x.2.2.2.2.2 = nI P ∧ P ≤ N ∧ N ≤ 512
theorem PS.l {N P : Nat} {x : St_Parts} (h : PS N x P) : PL N x P := ⟨h.1, h.2.1, h.2.2.1, h.2.2.2.1⟩
theorem P_has1 {N P : Nat} {x : St_Parts} (h : PL N x P) {k : Nat} (hk : k < P) : m_Parts_has x (nI k) = some 1 := by
  obtain ⟨⟨h1, -⟩, h2, h3, h4⟩ := h
  unfold m_Parts_has
  rw [h1, h2, if_neg (nI_pos (by omega)), if_neg (nI_ge hk (by omega)), if_neg (nI_ge (by omega) (by omega))]
theorem P_has0 {N P : Nat} {x : St_Parts} (h : PL N x P) {v : Int32} (hv : v < 0 ∨ nI P ≤ v) : m_Parts_has x v = some 0 := by
  obtain ⟨⟨h1, -⟩, h2, h3, h4⟩ := h
  unfold m_Parts_has
  rw [h1, h2]
  rcases hv with hv | hv
  · rw [if_pos hv]
  · by_cases h0 : v < 0
    · rw [if_pos h0]
    · rw [if_neg h0, if_pos hv]
theorem P_in {N P k : Nat} (hP : P ≤ N) (hN : N ≤ 512) (hk : k < P) {M : Nat} (hM : M = N) : ¬ (nI k < 0 ∨ M ≤ (nI k).toNatClampNeg) := by
  rw [hM]; exact nI_in (by omega) (by omega)
theorem P_numberAt {N P : Nat} {x : St_Parts} (h : PL N x P) {k : Nat} (hk : k < P) : m_Parts_numberAt x (nI k) = some (x.1.2 k) := by
  unfold m_Parts_numberAt
  rw [bs (P_has1 h hk), if_neg e10, if_neg (P_in h.2.2.1 h.2.2.2 hk h.1.1), nI_clamp (by have := h.2.2; omega)]
theorem P_groupAt {N P : Nat} {x : St_Parts} (h : PL N x P) {k : Nat} (hk : k < P) : m_Parts_groupAt x (nI k) = some (x.2.1.2 k) := by
  unfold m_Parts_groupAt
  rw [bs (P_has1 h hk), if_neg e10, if_neg (P_in h.2.2.1 h.2.2.2 hk h.1.2.1), nI_clamp (by have := h.2.2; omega)]
theorem P_lengthAt {N P : Nat} {x : St_Parts} (h : PL N x P) {k : Nat} (hk : k < P) : m_Parts_lengthAt x (nI k) = some (x.2.2.1.2 k) := by
  unfold m_Parts_lengthAt
  rw [bs (P_has1 h hk), if_neg e10, if_neg (P_in h.2.2.1 h.2.2.2 hk h.1.2.2.1), nI_clamp (by have := h.2.2; omega)]
theorem P_rowAt {N P : Nat} {x : St_Parts} (h : PL N x P) {k : Nat} (hk : k < P) : m_Parts_rowAt x (nI k) = some (x.2.2.2.1.2 k) := by
  unfold m_Parts_rowAt
  rw [bs (P_has1 h hk), if_neg e10, if_neg (P_in h.2.2.1 h.2.2.2 hk h.1.2.2.2.1), nI_clamp (by have := h.2.2; omega)]
theorem P_positionAt {N P : Nat} {x : St_Parts} (h : PL N x P) {k : Nat} (hk : k < P) : m_Parts_positionAt x (nI k) = some (x.2.2.2.2.1.2 k) := by
  unfold m_Parts_positionAt
  rw [bs (P_has1 h hk), if_neg e10, if_neg (P_in h.2.2.1 h.2.2.2 hk h.1.2.2.2.2), nI_clamp (by have := h.2.2; omega)]
theorem P_numberAt0 {N P : Nat} {x : St_Parts} (h : PL N x P) {v : Int32} (hv : v < 0 ∨ nI P ≤ v) : m_Parts_numberAt x v = some (-1) := by
  unfold m_Parts_numberAt
  rw [bs (P_has0 h hv), if_pos rfl]
theorem P_rowAt0 {N P : Nat} {x : St_Parts} (h : PL N x P) {v : Int32} (hv : v < 0 ∨ nI P ≤ v) : m_Parts_rowAt x v = some (-1) := by
  unfold m_Parts_rowAt
  rw [bs (P_has0 h hv), if_pos rfl]
theorem P_find {N P : Nat} {x : St_Parts} (h : PS N x P) (v : Int32) : (m_Parts_find x v = some (-1) ∧ ∀ k, k < P → x.1.2 k ≠ v) ∨ ∃ k, k < P ∧ m_Parts_find x v = some (nI k) ∧ x.1.2 k = v := by
  obtain ⟨hl, h2, h3, h4, hs⟩ := id h
  have hx : x.1 = (N, x.1.2) := Prod.ext hl.1 rfl
  obtain ⟨p, e1, e2, e3, e4⟩ := C_placeOf (N := N) (P := P) (f := x.1.2) (by omega) h3 hs v
  have e1' : m_Log_placeOf x.1 x.2.2.2.2.2 v = some (nI p) := by rw [hx, h2]; exact e1
  unfold m_Parts_find
  rw [bs e1']
  by_cases hp : p < P
  · rw [bs (P_numberAt h.l hp), h2]
    by_cases hv : x.1.2 p = v
    · right
      refine ⟨p, hp, ?_, hv⟩
      rw [if_pos hv, if_neg (nI_ge hp (by omega))]
    · left
      rw [if_neg hv]
      refine ⟨rfl, fun k hk he => ?_⟩
      by_cases hkp : k < p
      · have := e3 k hkp
        rw [he] at this
        exact Int32.lt_irrefl this
      · by_cases hke : k = p
        · subst hke; exact hv he
        · have h5 := hs p k (by omega) hk
          have h6 := e4 p (by omega) hp
          rw [he] at h5
          exact Int32.lt_irrefl (Int32.lt_of_lt_of_le h5 h6)
  · left
    have hpe : p = P := by omega
    subst hpe
    rw [bs (P_numberAt0 h.l (Or.inr (nI_le (Nat.le_refl _) (by omega)))), h2]
    refine ⟨?_, fun k hk he => ?_⟩
    · split
      · rw [if_pos (nI_le (Nat.le_refl _) (by omega))]
      · rfl
    · have := e3 k hk
      rw [he] at this
      exact Int32.lt_irrefl this
/-- row q stands at b -/
def upR (x : St_Parts) (b : Nat) (q : PQ) : St_Parts := ((x.1.1, upd x.1.2 b q.1), (x.2.1.1, upd x.2.1.2 b q.2.1), (x.2.2.1.1, upd x.2.2.1.2 b q.2.2.1), (x.2.2.2.1.1, upd x.2.2.2.1.2 b q.2.2.2.1), (x.2.2.2.2.1.1, vp_updL x.2.2.2.2.1.2 b q.2.2.2.2), x.2.2.2.2.2)
theorem crow_upR (x : St_Parts) (b : Nat) (q : PQ) (k : Nat) : crow (upR x b q) k = if k = b then q else crow x k := by
  unfold crow upR upd vp_updL
  by_cases h : k = b
  · simp only [if_pos h]
  · simp only [if_neg h]
theorem PL_upR {N P : Nat} {x : St_Parts} (h : PL N x P) (b : Nat) (q : PQ) : PL N (upR x b q) P := h
theorem P_move {N P : Nat} {x : St_Parts} (h : PL N x P) {a b : Nat} (ha : a < P) (hb : b < P) : m_Parts_move x (nI a) (nI b) = some (upR x b (crow x a)) := by
  have i1 : ∀ M, M = N → ¬ (nI a < 0 ∨ M ≤ (nI a).toNatClampNeg) := fun M hM => P_in h.2.2.1 h.2.2.2 ha hM
  have i2 : ∀ M, M = N → ¬ (nI b < 0 ∨ M ≤ (nI b).toNatClampNeg) := fun M hM => P_in h.2.2.1 h.2.2.2 hb hM
  unfold m_Parts_move
  refine Eq.trans (bs (P_has1 h ha)) ?_
  refine Eq.trans (if_neg e10) ?_
  refine Eq.trans (bs (P_has1 h hb)) ?_
  refine Eq.trans (if_neg e10) ?_
  obtain ⟨⟨l1, l2, l3, l4, l5⟩, -, h3, h4⟩ := h
  refine Eq.trans (if_neg (i1 _ l1)) ?_
  refine Eq.trans (if_neg (i2 _ l1)) ?_
  refine Eq.trans (if_neg (i1 _ l2)) ?_
  refine Eq.trans (if_neg (i2 _ l2)) ?_
  refine Eq.trans (if_neg (i1 _ l3)) ?_
  refine Eq.trans (if_neg (i2 _ l3)) ?_
  refine Eq.trans (if_neg (i1 _ l4)) ?_
  refine Eq.trans (if_neg (i2 _ l4)) ?_
  refine Eq.trans (if_neg (i1 _ l5)) ?_
  refine Eq.trans (if_neg (i2 _ l5)) ?_
  rw [nI_clamp (show a < 2 ^ 31 by omega), nI_clamp (show b < 2 ^ 31 by omega)]
  rfl
theorem P_add_L {N P : Nat} {x0 : St_Parts} {p : Nat} (hp : p < P) (q : PQ) : ∀ (d fuel : Nat) (x : St_Parts) (i : Nat), PL N x P → p + d = i → i < P → (∀ k, k ≤ i → crow x k = crow x0 k) → (∀ k, i < k → k < P → crow x k = crow x0 (k - 1)) → d < fuel → ∃ x', m_Parts_add_L45 fuel x q.1 q.2.1 q.2.2.1 q.2.2.2.1 q.2.2.2.2 (nI p) (nI i) = some x' ∧ PL N x' P ∧ ∀ k, k < P → crow x' k = if k < p then crow x0 k else if k = p then q else crow x0 (k - 1) := by
  intro d
  induction d with
  | zero =>
    intro fuel x i h hi hiP ha hb hf
    obtain ⟨fu, rfl, -⟩ := fu1 hf
    have hie : i = p := by omega
    subst hie
    refine ⟨upR x i q, ?_, PL_upR h _ _, fun k hk => ?_⟩
    · have i1 : ∀ M, M = N → ¬ (nI i < 0 ∨ M ≤ (nI i).toNatClampNeg) := fun M hM => P_in h.2.2.1 h.2.2.2 hp hM
      rw [m_Parts_add_L45]
      refine Eq.trans (if_pos (Int32.le_refl _)) ?_
      refine Eq.trans (bs (P_has1 h hp)) ?_
      refine Eq.trans (if_neg e10) ?_
      obtain ⟨⟨l1, l2, l3, l4, l5⟩, -, h3, h4⟩ := h
      refine Eq.trans (if_neg (i1 _ l1)) ?_
      refine Eq.trans (if_neg (i1 _ l2)) ?_
      refine Eq.trans (if_neg (i1 _ l3)) ?_
      refine Eq.trans (if_neg (i1 _ l4)) ?_
      refine Eq.trans (if_neg (i1 _ l5)) ?_
      rw [nI_clamp (show i < 2 ^ 31 by omega)]
      rfl
    · rw [crow_upR]
      by_cases h1 : k < i
      · rw [if_neg (by omega), if_pos h1]; exact ha k (by omega)
      · rw [if_neg h1]
        by_cases h2 : k = i
        · rw [if_pos h2, if_pos h2]
        · rw [if_neg h2, if_neg h2]; exact hb k (by omega) hk
  | succ d ih =>
    intro fuel x i h hi hiP ha hb hf
    obtain ⟨fu, rfl, hf'⟩ := fu1 hf
    have h512 := h.2.2
    rw [m_Parts_add_L45]
    rw [if_neg (nI_ge (show p < i by omega) (by omega)), n1, pk_sub (show 1 ≤ i by omega), bs (P_move h (a := i - 1) (b := i) (by omega) hiP), show nI i + (-nI 1) = nI (i - 1) by rw [← n1]; exact sb_m1 (by omega)]
    refine ih fu (upR x i (crow x (i - 1))) (i - 1) (PL_upR h _ _) (by omega) (by omega) (fun k hk => ?_) (fun k hk hkP => ?_) (by omega)
    · rw [crow_upR, if_neg (by omega)]; exact ha k (by omega)
    · rw [crow_upR]
      by_cases h2 : k = i
      · rw [if_pos h2, ha (i - 1) (by omega), h2]
      · rw [if_neg h2]; exact hb k (by omega) hkP
/-- one more, at its place -/
theorem P_add {N P : Nat} {x : St_Parts} (h : PS N x P) (hP : P < N) (q : PQ) (hq : ∀ k, k < P → x.1.2 k ≠ q.1) : ∃ x' p, m_Parts_add x q.1 q.2.1 q.2.2.1 q.2.2.2.1 q.2.2.2.2 = some x' ∧ PS N x' (P + 1) ∧ p ≤ P ∧ ∀ k, k ≤ P → crow x' k = if k < p then crow x k else if k = p then q else crow x (k - 1) := by
  obtain ⟨hl, h2, h3, h4, hs⟩ := id h
  have hx : x.1 = (N, x.1.2) := Prod.ext hl.1 rfl
  obtain ⟨p, e1, e2, e3, e4⟩ := C_placeOf (N := N) (P := P) (f := x.1.2) (by omega) h3 hs q.1
  have e1' : m_Log_placeOf x.1 x.2.2.2.2.2 q.1 = some (nI p) := by rw [hx, h2]; exact e1
  obtain ⟨x1, hx1⟩ : ∃ x1 : St_Parts, x1 = (x.1, x.2.1, x.2.2.1, x.2.2.2.1, x.2.2.2.2.1, nI (P + 1)) := ⟨_, rfl⟩
  have hL1 : PL N x1 (P + 1) := by rw [hx1]; exact ⟨hl, rfl, by omega, h4⟩
  have hc1 : ∀ k, crow x1 k = crow x k := by intro k; rw [hx1]; rfl
  obtain ⟨x', a1, a2, a3⟩ := P_add_L (N := N) (P := P + 1) (x0 := x1) (p := p) (by omega) q (P - p) FU x1 P hL1 (by omega) (by omega) (fun k _ => rfl) (fun k hk1 hk2 => absurd hk2 (by omega)) (FU_lt (by omega))
  refine ⟨x', p, ?_, ?_, e2, fun k hk => ?_⟩
  · unfold m_Parts_add
    refine Eq.trans (if_pos (show x.2.2.2.2.2 < nI x.1.1 by rw [h2, hl.1]; exact nI_lt hP (by omega))) ?_
    refine Eq.trans (bs e1') ?_
    rw [h2, nI_1, n1, pk_sub (by omega), ← hx1]
    exact a1
  · refine ⟨a2.1, a2.2.1, a2.2.2.1, a2.2.2.2, fun i j hij hj => ?_⟩
    have ci := congrArg (fun r : PQ => r.1) (a3 i (by omega))
    have cj := congrArg (fun r : PQ => r.1) (a3 j (by omega))
    simp only [hc1] at ci cj
    show (crow x' i).1 < (crow x' j).1
    rw [show (crow x' i).1 = _ from ci, show (crow x' j).1 = _ from cj]
    by_cases i1 : i < p
    · rw [if_pos i1]
      by_cases j1 : j < p
      · rw [if_pos j1]; exact hs i j hij (by omega)
      · rw [if_neg j1]
        by_cases j2 : j = p
        · rw [if_pos j2]; exact e3 i i1
        · rw [if_neg j2]; exact hs i (j - 1) (by omega) (by omega)
    · rw [if_neg i1, if_neg (show ¬ j < p by omega), if_neg (show ¬ j = p by omega)]
      by_cases i2 : i = p
      · rw [if_pos i2]
        have h5 := e4 (j - 1) (by omega) (by omega)
        have h6 := hq (j - 1) (by omega)
        exact Int32.lt_of_le_of_ne h5 (fun e => h6 e.symm)
      · rw [if_neg i2]; exact hs (i - 1) (j - 1) (by omega) (by omega)
  · have := a3 k (by omega)
    simp only [hc1] at this
    exact this
-- THE REFERENCE'S TABLE OF PARTS
def rrow (g : St_Ref) (k : Nat) : PQ := ((g_RpNumber g).2 k, (g_RpGroup g).2 k, (g_RpLength g).2 k, (g_RpRow g).2 k, (g_RpPosition g).2 k)
def RP (g : St_Ref) (P : Nat) : Prop := ((g_RpNumber g).1 = 520 ∧ (g_RpGroup g).1 = 520 ∧ (g_RpPosition g).1 = 520 ∧ (g_RpLength g).1 = 520 ∧ (g_RpRow g).1 = 520) ∧ g_Rparts g = nI P ∧ P ≤ 520
theorem R_fP_L {g : St_Ref} {P : Nat} (h : RP g P) (v : Int32) : ∀ (d fuel j : Nat), j + d = P → d < fuel → (m_RRef_findPart_L2 g fuel v (nI j) = some (-1) ∧ ∀ k, j ≤ k → k < P → (rrow g k).1 ≠ v) ∨ ∃ k, j ≤ k ∧ k < P ∧ m_RRef_findPart_L2 g fuel v (nI j) = some (nI k) ∧ (rrow g k).1 = v := by
  obtain ⟨⟨l1, -⟩, hp, hP⟩ := h
  intro d
  induction d with
  | zero =>
    intro fuel j hj hf
    obtain ⟨fu, rfl, -⟩ := fu1 hf
    left
    rw [m_RRef_findPart_L2, hp, if_pos (nI_le (by omega) (by omega))]
    exact ⟨rfl, fun k h1 h2 => absurd h2 (by omega)⟩
  | succ d ih =>
    intro fuel j hj hf
    obtain ⟨fu, rfl, hf'⟩ := fu1 hf
    rw [m_RRef_findPart_L2, hp, if_neg (nI_ge (by omega) (by omega)), l1, if_neg (nI_in (by omega) (by omega)), nI_clamp (by omega), nI_1]
    by_cases hv : (g_RpNumber g).2 j = v
    · right
      exact ⟨j, by omega, by omega, if_pos hv, hv⟩
    · rw [if_neg hv]
      rcases ih fu (j + 1) (by omega) (by omega) with ⟨e1, e2⟩ | ⟨k, e1, e2, e3, e4⟩
      · left
        refine ⟨e1, fun k h1 h2 => ?_⟩
        by_cases hk : k = j
        · subst hk; exact hv
        · exact e2 k (by omega) h2
      · right
        exact ⟨k, by omega, e2, e3, e4⟩
theorem R_findPart {g : St_Ref} {P : Nat} (h : RP g P) (v : Int32) : (m_RRef_findPart g v = some (-1) ∧ ∀ k, k < P → (rrow g k).1 ≠ v) ∨ ∃ k, k < P ∧ m_RRef_findPart g v = some (nI k) ∧ (rrow g k).1 = v := by
  have hP := h.2.2
  unfold m_RRef_findPart
  rw [n0]
  rcases R_fP_L h v P FU 0 (by omega) (FU_lt (by omega)) with ⟨e1, e2⟩ | ⟨k, e1, e2, e3, e4⟩
  · exact Or.inl ⟨e1, fun k hk => e2 k (by omega) hk⟩
  · exact Or.inr ⟨k, e2, e3, e4⟩
theorem rrow_push {G : St_Ref} {P : Nat} (h : RP G P) (grp : Int32) (pos : Int64) (len row : Int32) (k : Nat) : rrow (rpush G grp pos len row) k = if k = P then (g_RlastPart G + 1, grp, len, row, pos) else rrow G k := by
  have hc : (g_Rparts G).toNatClampNeg = P := by rw [h.2.1]; exact nI_clamp (by have := h.2.2; omega)
  unfold rrow rpush
  simp only [qR_pNumber, qR_pGroup, qR_pLength, qR_pRow, qR_pPosition, hc]
  unfold upd vp_updL
  by_cases hk : k = P
  · simp only [if_pos hk]
  · simp only [if_neg hk]
theorem RP_push {G : St_Ref} {P : Nat} (h : RP G P) (hP : P < 520) (grp : Int32) (pos : Int64) (len row : Int32) : RP (rpush G grp pos len row) (P + 1) := by
  obtain ⟨hl, hp, -⟩ := h
  refine ⟨?_, ?_, by omega⟩
  · unfold rpush
    simp only [qR_pNumber, qR_pGroup, qR_pLength, qR_pRow, qR_pPosition]
    exact hl
  · unfold rpush
    simp only [qR_parts]
    rw [hp, nI_1]
/-- row a goes, the last one takes its place -/
def rforg (g : St_Ref) (a b : Nat) : St_Ref := s_RpRow (s_RpLength (s_RpPosition (s_RpGroup (s_RpNumber (s_Rparts g (nI b)) ((g_RpNumber g).1, upd (g_RpNumber g).2 a ((g_RpNumber g).2 b))) ((g_RpGroup g).1, upd (g_RpGroup g).2 a ((g_RpGroup g).2 b))) ((g_RpPosition g).1, vp_updL (g_RpPosition g).2 a ((g_RpPosition g).2 b))) ((g_RpLength g).1, upd (g_RpLength g).2 a ((g_RpLength g).2 b))) ((g_RpRow g).1, upd (g_RpRow g).2 a ((g_RpRow g).2 b))
theorem R_forgetPart {g : St_Ref} {P : Nat} (h : RP g P) {a : Nat} (ha : a < P) : m_RRef_forgetPart g (nI a) = some (rforg g a (P - 1)) := by
  obtain ⟨⟨l1, l2, l3, l4, l5⟩, hp, hP⟩ := h
  have hs : g_Rparts g - 1 = nI (P - 1) := by rw [hp, n1, pk_sub (by omega)]
  have i1 : ∀ M, M = 520 → ¬ (nI (P - 1) < 0 ∨ M ≤ (nI (P - 1)).toNatClampNeg) := fun M hM => by rw [hM]; exact nI_in (by omega) (by omega)
  have i2 : ∀ M, M = 520 → ¬ (nI a < 0 ∨ M ≤ (nI a).toNatClampNeg) := fun M hM => by rw [hM]; exact nI_in (by omega) (by omega)
  unfold m_RRef_forgetPart
  rw [hs]
  refine Eq.trans (if_neg (i1 _ l1)) ?_
  refine Eq.trans (if_neg (i2 _ l1)) ?_
  refine Eq.trans (if_neg (i1 _ l2)) ?_
  refine Eq.trans (if_neg (i2 _ l2)) ?_
  refine Eq.trans (if_neg (i1 _ l3)) ?_
  refine Eq.trans (if_neg (i2 _ l3)) ?_
  refine Eq.trans (if_neg (i1 _ l4)) ?_
  refine Eq.trans (if_neg (i2 _ l4)) ?_
  refine Eq.trans (if_neg (i1 _ l5)) ?_
  refine Eq.trans (if_neg (i2 _ l5)) ?_
  rw [nI_clamp (show a < 2 ^ 31 by omega), nI_clamp (show P - 1 < 2 ^ 31 by omega)]
  rfl
theorem rrow_forg (g : St_Ref) (a b k : Nat) : rrow (rforg g a b) k = if k = a then rrow g b else rrow g k := by
  unfold rrow rforg
  simp only [qR_pNumber, qR_pGroup, qR_pLength, qR_pRow, qR_pPosition]
  unfold upd vp_updL
  by_cases hk : k = a
  · simp only [if_pos hk]
  · simp only [if_neg hk]
theorem RP_forg {g : St_Ref} {P : Nat} (h : RP g P) (a : Nat) : RP (rforg g a (P - 1)) (P - 1) := by
  obtain ⟨hl, hp, hP⟩ := h
  refine ⟨?_, ?_, by omega⟩
  · unfold rforg
    simp only [qR_pNumber, qR_pGroup, qR_pLength, qR_pRow, qR_pPosition]
    exact hl
  · unfold rforg
    simp only [qR_parts]
-- THE SAME PARTS ON BOTH SIDES: T is the set of their rows
def TC (N : Nat) (x : St_Parts) (P : Nat) (T : PQ → Prop) : Prop := PS N x P ∧ ∀ q, T q ↔ ∃ k, k < P ∧ crow x k = q
def TR (g : St_Ref) (P : Nat) (T : PQ → Prop) : Prop := RP g P ∧ (∀ q, T q ↔ ∃ k, k < P ∧ rrow g k = q) ∧ ∀ i j, i < P → j < P → (rrow g i).1 = (rrow g j).1 → i = j
theorem TC_inj {N P : Nat} {x : St_Parts} {T : PQ → Prop} (h : TC N x P T) {i j : Nat} (hi : i < P) (hj : j < P) (e : (crow x i).1 = (crow x j).1) : i = j := by
  have hs := h.1.2.2.2.2
  rcases Nat.lt_trichotomy i j with h1 | h1 | h1
  · have h2 : (crow x i).1 < (crow x j).1 := hs i j h1 hj
    rw [e] at h2
    exact absurd h2 Int32.lt_irrefl
  · exact h1
  · have h2 : (crow x j).1 < (crow x i).1 := hs j i h1 hi
    rw [e] at h2
    exact absurd h2 Int32.lt_irrefl
/-- a number names one row of the set at most -/
theorem TC_un {N P : Nat} {x : St_Parts} {T : PQ → Prop} (h : TC N x P T) {p q : PQ} (hp : T p) (hq : T q) (e : p.1 = q.1) : p = q := by
  obtain ⟨i, hi, rfl⟩ := (h.2 p).mp hp
  obtain ⟨j, hj, rfl⟩ := (h.2 q).mp hq
  rw [TC_inj h hi hj e]
/-- looking a number up, on both sides -/
theorem T_find {N P P' : Nat} {x : St_Parts} {g : St_Ref} {T : PQ → Prop} (hc : TC N x P T) (hr : TR g P' T) (v : Int32) : (m_Parts_find x v = some (-1) ∧ m_RRef_findPart g v = some (-1) ∧ ∀ q, T q → q.1 ≠ v) ∨ ∃ i j q, i < P ∧ j < P' ∧ T q ∧ q.1 = v ∧ crow x i = q ∧ rrow g j = q ∧ m_Parts_find x v = some (nI i) ∧ m_RRef_findPart g v = some (nI j) := by
  rcases P_find hc.1 v with ⟨e1, e2⟩ | ⟨i, hi, e1, e2⟩
  · left
    have hn : ∀ q, T q → q.1 ≠ v := by
      intro q hq
      obtain ⟨k, hk, rfl⟩ := (hc.2 q).mp hq
      exact e2 k hk
    rcases R_findPart hr.1 v with ⟨f1, f2⟩ | ⟨j, hj, f1, f2⟩
    · exact ⟨e1, f1, hn⟩
    · exact absurd f2 (hn _ ((hr.2.1 _).mpr ⟨j, hj, rfl⟩))
  · right
    have hT : T (crow x i) := (hc.2 _).mpr ⟨i, hi, rfl⟩
    rcases R_findPart hr.1 v with ⟨f1, f2⟩ | ⟨j, hj, f1, f2⟩
    · obtain ⟨k, hk, hke⟩ := (hr.2.1 _).mp hT
      exact absurd (show (rrow g k).1 = v by rw [hke]; exact e2) (f2 k hk)
    · have hT2 : T (rrow g j) := (hr.2.1 _).mpr ⟨j, hj, rfl⟩
      have he : crow x i = rrow g j := TC_un hc hT hT2 (by rw [f2]; exact e2)
      exact ⟨i, j, crow x i, hi, hj, hT, e2, rfl, he.symm, e1, f1⟩
theorem TC_add {N P : Nat} {x : St_Parts} {T : PQ → Prop} (h : TC N x P T) (hP : P < N) (q : PQ) (hq : ∀ p, T p → p.1 ≠ q.1) : ∃ x', m_Parts_add x q.1 q.2.1 q.2.2.1 q.2.2.2.1 q.2.2.2.2 = some x' ∧ TC N x' (P + 1) (fun p => T p ∨ p = q) := by
  obtain ⟨x', p, a1, a2, a3, a4⟩ := P_add h.1 hP q (fun k hk => hq (crow x k) ((h.2 _).mpr ⟨k, hk, rfl⟩))
  refine ⟨x', a1, a2, fun r => ⟨?_, ?_⟩⟩
  · rintro (hr | rfl)
    · obtain ⟨k, hk, rfl⟩ := (h.2 r).mp hr
      by_cases h1 : k < p
      · exact ⟨k, by omega, by rw [a4 k (by omega), if_pos h1]⟩
      · exact ⟨k + 1, by omega, by rw [a4 (k + 1) (by omega), if_neg (by omega), if_neg (by omega), Nat.add_sub_cancel]⟩
    · exact ⟨p, by omega, by rw [a4 p a3, if_neg (by omega), if_pos rfl]⟩
  · rintro ⟨k, hk, rfl⟩
    rw [a4 k (by omega)]
    by_cases h1 : k < p
    · rw [if_pos h1]; exact Or.inl ((h.2 _).mpr ⟨k, by omega, rfl⟩)
    · rw [if_neg h1]
      by_cases h2 : k = p
      · rw [if_pos h2]; exact Or.inr rfl
      · rw [if_neg h2]; exact Or.inl ((h.2 _).mpr ⟨k - 1, by omega, rfl⟩)
theorem TR_push {G : St_Ref} {P : Nat} {T : PQ → Prop} (h : TR G P T) (hP : P < 520) (grp : Int32) (pos : Int64) (len row : Int32) (hq : ∀ p, T p → p.1 ≠ g_RlastPart G + 1) : TR (rpush G grp pos len row) (P + 1) (fun p => T p ∨ p = (g_RlastPart G + 1, grp, len, row, pos)) := by
  obtain ⟨h1, h2, h3⟩ := h
  refine ⟨RP_push h1 hP grp pos len row, fun r => ⟨?_, ?_⟩, fun i j hi hj e => ?_⟩
  · rintro (hr | rfl)
    · obtain ⟨k, hk, rfl⟩ := (h2 r).mp hr
      exact ⟨k, by omega, by rw [rrow_push h1, if_neg (by omega)]⟩
    · exact ⟨P, by omega, by rw [rrow_push h1, if_pos rfl]⟩
  · rintro ⟨k, hk, rfl⟩
    rw [rrow_push h1]
    by_cases hk2 : k = P
    · rw [if_pos hk2]; exact Or.inr rfl
    · rw [if_neg hk2]; exact Or.inl ((h2 _).mpr ⟨k, by omega, rfl⟩)
  · rw [rrow_push h1, rrow_push h1] at e
    by_cases i1 : i = P
    · by_cases j1 : j = P
      · omega
      · rw [if_pos i1, if_neg j1] at e
        exact absurd e.symm (hq _ ((h2 _).mpr ⟨j, by omega, rfl⟩))
    · by_cases j1 : j = P
      · rw [if_neg i1, if_pos j1] at e
        exact absurd e (hq _ ((h2 _).mpr ⟨i, by omega, rfl⟩))
      · rw [if_neg i1, if_neg j1] at e
        exact h3 i j (by omega) (by omega) e
theorem TR_forg {g : St_Ref} {P : Nat} {T : PQ → Prop} (h : TR g P T) {a : Nat} (ha : a < P) : TR (rforg g a (P - 1)) (P - 1) (fun p => T p ∧ p.1 ≠ (rrow g a).1) := by
  obtain ⟨h1, h2, h3⟩ := h
  refine ⟨RP_forg h1 a, fun r => ⟨?_, ?_⟩, fun i j hi hj e => ?_⟩
  · rintro ⟨hr, hn⟩
    obtain ⟨k, hk, rfl⟩ := (h2 r).mp hr
    have hka : k ≠ a := fun e => hn (by rw [e])
    by_cases hk2 : k = P - 1
    · exact ⟨a, by omega, by rw [rrow_forg, if_pos rfl, hk2]⟩
    · exact ⟨k, by omega, by rw [rrow_forg, if_neg hka]⟩
  · rintro ⟨k, hk, rfl⟩
    rw [rrow_forg]
    by_cases hk2 : k = a
    · rw [if_pos hk2]
      refine ⟨(h2 _).mpr ⟨P - 1, by omega, rfl⟩, fun e => ?_⟩
      have := h3 _ _ (by omega) ha e
      omega
    · rw [if_neg hk2]
      refine ⟨(h2 _).mpr ⟨k, by omega, rfl⟩, fun e => ?_⟩
      exact hk2 (h3 _ _ (by omega) ha e)
  · rw [rrow_forg, rrow_forg] at e
    by_cases i1 : i = a
    · by_cases j1 : j = a
      · omega
      · rw [if_pos i1, if_neg j1] at e
        have := h3 _ _ (by omega) (by omega) e
        omega
    · by_cases j1 : j = a
      · rw [if_neg i1, if_pos j1] at e
        have := h3 _ _ (by omega) (by omega) e
        omega
      · rw [if_neg i1, if_neg j1] at e
        exact h3 i j (by omega) (by omega) e
-- THE CLASS'S TABLES OF MARKS
abbrev MKQ : Type := Int32 × Int32 × Int32 × Int64 × List Int32
def mls (c : Int32) (pn : Nat → Int32) (k : Nat) : List Int32 := (List.range c.toNatClampNeg).map (fun i => pn (12 * k + i))
/-- number, how many PARTS, row, digest, the numbers of the PARTS -/
def mrow (x : St_Marks) (k : Nat) : MKQ := (x.1.2 k, x.2.1.2 k, x.2.2.1.2 k, x.2.2.2.2.1.2 k, mls (x.2.1.2 k) x.2.2.2.1.2 k)
/-- room for N MARKS, P are there, each with at most 12 PARTS -/
def ML (N : Nat) (x : St_Marks) (P : Nat) : Prop := (x.1.1 = N ∧ x.2.1.1 = N ∧ x.2.2.1.1 = N ∧ x.2.2.2.1.1 = N * 12 ∧ x.2.2.2.2.1.1 = N) ∧ x.2.2.2.2.2 = nI P ∧ P ≤ N ∧ N ≤ 256 ∧ ∀ k, k < N → ∃ c : Nat, c ≤ 12 ∧ x.2.1.2 k = nI c
def MS (N : Nat) (x : St_Marks) (P : Nat) : Prop := ML N x P ∧ ∀ i j, i < j → j < P → x.1.2 i < x.1.2 j
theorem M_has1 {N P : Nat} {x : St_Marks} (h : ML N x P) {k : Nat} (hk : k < P) : m_Marks_has x (nI k) = some 1 := by
  obtain ⟨⟨h1, -⟩, h2, h3, h4, -⟩ := h
  unfold m_Marks_has
  rw [h1, h2, if_neg (nI_pos (by omega)), if_neg (nI_ge hk (by omega)), if_neg (nI_ge (by omega) (by omega))]
theorem M_has0 {N P : Nat} {x : St_Marks} (h : ML N x P) {v : Int32} (hv : v < 0 ∨ nI P ≤ v) : m_Marks_has x v = some 0 := by
  obtain ⟨⟨h1, -⟩, h2, h3, h4, -⟩ := h
  unfold m_Marks_has
  rw [h1, h2]
  rcases hv with hv | hv
  · rw [if_pos hv]
  · by_cases h0 : v < 0
    · rw [if_pos h0]
    · rw [if_neg h0, if_pos hv]
theorem M_in {N P k : Nat} (hP : P ≤ N) (hN : N ≤ 256) (hk : k < P) {M : Nat} (hM : M = N) : ¬ (nI k < 0 ∨ M ≤ (nI k).toNatClampNeg) := by
  rw [hM]; exact nI_in (by omega) (by omega)
theorem M_numberAt {N P : Nat} {x : St_Marks} (h : ML N x P) {k : Nat} (hk : k < P) : m_Marks_numberAt x (nI k) = some (x.1.2 k) := by
  unfold m_Marks_numberAt
  rw [bs (M_has1 h hk), if_neg e10, if_neg (M_in h.2.2.1 h.2.2.2.1 hk h.1.1), nI_clamp (by have := h.2.2.1; have := h.2.2.2.1; omega)]
theorem M_countAt {N P : Nat} {x : St_Marks} (h : ML N x P) {k : Nat} (hk : k < P) : m_Marks_countAt x (nI k) = some (x.2.1.2 k) := by
  unfold m_Marks_countAt
  rw [bs (M_has1 h hk), if_neg e10, if_neg (M_in h.2.2.1 h.2.2.2.1 hk h.1.2.1), nI_clamp (by have := h.2.2.1; have := h.2.2.2.1; omega)]
theorem M_rowAt {N P : Nat} {x : St_Marks} (h : ML N x P) {k : Nat} (hk : k < P) : m_Marks_rowAt x (nI k) = some (x.2.2.1.2 k) := by
  unfold m_Marks_rowAt
  rw [bs (M_has1 h hk), if_neg e10, if_neg (M_in h.2.2.1 h.2.2.2.1 hk h.1.2.2.1), nI_clamp (by have := h.2.2.1; have := h.2.2.2.1; omega)]
theorem M_digestAt {N P : Nat} {x : St_Marks} (h : ML N x P) {k : Nat} (hk : k < P) : m_Marks_digestAt x (nI k) = some (x.2.2.2.2.1.2 k) := by
  unfold m_Marks_digestAt
  rw [bs (M_has1 h hk), if_neg e10, if_neg (M_in h.2.2.1 h.2.2.2.1 hk h.1.2.2.2.2), nI_clamp (by have := h.2.2.1; have := h.2.2.2.1; omega)]
theorem M_numberAt0 {N P : Nat} {x : St_Marks} (h : ML N x P) {v : Int32} (hv : v < 0 ∨ nI P ≤ v) : m_Marks_numberAt x v = some (-1) := by
  unfold m_Marks_numberAt
  rw [bs (M_has0 h hv), if_pos rfl]
theorem M_countAt0 {N P : Nat} {x : St_Marks} (h : ML N x P) {v : Int32} (hv : v < 0 ∨ nI P ≤ v) : m_Marks_countAt x v = some 0 := by
  unfold m_Marks_countAt
  rw [bs (M_has0 h hv), if_pos rfl]
/-- PART i of MARK k, or -1 -/
theorem M_partAt {N P : Nat} {x : St_Marks} (h : ML N x P) {k c : Nat} (hk : k < P) (hc : x.2.1.2 k = nI c) (hc2 : c ≤ 12) (v : Int32) : m_Marks_partAt x (nI k) v = some (if v < 0 ∨ nI c ≤ v then (-1) else x.2.2.2.1.2 (12 * k + v.toNatClampNeg)) := by
  have h3 := h.2.2.1
  have h4 := h.2.2.2.1
  unfold m_Marks_partAt
  by_cases h0 : v < 0
  · rw [if_pos h0, if_pos (Or.inl h0)]
  · rw [if_neg h0, bs (M_countAt h hk), hc]
    by_cases h1 : nI c ≤ v
    · rw [if_pos h1, if_pos (Or.inr h1)]
    · rw [if_neg h1, if_neg (show ¬ (v < 0 ∨ nI c ≤ v) from fun e => e.elim h0 h1)]
      rcases pk_ix v (n := c) (by omega) with h2 | h2 | ⟨i, hi, rfl⟩
      · exact absurd h2 h0
      · exact absurd h2 h1
      · rw [show (12 : Int32) = nI 12 by decide +kernel, pk_mul, nI_add, if_neg (show ¬ (nI (k * 12 + i) < 0 ∨ x.2.2.2.1.1 ≤ (nI (k * 12 + i)).toNatClampNeg) by rw [h.1.2.2.2.1]; exact nI_in (by omega) (by omega)), nI_clamp (by omega), nI_clamp (by omega), Nat.mul_comm k 12]
theorem M_find {N P : Nat} {x : St_Marks} (h : MS N x P) (v : Int32) : (m_Marks_find x v = some (-1) ∧ ∀ k, k < P → x.1.2 k ≠ v) ∨ ∃ k, k < P ∧ m_Marks_find x v = some (nI k) ∧ x.1.2 k = v := by
  obtain ⟨hML, hs⟩ := h
  obtain ⟨hl, h2, h3, h4, -⟩ := id hML
  have hx : x.1 = (N, x.1.2) := Prod.ext hl.1 rfl
  obtain ⟨p, e1, e2, e3, e4⟩ := C_placeOf (N := N) (P := P) (f := x.1.2) (by omega) h3 hs v
  have e1' : m_Log_placeOf x.1 x.2.2.2.2.2 v = some (nI p) := by rw [hx, h2]; exact e1
  unfold m_Marks_find
  rw [bs e1']
  by_cases hp : p < P
  · rw [bs (M_numberAt hML hp), h2]
    by_cases hv : x.1.2 p = v
    · right
      refine ⟨p, hp, ?_, hv⟩
      rw [if_pos hv, if_neg (nI_ge hp (by omega))]
    · left
      rw [if_neg hv]
      refine ⟨rfl, fun k hk he => ?_⟩
      by_cases hkp : k < p
      · have := e3 k hkp
        rw [he] at this
        exact Int32.lt_irrefl this
      · by_cases hke : k = p
        · subst hke; exact hv he
        · have h5 := hs p k (by omega) hk
          have h6 := e4 p (by omega) hp
          rw [he] at h5
          exact Int32.lt_irrefl (Int32.lt_of_lt_of_le h5 h6)
  · left
    have hpe : p = P := by omega
    subst hpe
    rw [bs (M_numberAt0 hML (Or.inr (nI_le (Nat.le_refl _) (by omega)))), h2]
    refine ⟨?_, fun k hk he => ?_⟩
    · split
      · rw [if_pos (nI_le (Nat.le_refl _) (by omega))]
      · rfl
    · have := e3 k hk
      rw [he] at this
      exact Int32.lt_irrefl this
/-- i PARTS of MARK a stand at b too -/
def pcp (pn : Nat → Int32) (a b i : Nat) : Nat → Int32 := fun j => if 12 * b ≤ j ∧ j < 12 * b + i then pn (12 * a + (j - 12 * b)) else pn j
theorem pcp_step (pn : Nat → Int32) {a b i : Nat} (hab : a ≠ b) (hi : i < 12) : upd (pcp pn a b i) (12 * b + i) (pcp pn a b i (12 * a + i)) = pcp pn a b (i + 1) := by
  funext j
  unfold upd pcp
  by_cases h : j = 12 * b + i
  · subst h
    rw [if_pos rfl, if_neg (by omega), if_pos (by omega), show 12 * b + i - 12 * b = i by omega]
  · rw [if_neg h]
    by_cases h2 : 12 * b ≤ j ∧ j < 12 * b + i
    · rw [if_pos h2, if_pos (by omega)]
    · rw [if_neg h2, if_neg (by omega)]
/-- MARK a stands at b too -/
def mcp (x : St_Marks) (a b : Nat) : St_Marks := ((x.1.1, upd x.1.2 b (x.1.2 a)), (x.2.1.1, upd x.2.1.2 b (x.2.1.2 a)), (x.2.2.1.1, upd x.2.2.1.2 b (x.2.2.1.2 a)), (x.2.2.2.1.1, pcp x.2.2.2.1.2 a b (x.2.1.2 a).toNatClampNeg), (x.2.2.2.2.1.1, vp_updL x.2.2.2.2.1.2 b (x.2.2.2.2.1.2 a)), x.2.2.2.2.2)
theorem M_move_L {N : Nat} (hN : N ≤ 256) {a b c : Nat} (ha : a < N) (hb : b < N) (hab : a ≠ b) (hc2 : c ≤ 12) (pn : Nat → Int32) (x1 : AI) (x2 : AI) (x3 : AI) (x5 : AL) (x6 : Int32) (l2 : x2.1 = N) (hc : x2.2 a = nI c) : ∀ (d fuel i : Nat), i + d = c → d < fuel → m_Marks_move_L67 fuel (x1, x2, x3, (N * 12, pcp pn a b i), x5, x6) (nI a) (nI b) (nI i) = some (x1, x2, x3, (N * 12, pcp pn a b c), x5, x6) := by
  intro d
  induction d with
  | zero =>
    intro fuel i hi hf
    obtain ⟨fu, rfl, -⟩ := fu1 hf
    rw [m_Marks_move_L67]
    simp only
    rw [l2, if_neg (nI_in ha (by omega)), nI_clamp (by omega), hc, if_pos (nI_le (by omega) (by omega)), show i = c by omega]
  | succ d ih =>
    intro fuel i hi hf
    obtain ⟨fu, rfl, hf'⟩ := fu1 hf
    rw [m_Marks_move_L67]
    simp only
    rw [l2, if_neg (nI_in ha (by omega)), nI_clamp (show a < 2 ^ 31 by omega), hc, if_neg (nI_ge (by omega) (by omega)), show (12 : Int32) = nI 12 by decide +kernel, pk_mul, pk_mul, nI_add, nI_add, if_neg (nI_in (show a * 12 + i < N * 12 by omega) (by omega)), if_neg (nI_in (show b * 12 + i < N * 12 by omega) (by omega)), nI_clamp (show a * 12 + i < 2 ^ 31 by omega), nI_clamp (show b * 12 + i < 2 ^ 31 by omega), Nat.mul_comm a 12, Nat.mul_comm b 12, pcp_step pn hab (by omega), nI_1]
    exact ih fu (i + 1) (by omega) (by omega)
theorem M_move {N P : Nat} {x : St_Marks} (h : ML N x P) {a b : Nat} (ha : a < P) (hb : b < P) (hab : a ≠ b) : m_Marks_move x (nI a) (nI b) = some (mcp x a b) := by
  have i1 : ∀ M, M = N → ¬ (nI a < 0 ∨ M ≤ (nI a).toNatClampNeg) := fun M hM => M_in h.2.2.1 h.2.2.2.1 ha hM
  have i2 : ∀ M, M = N → ¬ (nI b < 0 ∨ M ≤ (nI b).toNatClampNeg) := fun M hM => M_in h.2.2.1 h.2.2.2.1 hb hM
  obtain ⟨c, hc2, hc⟩ := h.2.2.2.2 a (by have := h.2.2.1; omega)
  unfold m_Marks_move
  refine Eq.trans (bs (M_has1 h ha)) ?_
  refine Eq.trans (if_neg e10) ?_
  refine Eq.trans (bs (M_has1 h hb)) ?_
  refine Eq.trans (if_neg e10) ?_
  obtain ⟨⟨l1, l2, l3, l4, l5⟩, -, h3, h4, -⟩ := h
  refine Eq.trans (if_neg (i1 _ l1)) ?_
  refine Eq.trans (if_neg (i2 _ l1)) ?_
  refine Eq.trans (if_neg (i1 _ l2)) ?_
  refine Eq.trans (if_neg (i2 _ l2)) ?_
  refine Eq.trans (if_neg (i1 _ l3)) ?_
  refine Eq.trans (if_neg (i2 _ l3)) ?_
  refine Eq.trans (if_neg (i1 _ l5)) ?_
  refine Eq.trans (if_neg (i2 _ l5)) ?_
  rw [nI_clamp (show a < 2 ^ 31 by omega), nI_clamp (show b < 2 ^ 31 by omega)]
  have hpn : x.2.2.2.1 = (N * 12, pcp x.2.2.2.1.2 a b 0) := by
    refine Prod.ext l4 (funext fun j => ?_)
    show x.2.2.2.1.2 j = (if 12 * b ≤ j ∧ j < 12 * b + 0 then _ else x.2.2.2.1.2 j)
    rw [if_neg (by omega)]
  rw [hpn]
  have hm := M_move_L (N := N) h4 (a := a) (b := b) (c := c) (by omega) (by omega) hab hc2 x.2.2.2.1.2 (x.1.1, upd x.1.2 b (x.1.2 a)) (x.2.1.1, upd x.2.1.2 b (x.2.1.2 a)) (x.2.2.1.1, upd x.2.2.1.2 b (x.2.2.1.2 a)) (x.2.2.2.2.1.1, vp_updL x.2.2.2.2.1.2 b (x.2.2.2.2.1.2 a)) x.2.2.2.2.2 l2 (by show (if a = b then x.2.1.2 a else x.2.1.2 a) = nI c; rw [if_neg hab]; exact hc) c FU 0 (by omega) (FU_lt (by omega))
  rw [n0]
  refine Eq.trans hm ?_
  unfold mcp
  rw [hc, nI_clamp (by omega), l4]
theorem mls_congr {c : Int32} {pn pn' : Nat → Int32} {k k' : Nat} (h : ∀ i, i < c.toNatClampNeg → pn (12 * k + i) = pn' (12 * k' + i)) : mls c pn k = mls c pn' k' := by
  unfold mls
  apply List.map_congr_left
  intro i hi
  exact h i (List.mem_range.mp hi)
theorem mrow_mcp {N P : Nat} {x : St_Marks} (h : ML N x P) {a b : Nat} (ha : a < N) {k : Nat} (hk : k < N) : mrow (mcp x a b) k = if k = b then mrow x a else mrow x k := by
  obtain ⟨ca, hca, ea⟩ := h.2.2.2.2 a ha
  obtain ⟨ck, hck, ek⟩ := h.2.2.2.2 k hk
  unfold mrow mcp upd vp_updL
  by_cases hkb : k = b
  · subst hkb
    simp only [if_true]
    refine Prod.ext rfl (Prod.ext rfl (Prod.ext rfl (Prod.ext rfl ?_)))
    refine mls_congr (fun i hi => ?_)
    show (if 12 * k ≤ 12 * k + i ∧ 12 * k + i < 12 * k + _ then _ else _) = _
    rw [if_pos ⟨by omega, by omega⟩, show 12 * k + i - 12 * k = i by omega]
  · simp only [if_neg hkb]
    refine Prod.ext rfl (Prod.ext rfl (Prod.ext rfl (Prod.ext rfl ?_)))
    refine mls_congr (fun i hi => ?_)
    rw [ek, nI_clamp (by omega)] at hi
    show (if 12 * b ≤ 12 * k + i ∧ 12 * k + i < 12 * b + _ then _ else _) = _
    rw [ea, nI_clamp (by omega), if_neg (by omega)]
theorem ML_mcp {N P : Nat} {x : St_Marks} (h : ML N x P) {a b : Nat} (ha : a < N) : ML N (mcp x a b) P := by
  refine ⟨h.1, h.2.1, h.2.2.1, h.2.2.2.1, fun k hk => ?_⟩
  show ∃ c : Nat, c ≤ 12 ∧ (if k = b then x.2.1.2 a else x.2.1.2 k) = nI c
  split
  · exact h.2.2.2.2 a ha
  · exact h.2.2.2.2 k hk
-- MARKS come and go in the class's tables
def mset (x : St_Marks) (p : Nat) (num cnt row : Int32) (dig : Int64) : St_Marks := ((x.1.1, upd x.1.2 p num), (x.2.1.1, upd x.2.1.2 p cnt), (x.2.2.1.1, upd x.2.2.1.2 p row), x.2.2.2.1, (x.2.2.2.2.1.1, vp_updL x.2.2.2.2.1.2 p dig), x.2.2.2.2.2)
theorem mrow_mset (x : St_Marks) (p : Nat) (num cnt row : Int32) (dig : Int64) (k : Nat) : mrow (mset x p num cnt row dig) k = if k = p then (num, cnt, row, dig, mls cnt x.2.2.2.1.2 p) else mrow x k := by
  unfold mrow mset upd vp_updL
  by_cases h : k = p
  · subst h
    simp only [if_true]
  · simp only [if_neg h]
theorem ML_mset {N P : Nat} {x : St_Marks} (h : ML N x P) (p : Nat) (num row : Int32) (dig : Int64) {c : Nat} (hc : c ≤ 12) : ML N (mset x p num (nI c) row dig) P := by
  refine ⟨h.1, h.2.1, h.2.2.1, h.2.2.2.1, fun k hk => ?_⟩
  show ∃ c' : Nat, c' ≤ 12 ∧ (if k = p then nI c else x.2.1.2 k) = nI c'
  split
  · exact ⟨c, hc, rfl⟩
  · exact h.2.2.2.2 k hk
theorem clamp12 {c : Nat} (hc : c ≤ 12) : jmax 0 (jmin 12 (nI c)) = nI c := by
  rcases (show c = 0 ∨ c = 1 ∨ c = 2 ∨ c = 3 ∨ c = 4 ∨ c = 5 ∨ c = 6 ∨ c = 7 ∨ c = 8 ∨ c = 9 ∨ c = 10 ∨ c = 11 ∨ c = 12 by omega) with rfl | rfl | rfl | rfl | rfl | rfl | rfl | rfl | rfl | rfl | rfl | rfl | rfl <;> decide +kernel
theorem M_add_L {N P : Nat} {x0 : St_Marks} {p : Nat} (hp : p < P) (num row : Int32) (dig : Int64) {c : Nat} (hc : c ≤ 12) : ∀ (d fuel : Nat) (x : St_Marks) (i : Nat), ML N x P → p + d = i → i < P → (∀ k, k ≤ i → mrow x k = mrow x0 k) → (∀ k, i < k → k < P → mrow x k = mrow x0 (k - 1)) → d < fuel → ∃ x', m_Marks_add_L46 fuel x num (nI c) row dig (nI p) (nI i) = some (nI p, x') ∧ ML N x' P ∧ (∀ k, k < P → k ≠ p → mrow x' k = if k < p then mrow x0 k else mrow x0 (k - 1)) ∧ x'.1.2 p = num ∧ x'.2.1.2 p = nI c ∧ x'.2.2.1.2 p = row ∧ x'.2.2.2.2.1.2 p = dig := by
  intro d
  induction d with
  | zero =>
    intro fuel x i h hi hiP ha hb hf
    obtain ⟨fu, rfl, -⟩ := fu1 hf
    have hie : i = p := by omega
    subst hie
    refine ⟨mset x i num (nI c) row dig, ?_, ML_mset h _ _ _ _ hc, fun k hk hne => ?_, ?_, ?_, ?_, ?_⟩
    · have i1 : ∀ M, M = N → ¬ (nI i < 0 ∨ M ≤ (nI i).toNatClampNeg) := fun M hM => M_in h.2.2.1 h.2.2.2.1 hp hM
      rw [m_Marks_add_L46]
      refine Eq.trans (if_pos (Int32.le_refl _)) ?_
      refine Eq.trans (bs (M_has1 h hp)) ?_
      refine Eq.trans (if_neg e10) ?_
      obtain ⟨⟨l1, l2, l3, l4, l5⟩, -, h3, h4, -⟩ := h
      refine Eq.trans (if_neg (i1 _ l1)) ?_
      refine Eq.trans (if_neg (i1 _ l2)) ?_
      refine Eq.trans (if_neg (i1 _ l3)) ?_
      refine Eq.trans (if_neg (i1 _ l5)) ?_
      rw [nI_clamp (show i < 2 ^ 31 by omega), clamp12 hc]
      rfl
    · rw [mrow_mset, if_neg hne]
      by_cases h1 : k < i
      · rw [if_pos h1]; exact ha k (by omega)
      · rw [if_neg h1]; exact hb k (by omega) hk
    · show (if i = i then num else _) = num
      rw [if_pos rfl]
    · show (if i = i then nI c else _) = nI c
      rw [if_pos rfl]
    · show (if i = i then row else _) = row
      rw [if_pos rfl]
    · show (if i = i then dig else _) = dig
      rw [if_pos rfl]
  | succ d ih =>
    intro fuel x i h hi hiP ha hb hf
    obtain ⟨fu, rfl, hf'⟩ := fu1 hf
    have hPN := h.2.2.1
    have h256 := h.2.2.2.1
    rw [m_Marks_add_L46]
    rw [if_neg (nI_ge (show p < i by omega) (by omega)), n1, pk_sub (show 1 ≤ i by omega), bs (M_move h (a := i - 1) (b := i) (by omega) hiP (by omega)), show nI i + (-nI 1) = nI (i - 1) by rw [← n1]; exact sb_m1 (by omega)]
    refine ih fu (mcp x (i - 1) i) (i - 1) (ML_mcp h (by omega)) (by omega) (by omega) (fun k hk => ?_) (fun k hk hkP => ?_) (by omega)
    · rw [mrow_mcp h (by omega) (by omega), if_neg (by omega)]; exact ha k (by omega)
    · rw [mrow_mcp h (by omega) (by omega)]
      by_cases h2 : k = i
      · rw [if_pos h2, ha (i - 1) (by omega), h2]
      · rw [if_neg h2]; exact hb k (by omega) hkP
theorem M_add {N P : Nat} {x : St_Marks} (h : MS N x P) (hP : P < N) (num row : Int32) (dig : Int64) {c : Nat} (hc : c ≤ 12) (hq : ∀ k, k < P → x.1.2 k ≠ num) : ∃ x' p, m_Marks_add x num (nI c) row dig = some (nI p, x') ∧ MS N x' (P + 1) ∧ p ≤ P ∧ (∀ k, k ≤ P → k ≠ p → mrow x' k = if k < p then mrow x k else mrow x (k - 1)) ∧ x'.1.2 p = num ∧ x'.2.1.2 p = nI c ∧ x'.2.2.1.2 p = row ∧ x'.2.2.2.2.1.2 p = dig := by
  obtain ⟨hML, hs⟩ := h
  obtain ⟨hl, h2, h3, h4, h5⟩ := id hML
  have hx : x.1 = (N, x.1.2) := Prod.ext hl.1 rfl
  obtain ⟨p, e1, e2, e3, e4⟩ := C_placeOf (N := N) (P := P) (f := x.1.2) (by omega) h3 hs num
  have e1' : m_Log_placeOf x.1 x.2.2.2.2.2 num = some (nI p) := by rw [hx, h2]; exact e1
  obtain ⟨x1, hx1⟩ : ∃ x1 : St_Marks, x1 = (x.1, x.2.1, x.2.2.1, x.2.2.2.1, x.2.2.2.2.1, nI (P + 1)) := ⟨_, rfl⟩
  have hL1 : ML N x1 (P + 1) := by rw [hx1]; exact ⟨hl, rfl, by omega, h4, h5⟩
  have hc1 : ∀ k, mrow x1 k = mrow x k := by intro k; rw [hx1]; rfl
  obtain ⟨x', a1, a2, a3, a4, a5, a6, a7⟩ := M_add_L (N := N) (P := P + 1) (x0 := x1) (p := p) (by omega) num row dig hc (P - p) FU x1 P hL1 (by omega) (by omega) (fun k _ => rfl) (fun k hk1 hk2 => absurd hk2 (by omega)) (FU_lt (by omega))
  refine ⟨x', p, ?_, ⟨a2, fun i j hij hj => ?_⟩, e2, fun k hk hne => ?_, a4, a5, a6, a7⟩
  · unfold m_Marks_add
    refine Eq.trans (if_pos (show x.2.2.2.2.2 < nI x.1.1 by rw [h2, hl.1]; exact nI_lt hP (by omega))) ?_
    refine Eq.trans (bs e1') ?_
    rw [h2, nI_1, n1, pk_sub (by omega), ← hx1]
    exact a1
  · have nm : ∀ k, k < P + 1 → x'.1.2 k = if k < p then x.1.2 k else if k = p then num else x.1.2 (k - 1) := by
      intro k hk
      by_cases hkp : k = p
      · subst hkp
        rw [if_neg (by omega), if_pos rfl]; exact a4
      · have := congrArg (fun r : MKQ => r.1) (a3 k hk hkp)
        simp only [hc1] at this
        rw [if_neg hkp]
        by_cases h1 : k < p
        · rw [if_pos h1] at this ⊢; exact this
        · rw [if_neg h1] at this ⊢; exact this
    rw [nm i (by omega), nm j hj]
    by_cases i1 : i < p
    · rw [if_pos i1]
      by_cases j1 : j < p
      · rw [if_pos j1]; exact hs i j hij (by omega)
      · rw [if_neg j1]
        by_cases j2 : j = p
        · rw [if_pos j2]; exact e3 i i1
        · rw [if_neg j2]; exact hs i (j - 1) (by omega) (by omega)
    · rw [if_neg i1, if_neg (show ¬ j < p by omega), if_neg (show ¬ j = p by omega)]
      by_cases i2 : i = p
      · rw [if_pos i2]
        exact Int32.lt_of_le_of_ne (e4 (j - 1) (by omega) (by omega)) (fun e => hq (j - 1) (by omega) e.symm)
      · rw [if_neg i2]; exact hs (i - 1) (j - 1) (by omega) (by omega)
  · have := a3 k (by omega) hne
    simp only [hc1] at this
    exact this
/-- PART i of MARK k is set -/
def mpt (x : St_Marks) (k i : Nat) (v : Int32) : St_Marks := (x.1, x.2.1, x.2.2.1, (x.2.2.2.1.1, upd x.2.2.2.1.2 (12 * k + i) v), x.2.2.2.2.1, x.2.2.2.2.2)
theorem M_setPart {N P : Nat} {x : St_Marks} (h : ML N x P) {k i c : Nat} (hk : k < P) (hc : x.2.1.2 k = nI c) (hc2 : c ≤ 12) (hi : i < c) (v : Int32) : m_Marks_setPart x (nI k) (nI i) v = some (mpt x k i v) := by
  have h3 := h.2.2.1
  have h4 := h.2.2.2.1
  unfold m_Marks_setPart
  rw [if_neg (nI_pos (by omega)), bs (M_countAt h hk), hc, if_neg (nI_ge hi (by omega)), show (12 : Int32) = nI 12 by decide +kernel, pk_mul, nI_add, if_neg (show ¬ (nI (k * 12 + i) < 0 ∨ x.2.2.2.1.1 ≤ (nI (k * 12 + i)).toNatClampNeg) by rw [h.1.2.2.2.1]; exact nI_in (by omega) (by omega)), nI_clamp (by omega), Nat.mul_comm k 12]
  rfl
theorem M_rem_L {N P : Nat} {x0 : St_Marks} {a : Nat} (ha : a < P) : ∀ (d fuel : Nat) (x : St_Marks) (i : Nat), ML N x P → i + d = P → a < i → (∀ k, k < a → mrow x k = mrow x0 k) → (∀ k, a ≤ k → k + 1 < i → mrow x k = mrow x0 (k + 1)) → (∀ k, i ≤ k → k < P → mrow x k = mrow x0 k) → d < fuel → ∃ x', m_Marks_remove_L13 fuel x (nI i) = some x' ∧ ML N x' (P - 1) ∧ (∀ k, k < P - 1 → mrow x' k = if k < a then mrow x0 k else mrow x0 (k + 1)) := by
  intro d
  induction d with
  | zero =>
    intro fuel x i h hi hai h1 h2 h3 hf
    obtain ⟨fu, rfl, -⟩ := fu1 hf
    obtain ⟨hl, hs, hP, hN, hc⟩ := id h
    refine ⟨(x.1, x.2.1, x.2.2.1, x.2.2.2.1, x.2.2.2.2.1, nI (P - 1)), ?_, ⟨hl, rfl, by omega, hN, hc⟩, fun k hk => ?_⟩
    · rw [m_Marks_remove_L13, hs, if_pos (nI_le (by omega) (by omega)), n1, pk_sub (by omega)]
    · show mrow x k = _
      by_cases hk2 : k < a
      · rw [if_pos hk2]; exact h1 k hk2
      · rw [if_neg hk2]; exact h2 k (by omega) (by omega)
  | succ d ih =>
    intro fuel x i h hi hai h1 h2 h3 hf
    obtain ⟨fu, rfl, hf'⟩ := fu1 hf
    have hPN := h.2.2.1
    have h256 := h.2.2.2.1
    rw [m_Marks_remove_L13, h.2.1, if_neg (nI_ge (by omega) (by omega)), n1, pk_sub (show 1 ≤ i by omega), bs (M_move h (a := i) (b := i - 1) (by omega) (by omega) (by omega)), nI_add]
    refine ih fu (mcp x i (i - 1)) (i + 1) (ML_mcp h (by omega)) (by omega) (by omega) (fun k hk => ?_) (fun k hk1 hk2 => ?_) (fun k hk1 hk2 => ?_) (by omega)
    · rw [mrow_mcp h (by omega) (by omega), if_neg (by omega)]; exact h1 k hk
    · rw [mrow_mcp h (by omega) (by omega)]
      by_cases hk3 : k = i - 1
      · rw [if_pos hk3, h3 i (by omega) (by omega), hk3, show i - 1 + 1 = i by omega]
      · rw [if_neg hk3]; exact h2 k hk1 (by omega)
    · rw [mrow_mcp h (by omega) (by omega), if_neg (by omega)]; exact h3 k (by omega) hk2
theorem M_remove {N P : Nat} {x : St_Marks} (h : MS N x P) {a : Nat} (ha : a < P) : ∃ x', m_Marks_remove x (nI a) = some x' ∧ MS N x' (P - 1) ∧ ∀ k, k < P - 1 → mrow x' k = if k < a then mrow x k else mrow x (k + 1) := by
  have h3 := h.1.2.2.1
  have h4 := h.1.2.2.2.1
  obtain ⟨x', a1, a2, a3⟩ := M_rem_L (N := N) (P := P) (x0 := x) ha (P - (a + 1)) FU x (a + 1) h.1 (by omega) (by omega) (fun k _ => rfl) (fun k h1 h2 => absurd h2 (by omega)) (fun k _ _ => rfl) (FU_lt (by omega))
  refine ⟨x', ?_, ⟨a2, fun i j hij hj => ?_⟩, a3⟩
  · unfold m_Marks_remove
    rw [bs (M_has1 h.1 ha), if_neg e10, nI_1]
    exact a1
  · have ci := congrArg (fun r : MKQ => r.1) (a3 i (by omega))
    have cj := congrArg (fun r : MKQ => r.1) (a3 j hj)
    show (mrow x' i).1 < (mrow x' j).1
    rw [show (mrow x' i).1 = _ from ci, show (mrow x' j).1 = _ from cj]
    by_cases i1 : i < a
    · rw [if_pos i1]
      by_cases j1 : j < a
      · rw [if_pos j1]; exact h.2 i j hij (by omega)
      · rw [if_neg j1]; exact h.2 i (j + 1) (by omega) (by omega)
    · rw [if_neg i1, if_neg (by omega)]; exact h.2 (i + 1) (j + 1) (by omega) (by omega)
