-- A HEAD IS DRAWN, AND WRITTEN
/-- the owners' numbers from j on -/
def ownF (ow : Nat → Int32) : Nat → Nat → (Nat → Int32) → (Nat → Int32)
  | 0, _, f => f
  | d + 1, j, f => ownF ow d (j + 1) (pF f (8 + 2 * j) 2 (ow j).toInt64)
def headImg (ow : Nat → Int32) (ser : Int32) : Nat → Int32 :=
  pF (ownF ow 8 0 (pF (pF (fun _ => 0) 0 1 4) 4 4 ser.toInt64)) 24 8 (digF (ownF ow 8 0 (pF (pF (fun _ => 0) 0 1 4) 4 4 ser.toInt64)) 0 24)
theorem By_own (ow : Nat → Int32) : ∀ (d j : Nat) (f : Nat → Int32), (∀ j, By (f j)) → ∀ k, By (ownF ow d j f k) := by
  intro d
  induction d with
  | zero => intro j f h; exact h
  | succ d ih => intro j f h; exact ih _ _ (By_pF h _ _ _)
theorem own_hi (ow : Nat → Int32) : ∀ (d j : Nat) (f : Nat → Int32) (k : Nat), j + d ≤ 8 → 24 ≤ k → ownF ow d j f k = f k := by
  intro d
  induction d with
  | zero => intro j f k h1 h2; rfl
  | succ d ih =>
    intro j f k h1 h2
    rw [ownF, ih _ _ _ (by omega) h2, pF_hi (by omega)]
theorem By_head (ow : Nat → Int32) (ser : Int32) : ∀ j, By (headImg ow ser j) := by
  unfold headImg
  exact By_pF (By_own ow _ _ _ (By_pF (By_pF (fun _ => By0) _ _ _) _ _ _)) _ _ _
theorem head_hi (ow : Nat → Int32) (ser : Int32) {j : Nat} (hj : 32 ≤ j) : headImg ow ser j = 0 := by
  unfold headImg
  rw [pF_hi (by omega), own_hi ow _ _ _ _ (by omega) (by omega), pF_hi (by omega), pF_hi (by omega)]
theorem C_dH_L {g : St_Log} {ow : Nat → Int32} (how : g_owners g = (8, ow)) : ∀ (d fuel : Nat) (im : St_Bytes) (j : Nat), BBe 224 im → j + d = 8 → d < fuel → ∃ im', m_Log_drawHead_L35 fuel (s_image g im) (nI j) = some (s_image g im') ∧ im'.1.2 = pF (ownF ow d j im.1.2) 24 8 (digF (ownF ow d j im.1.2) 0 24) ∧ BBe 224 im' := by
  intro d
  induction d with
  | zero =>
    intro fuel im j hI hj hf
    obtain ⟨fu, rfl, -⟩ := fu1 hf
    obtain ⟨im', s1, s2, s3⟩ := C_drawSum (g := s_image g im) (im := im) rfl hI
    refine ⟨im', ?_, s2, s3⟩
    rw [m_Log_drawHead_L35, n8]
    refine Eq.trans (if_pos (nI_le (by omega) (by omega))) ?_
    refine Eq.trans (bs s1) ?_
    rfl
  | succ d ih =>
    intro fuel im j hI hj hf
    obtain ⟨fu, rfl, hf'⟩ := fu1 hf
    obtain ⟨x', h1, h2, h3⟩ := Be_put hI (by omega) (i := 8 + 2 * j) (K := 2) (by omega) (by omega) (ow j).toInt64
    obtain ⟨im', i1, i2, i3⟩ := ih fu x' (j + 1) h3 (by omega) (by omega)
    refine ⟨im', ?_, by rw [i2, h2]; rfl, i3⟩
    rw [m_Log_drawHead_L35]
    refine Eq.trans (if_neg (show ¬ (8 : Int32) ≤ nI j by rw [n8]; exact nI_ge (by omega) (by omega))) ?_
    simp only [q_image, q_owners, ss_image, how]
    refine Eq.trans (if_neg (nI_in (show j < 8 by omega) (by omega))) ?_
    rw [n8, n2, pk_mul, nI_add, nI_clamp (by omega), nI_1]
    refine Eq.trans (bs (show m_Bytes_put im (nI (8 + 2 * j)) (ow j).toInt64 (nI 2) = some x' from h1)) ?_
    exact i1
theorem C_drawHead {g : St_Log} {ow : Nat → Int32} {ser : Int32} (how : g_owners g = (8, ow)) (hs : g_serial g = ser) (hI : BBe 224 (g_image g)) : ∃ im', m_Log_drawHead g = some (s_image g im') ∧ im'.1.2 = headImg ow ser ∧ BBe 224 im' := by
  obtain ⟨e1, e2⟩ := Be_clear hI (by omega)
  obtain ⟨y2, p2, c2, b2⟩ := Be_put e2 (by omega) (i := 0) (K := 1) (by omega) (by omega) 4
  obtain ⟨y3, p3, c3, b3⟩ := Be_put b2 (by omega) (i := 4) (K := 4) (by omega) (by omega) ser.toInt64
  obtain ⟨im', i1, i2, i3⟩ := C_dH_L how 8 FU y3 0 b3 (by omega) (FU_lt (by omega))
  refine ⟨im', ?_, by rw [i2, c3, c2]; rfl, i3⟩
  unfold m_Log_drawHead
  rw [hs]
  refine Eq.trans (bs e1) ?_
  refine Eq.trans (bs p2) ?_
  refine Eq.trans (bs p3) ?_
  simp only [ss_image]
  exact i1
theorem R_oL {g : St_Ref} {ow : Nat → Int32} (how : g_Rowners g = (8, ow)) (hm : (g_Rmedium g).1 = 16384) (hp : Pw (g_RcutIn g)) {S : Nat} (hs : g_Rserial g = nI S) (hS : S ≤ 1000000000) {a : Nat} (ha : a < 8) : ∀ (d fuel : Nat) (f : Nat → Int32) (j : Nat), (∀ k, By (f k)) → j + d = 8 → d < fuel → m_RRef_owner_L93 fuel (s_Rdraft g (256, f)) (nI a) (nI j) = some (if (wrS (fun k => pF (ownF ow d j f) 24 8 (digF (ownF ow d j f) 0 24) (0 + k)) (32 * (S % 2)) 32 0 (rtri g)).1 = 0 then ((-5), rout (s_Rdraft g (256, pF (ownF ow d j f) 24 8 (digF (ownF ow d j f) 0 24))) (wrS (fun k => pF (ownF ow d j f) 24 8 (digF (ownF ow d j f) 0 24) (0 + k)) (32 * (S % 2)) 32 0 (rtri g))) else (ow a, rout (s_Rdraft g (256, pF (ownF ow d j f) 24 8 (digF (ownF ow d j f) 0 24))) (wrS (fun k => pF (ownF ow d j f) 24 8 (digF (ownF ow d j f) 0 24) (0 + k)) (32 * (S % 2)) 32 0 (rtri g)))) := by
  intro d
  induction d with
  | zero =>
    intro fuel f j hb hj hf
    obtain ⟨fu, rfl, -⟩ := fu1 hf
    show m_RRef_owner_L93 (fu + 1) (s_Rdraft g (256, f)) (nI a) (nI j) = some (if (wrS (fun k => pF f 24 8 (digF f 0 24) (0 + k)) (32 * (S % 2)) 32 0 (rtri g)).1 = 0 then ((-5), rout (s_Rdraft g (256, pF f 24 8 (digF f 0 24))) (wrS (fun k => pF f 24 8 (digF f 0 24) (0 + k)) (32 * (S % 2)) 32 0 (rtri g))) else (ow a, rout (s_Rdraft g (256, pF f 24 8 (digF f 0 24))) (wrS (fun k => pF f 24 8 (digF f 0 24) (0 + k)) (32 * (S % 2)) 32 0 (rtri g))))
    have hj2 : jrem (nI S) 2 = nI (S % 2) := by
      unfold jrem
      rw [n2, pk_rem (by omega) (by omega) (by omega)]
    have s1 := R_sumDraft (g := s_Rdraft g (256, f)) rfl
    have hw : m_RRef_write (s_Rdraft g (256, pF f 24 8 (digF f 0 24))) (nI (S % 2)) (nI 0) = _ := R_write (g := s_Rdraft g (256, pF f 24 8 (digF f 0 24))) (row := S % 2) (fr := 0) (by omega) hm rfl (by omega) (By_pF hb _ _ _) hp
    obtain ⟨q, hq⟩ : ∃ q, q = wrS (fun k => pF f 24 8 (digF f 0 24) (0 + k)) (32 * (S % 2)) 32 0 (rtri g) := ⟨_, rfl⟩
    have hw2 : m_RRef_write (s_Rdraft g (256, pF f 24 8 (digF f 0 24))) (nI (S % 2)) 0 = some (q.1, rout (s_Rdraft g (256, pF f 24 8 (digF f 0 24))) q) := by rw [hq]; exact hw
    rw [← hq]
    rw [m_RRef_owner_L93, n8]
    refine Eq.trans (if_pos (nI_le (by omega) (by omega))) ?_
    refine Eq.trans (bs s1) ?_
    simp only [sr_draft, qR_serial]
    rw [hs, hj2]
    refine Eq.trans (bs hw2) ?_
    have ho : g_Rowners (rout (s_Rdraft g (256, pF f 24 8 (digF f 0 24))) q) = (8, ow) := by
      rw [← how]
      unfold rout
      split <;> rfl
    simp only
    by_cases h0 : q.1 = 0
    · rw [if_pos h0, if_pos h0]
    · rw [if_neg h0, if_neg h0, ho]
      refine Eq.trans (if_neg (nI_in (show a < 8 from ha) (by omega))) ?_
      rw [nI_clamp (by omega)]
  | succ d ih =>
    intro fuel f j hb hj hf
    obtain ⟨fu, rfl, hf'⟩ := fu1 hf
    rw [m_RRef_owner_L93]
    refine Eq.trans (if_neg (show ¬ (8 : Int32) ≤ nI j by rw [n8]; exact nI_ge (by omega) (by omega))) ?_
    simp only [qR_draft, qR_owners, sr_draft, how]
    refine Eq.trans (if_neg (nI_in (show j < 8 by omega) (by omega))) ?_
    rw [n8, n2, pk_mul, nI_add, nI_clamp (show j < 2 ^ 31 by omega), nI_1]
    refine Eq.trans (bs (R_put (x := (256, f)) (i := 8 + 2 * j) (K := 2) (by show 256 < 2 ^ 31; omega) (by omega) (by show 8 + 2 * j + 2 ≤ 256; omega) _)) ?_
    exact ih fu (pF f (8 + 2 * j) 2 (ow j).toInt64) (j + 1) (By_pF hb _ _ _) (by omega) (by omega)
-- FINDING: numbers that rise
theorem ush1 {m : Nat} (h : m < 2 ^ 31) : jiushr (nI m) 1 = nI (m / 2) := by
  unfold jiushr
  exact pk_ushrN (by omega) 1 1 (by decide)
theorem pO_L {N P : Nat} {f : Nat → Int32} (hN : N < 2 ^ 30) (hP : P ≤ N) (hs : ∀ i j, i < j → j < P → f i < f j) (v : Int32) : ∀ (d fuel lo hi : Nat), lo ≤ hi → hi ≤ P → hi - lo ≤ d → d < fuel → (∀ i, i < lo → f i < v) → (∀ i, hi ≤ i → i < P → v ≤ f i) → ∃ p, m_Log_placeOf_L10 (N, f) fuel v (nI lo) (nI hi) = some (nI p) ∧ p ≤ P ∧ (∀ i, i < p → f i < v) ∧ (∀ i, p ≤ i → i < P → v ≤ f i) := by
  intro d
  induction d with
  | zero =>
    intro fuel lo hi h1 h2 h3 hf ha hb
    obtain ⟨fu, rfl, -⟩ := fu1 hf
    have : lo = hi := by omega
    subst this
    rw [m_Log_placeOf_L10, if_pos (nI_le (by omega) (by omega))]
    exact ⟨lo, rfl, h2, ha, hb⟩
  | succ d ih =>
    intro fuel lo hi h1 h2 h3 hf ha hb
    obtain ⟨fu, rfl, hf'⟩ := fu1 hf
    rw [m_Log_placeOf_L10]
    by_cases he : lo = hi
    · subst he
      rw [if_pos (nI_le (by omega) (by omega))]
      exact ⟨lo, rfl, h2, ha, hb⟩
    · rw [if_neg (nI_ge (by omega) (by omega)), nI_add, ush1 (by omega), if_neg (nI_in (show (lo + hi) / 2 < N by omega) (by omega)), nI_clamp (by omega)]
      by_cases hv : v ≤ f ((lo + hi) / 2)
      · rw [if_pos hv]
        refine ih fu lo ((lo + hi) / 2) (by omega) (by omega) (by omega) (by omega) ha (fun i hi1 hi2 => ?_)
        by_cases hq : i = (lo + hi) / 2
        · subst hq; exact hv
        · exact Int32.le_trans hv (Int32.le_of_lt (hs _ _ (by omega) hi2))
      · rw [if_neg hv, nI_1]
        refine ih fu ((lo + hi) / 2 + 1) hi (by omega) h2 (by omega) (by omega) (fun i hi1 => ?_) hb
        by_cases hq : i = (lo + hi) / 2
        · subst hq; exact Int32.not_le.mp hv
        · exact Int32.lt_trans (hs i _ (by omega) (by omega)) (Int32.not_le.mp hv)
/-- where a number stands, or would stand -/
theorem C_placeOf {N P : Nat} {f : Nat → Int32} (hN : N < 1048576) (hP : P ≤ N) (hs : ∀ i j, i < j → j < P → f i < f j) (v : Int32) : ∃ p, m_Log_placeOf (N, f) (nI P) v = some (nI p) ∧ p ≤ P ∧ (∀ i, i < p → f i < v) ∧ (∀ i, p ≤ i → i < P → v ≤ f i) := by
  unfold m_Log_placeOf
  have hj : jmin (nI P) (nI (N, f).1) = nI P := by
    unfold jmin
    rw [if_neg (nI_nlt hP (by show N < 2 ^ 31; omega))]
  rw [hj, n0]
  exact pO_L (by omega) hP hs v P FU 0 P (by omega) (by omega) (by omega) (FU_lt (by omega)) (fun i hi => absurd hi (by omega)) (fun i h1 h2 => absurd h2 (by omega))
