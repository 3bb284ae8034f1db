-- GENERAL STATES: bytes in a room
/-- s bytes in a room of N, 0s behind them -/
def BB (N : Nat) (x : St_Bytes) (s : Nat) : Prop := x.1.1 = N ∧ x.2 = nI s ∧ s ≤ N ∧ ∀ j, s ≤ j → x.1.2 j = 0
theorem and0 : (0 : Int32) &&& 255 = 0 := by decide
theorem B_at {N s : Nat} {x : St_Bytes} (h : BB N x s) (hN : N < 2 ^ 31) {i : Nat} (hi : i < N) : m_Bytes_at x (nI i) = some (x.1.2 i &&& 255) := by
  obtain ⟨h1, h2, h3, h4⟩ := h
  unfold m_Bytes_at
  rw [if_neg (nI_pos (by omega)), h2, h1]
  by_cases hs : s ≤ i
  · rw [if_pos (nI_le hs (by omega)), h4 i hs, and0]
  · rw [if_neg (nI_ge (by omega) (by omega)), if_neg (nI_ge hi hN), if_neg (nI_in hi hN), nI_clamp (by omega)]
/-- a byte out of a long -/
def bv (v : Int64) : Int32 := vp_nar .byte (v.toInt32.toInt8.toInt32)
theorem B_putByte {N s : Nat} {x : St_Bytes} (h : BB N x s) (hN : N < 2 ^ 31) {i : Nat} (hi : i < N) (v : Int64) : m_Bytes_putByte x (nI i) v = some ((N, upd x.1.2 i (bv v)), nI (max s (i + 1))) ∧ BB N ((N, upd x.1.2 i (bv v)), nI (max s (i + 1))) (max s (i + 1)) := by
  obtain ⟨h1, h2, h3, h4⟩ := h
  constructor
  · unfold m_Bytes_putByte
    rw [if_neg (nI_pos (by omega)), h1, if_pos (nI_lt hi hN), if_neg (nI_in hi hN), nI_clamp (by omega), h2, nI_1]
    have hj : jmax (nI s) (nI (i + 1)) = nI (max s (i + 1)) := by
      unfold jmax
      by_cases hs : s < i + 1
      · rw [if_pos (nI_lt hs (by omega)), Nat.max_eq_right (by omega)]
      · rw [if_neg (nI_nlt (by omega) (by omega)), Nat.max_eq_left (by omega)]
    rw [hj]
    rfl
  · refine ⟨rfl, rfl, by omega, fun j hj => ?_⟩
    show (if j = i then bv v else x.1.2 j) = 0
    rw [if_neg (by omega)]
    exact h4 j (by omega)
/-- what put leaves: K bytes of v from i on, the highest first -/
def pF (f : Nat → Int32) (i K : Nat) (v : Int64) : Nat → Int32 := fun t => if i ≤ t ∧ t < i + K then bv (jlushr v (nI (8 * (K - 1 - (t - i))))) else f t
/-- the same, j of them done -/
def pG (f : Nat → Int32) (i K : Nat) (v : Int64) (j : Nat) : Nat → Int32 := fun t => if i ≤ t ∧ t < i + j then bv (jlushr v (nI (8 * (K - 1 - (t - i))))) else f t
theorem pG_step (f : Nat → Int32) (i K : Nat) (v : Int64) (j : Nat) : upd (pG f i K v j) (i + j) (bv (jlushr v (nI (8 * (K - 1 - j))))) = pG f i K v (j + 1) := by
  funext t
  unfold upd pG
  by_cases h : t = i + j
  · subst h
    rw [if_pos rfl, if_pos (by omega), show i + j - i = j by omega]
  · rw [if_neg h]
    by_cases h2 : i ≤ t ∧ t < i + j
    · rw [if_pos h2, if_pos (by omega)]
    · rw [if_neg h2, if_neg (by omega)]
theorem sh8 {K j : Nat} (hK : K ≤ 8) (hj : j < K) : (8 : Int32) * ((nI K - 1) - nI j) = nI (8 * (K - 1 - j)) := by
  rw [n1, pk_sub (by omega), pk_sub (by omega), n8, pk_mul]
theorem B_put_L {N i K : Nat} (hN : N < 2 ^ 31) (hK : K ≤ 8) (hi : i + K ≤ N) (f : Nat → Int32) (v : Int64) : ∀ (d fuel : Nat) (x : St_Bytes) (s j : Nat), BB N x s → x.1.2 = pG f i K v j → j + d = K → d < fuel → ∃ x', m_Bytes_put_L3 fuel x (nI i) v (nI K) (nI j) = some x' ∧ x'.1.2 = pG f i K v K ∧ BB N x' (if d = 0 then s else max s (i + K)) := by
  intro d
  induction d with
  | zero =>
    intro fuel x s j h hx hj hf
    obtain ⟨fu, rfl, -⟩ := fu1 hf
    rw [m_Bytes_put_L3, if_pos (nI_le (by omega) (by omega))]
    have : j = K := by omega
    subst this
    exact ⟨x, rfl, hx, h⟩
  | succ d ih =>
    intro fuel x s j h hx hj hf
    obtain ⟨fu, rfl, hf'⟩ := fu1 hf
    obtain ⟨e1, e2⟩ := B_putByte h hN (i := i + j) (by omega) (jlushr v (nI (8 * (K - 1 - j))))
    rw [m_Bytes_put_L3, if_neg (nI_ge (by omega) (by omega)), nI_add, sh8 hK (by omega), bs e1, nI_1]
    obtain ⟨x', h1, h2, h3⟩ := ih fu _ (max s (i + j + 1)) (j + 1) e2 (by show upd x.1.2 (i + j) _ = _; rw [hx, pG_step]) (by omega) (by omega)
    refine ⟨x', h1, h2, ?_⟩
    rw [if_neg (by omega)]
    by_cases hd : d = 0
    · rw [if_pos hd] at h3
      rw [show max s (i + K) = max s (i + j + 1) by rw [show i + K = i + j + 1 by omega]]
      exact h3
    · rw [if_neg hd] at h3
      rw [show max s (i + K) = max (max s (i + j + 1)) (i + K) by omega]
      exact h3
theorem B_put {N i K s : Nat} {x : St_Bytes} (h : BB N x s) (hN : N < 2 ^ 31) (hK : 1 ≤ K ∧ K ≤ 8) (hi : i + K ≤ N) (v : Int64) : ∃ x', m_Bytes_put x (nI i) v (nI K) = some x' ∧ x'.1.2 = pF x.1.2 i K v ∧ BB N x' (max s (i + K)) := by
  unfold m_Bytes_put
  have hz : x.1.2 = pG x.1.2 i K v 0 := by
    funext t
    unfold pG
    rw [if_neg (by omega)]
  obtain ⟨x', h1, h2, h3⟩ := B_put_L hN hK.2 hi x.1.2 v K FU x s 0 h hz (by omega) (FU_lt (by omega))
  rw [if_neg (by omega)] at h3
  rw [n0]
  exact ⟨x', h1, h2, h3⟩
theorem B_clear_L {N : Nat} (hN : N < 2 ^ 31) : ∀ (d fuel : Nat) (x : St_Bytes) (s j : Nat), BB N x s → (∀ t, t < j → x.1.2 t = 0) → j + d = s → d < fuel → m_Bytes_clear_L2 fuel x (nI j) = some ((N, fun _ => 0), 0) := by
  intro d
  induction d with
  | zero =>
    intro fuel x s j h hz hj hf
    obtain ⟨fu, rfl, -⟩ := fu1 hf
    obtain ⟨h1, h2, h3, h4⟩ := h
    rw [m_Bytes_clear_L2, h2, if_pos (nI_le (by omega) (by omega))]
    have : x.1 = (N, fun _ => 0) := by
      rw [← h1]
      refine Prod.ext rfl (funext fun t => ?_)
      by_cases ht : t < j
      · exact hz t ht
      · exact h4 t (by omega)
    rw [this]
  | succ d ih =>
    intro fuel x s j h hz hj hf
    obtain ⟨fu, rfl, hf'⟩ := fu1 hf
    obtain ⟨h1, h2, h3, h4⟩ := h
    rw [m_Bytes_clear_L2, h2, if_neg (nI_ge (by omega) (by omega)), h1, if_neg (nI_ge (by omega) hN), if_neg (nI_in (by omega) hN), nI_clamp (by omega), nI_1]
    refine ih fu _ s (j + 1) ⟨rfl, rfl, h3, fun t ht => ?_⟩ (fun t ht => ?_) (by omega) (by omega)
    · show (if t = j then vp_nar .byte 0 else x.1.2 t) = 0
      split
      · decide +kernel
      · exact h4 t ht
    · show (if t = j then vp_nar .byte 0 else x.1.2 t) = 0
      split
      · decide +kernel
      · exact hz t (by omega)
theorem B_clear {N s : Nat} {x : St_Bytes} (h : BB N x s) (hN : N < 1048576) : m_Bytes_clear x = some ((N, fun _ => 0), 0) := by
  have h3 := h.2.2.1
  unfold m_Bytes_clear
  rw [n0]
  exact B_clear_L (by omega) s FU x s 0 h (fun t ht => absurd ht (by omega)) (by omega) (FU_lt (by omega))
theorem B_dig_L {N s : Nat} {x : St_Bytes} (h : BB N x s) (hN : N < 2 ^ 31) (b : Nat) (hb : b ≤ N) : ∀ (d fuel : Nat) (acc : Int64) (j : Nat), j + d = b → d < fuel → m_Bytes_digest_L5 x fuel (nI b) acc (nI j) = some (digS x.1.2 d acc j) := by
  intro d
  induction d with
  | zero =>
    intro fuel acc j hj hf
    obtain ⟨fu, rfl, -⟩ := fu1 hf
    rw [m_Bytes_digest_L5, if_pos (nI_le (by omega) (by omega))]; rfl
  | succ d ih =>
    intro fuel acc j hj hf
    obtain ⟨fu, rfl, hf'⟩ := fu1 hf
    rw [m_Bytes_digest_L5, if_neg (nI_ge (by omega) (by omega)), bs (B_at h hN (by omega)), bs (c_dstep _ _), nI_1, ih fu _ (j + 1) (by omega) (by omega)]; rfl
theorem B_dig {N s : Nat} {x : St_Bytes} (h : BB N x s) (hN : N < 1048576) {a b : Nat} (hab : a ≤ b) (hb : b ≤ N) : m_Bytes_digest x (nI a) (nI b) = some (digF x.1.2 a (b - a)) := by
  unfold m_Bytes_digest digF
  exact B_dig_L h (by omega) b hb (b - a) FU 0 a (by omega) (FU_lt (by omega))
theorem B_num_L {N s : Nat} {x : St_Bytes} (h : BB N x s) (hN : N < 2 ^ 31) {i K : Nat} (hi : i + K ≤ N) : ∀ (d fuel : Nat) (acc : Int64) (j : Nat), j + d = K → d < fuel → m_Bytes_number_L5 x fuel (nI i) (nI K) acc (nI j) = some (numS x.1.2 i d acc j) := by
  intro d
  induction d with
  | zero =>
    intro fuel acc j hj hf
    obtain ⟨fu, rfl, -⟩ := fu1 hf
    rw [m_Bytes_number_L5, if_pos (nI_le (by omega) (by omega))]; rfl
  | succ d ih =>
    intro fuel acc j hj hf
    obtain ⟨fu, rfl, hf'⟩ := fu1 hf
    rw [m_Bytes_number_L5, if_neg (nI_ge (by omega) (by omega)), nI_add, bs (B_at h hN (by omega)), nI_1, ih fu _ (j + 1) (by omega) (by omega), l255]; rfl
theorem B_num {N s : Nat} {x : St_Bytes} (h : BB N x s) (hN : N < 1048576) {i K : Nat} (hi : i + K ≤ N) : m_Bytes_number x (nI i) (nI K) = some (numF x.1.2 i K) := by
  unfold m_Bytes_number numF
  rw [n0]
  exact B_num_L h (by omega) hi K FU 0 0 (by omega) (FU_lt (by omega))
-- the reference's put: the same bytes
theorem jr8 (v : Int64) : ∀ m, m ≤ 7 → (jlshr v (nI (8 * m))).toBitVec = v.toBitVec.sshiftRight (8 * m) ∧ (jlushr v (nI (8 * m))).toBitVec = v.toBitVec >>> (8 * m) := by
  intro m hm
  rcases (show m = 0 ∨ m = 1 ∨ m = 2 ∨ m = 3 ∨ m = 4 ∨ m = 5 ∨ m = 6 ∨ m = 7 by omega) with rfl | rfl | rfl | rfl | rfl | rfl | rfl | rfl
  all_goals exact ⟨rfl, rfl⟩
theorem shr8 (v : Int64) {m : Nat} (hm : m ≤ 7) : (jlshr v (nI (8 * m))).toInt32.toInt8 = (jlushr v (nI (8 * m))).toInt32.toInt8 := by
  obtain ⟨h1, h2⟩ := jr8 v m hm
  apply Int8.toBitVec_inj.mp
  rw [Int32.toBitVec_toInt8, Int64.toBitVec_toInt32, Int32.toBitVec_toInt8, Int64.toBitVec_toInt32, h1, h2]
  apply BitVec.eq_of_getLsbD_eq
  intro i hi
  have a1 : i < 32 := by omega
  have a2 : i < 64 := by omega
  have a3 : 8 * m + i < 64 := by omega
  simp only [BitVec.getLsbD_signExtend, BitVec.getLsbD_sshiftRight, BitVec.getLsbD_ushiftRight]
  simp [hi, a1, a2, a3]
theorem bvr (v : Int64) {m : Nat} (hm : m ≤ 7) : vp_nar .byte (((jlshr v (nI (8 * m))).toInt32).toInt8.toInt32) = bv (jlushr v (nI (8 * m))) := by
  unfold bv
  rw [shr8 v hm]
theorem R_put_L {N i K : Nat} (hN : N < 2 ^ 31) (hK : K ≤ 8) (hi : i + K ≤ N) (f : Nat → Int32) (v : Int64) : ∀ (d fuel : Nat) (j : Nat), j + d = K → d < fuel → m_RRef_put_L3 fuel (N, pG f i K v j) (nI i) (nI K) v (nI j) = some (N, pG f i K v K) := by
  intro d
  induction d with
  | zero =>
    intro fuel j hj hf
    obtain ⟨fu, rfl, -⟩ := fu1 hf
    rw [m_RRef_put_L3, if_pos (nI_le (by omega) (by omega)), show j = K by omega]
  | succ d ih =>
    intro fuel j hj hf
    obtain ⟨fu, rfl, hf'⟩ := fu1 hf
    rw [m_RRef_put_L3, if_neg (nI_ge (by omega) (by omega)), nI_add, if_neg (nI_in (show i + j < N by omega) hN), nI_clamp (by omega), sh8 hK (by omega), bvr v (by omega), nI_1, pG_step]
    exact ih fu (j + 1) (by omega) (by omega)
theorem R_put {x : AI} {i K : Nat} (hN : x.1 < 2 ^ 31) (hK : K ≤ 8) (hi : i + K ≤ x.1) (v : Int64) : m_RRef_put x (nI i) (nI K) v = some (x.1, pF x.2 i K v) := by
  unfold m_RRef_put
  have hz : x = (x.1, pG x.2 i K v 0) := by
    refine Prod.ext rfl (funext fun t => ?_)
    show x.2 t = (if i ≤ t ∧ t < i + 0 then _ else x.2 t)
    rw [if_neg (by omega)]
  rw [n0]
  have h := R_put_L hN hK hi x.2 v K FU 0 (by omega) (FU_lt (by omega))
  rw [← hz] at h
  exact h
-- WRITING ROWS
theorem nar_b (x : Int32) : vp_nar .byte x = x.toInt8.toInt32 := rfl
theorem i8_255 (c : Int32) : (c &&& 255).toInt8 = c.toInt8 := by
  rw [Int32.toInt8_and, show (255 : Int32).toInt8 = -1 by decide +kernel]
  exact Int8.and_neg_one
/-- a byte, as an array of bytes keeps it -/
def By (c : Int32) : Prop := c.toInt8.toInt32 = c
theorem By.nar {c : Int32} (h : By c) : vp_nar .byte c = c := h
theorem By.back {c : Int32} (h : By c) : vp_nar .byte ((c &&& 255).toInt8.toInt32) = c := by
  rw [nar_b, i8_255, Int8.toInt8_toInt32]; exact h
theorem By_nar (x : Int32) : By (vp_nar .byte x) := by
  unfold By
  rw [nar_b, Int8.toInt8_toInt32]
theorem By_bv (v : Int64) : By (bv v) := By_nar _
theorem By0 : By 0 := by unfold By; decide
theorem By_pF {f : Nat → Int32} (h : ∀ j, By (f j)) (i K : Nat) (v : Int64) : ∀ j, By (pF f i K v j) := by
  intro j
  unfold pF
  split
  · exact By_bv _
  · exact h j
theorem By_upd {f : Nat → Int32} (h : ∀ j, By (f j)) (i : Nat) {x : Int32} (hx : By x) : ∀ j, By (upd f i x j) := by
  intro j
  unfold upd
  split
  · exact hx
  · exact h j
/-- power: none is set, or so many bytes more -/
def Pw (p : Int32) : Prop := p = (-1) ∨ ∃ c : Nat, c ≤ 20000 ∧ p = nI c
def pwn (p : Int32) : Int32 := if p = (-1) then (-1) else p - 1
theorem Pw_n {p : Int32} (h : Pw p) (h0 : ¬ p = 0) : Pw (pwn p) ∧ (if p ≤ 0 then p else p - 1) = pwn p := by
  unfold pwn
  rcases h with rfl | ⟨c, hc, rfl⟩
  · exact ⟨Or.inl rfl, rfl⟩
  · have hc0 : 0 < c := Nat.pos_of_ne_zero (fun e => h0 (by rw [e]; rfl))
    have h1 : ¬ nI c = (-1) := fun e => by
      have := congrArg Int32.toInt e
      rw [nI_toInt (by omega)] at this
      have h2 : Int32.toInt (-1) = -1 := by decide
      rw [h2] at this
      omega
    rw [if_neg h1, if_neg (nI_nle hc0 (by omega)), n1, pk_sub (by omega)]
    exact ⟨Or.inr ⟨c - 1, by omega, rfl⟩, rfl⟩
/-- d bytes more of a row that begins at base, j are written: (whether power stayed, bytes, power, bytes written) -/
def wrS (src : Nat → Int32) (base : Nat) : Nat → Nat → (Nat → Int32) × Int32 × Int32 → Int32 × (Nat → Int32) × Int32 × Int32
  | 0, _, s => (1, s)
  | d + 1, j, s => if s.2.1 = 0 then (0, s.1, (-1), s.2.2) else wrS src base d (j + 1) (upd s.1 (base + j) (src j), pwn s.2.1, s.2.2 + 1)
theorem wrS_ok (src : Nat → Int32) (base : Nat) : ∀ (d j : Nat) (s : (Nat → Int32) × Int32 × Int32), (wrS src base d j s).1 = 0 ∨ (wrS src base d j s).1 = 1 := by
  intro d
  induction d with
  | zero => intro j s; exact Or.inr rfl
  | succ d ih =>
    intro j s
    rw [wrS]
    split
    · exact Or.inl rfl
    · exact ih _ _
theorem wrS_pw (src : Nat → Int32) (base : Nat) : ∀ (d j : Nat) (s : (Nat → Int32) × Int32 × Int32), Pw s.2.1 → Pw (wrS src base d j s).2.2.1 := by
  intro d
  induction d with
  | zero => intro j s h; exact h
  | succ d ih =>
    intro j s h
    rw [wrS]
    split
    · exact Or.inl rfl
    · rename_i h0
      exact ih _ _ (Pw_n h h0).1
theorem wrS_by (src : Nat → Int32) (hs : ∀ j, By (src j)) (base : Nat) : ∀ (d j : Nat) (s : (Nat → Int32) × Int32 × Int32), (∀ j, By (s.1 j)) → ∀ j', By ((wrS src base d j s).2.1 j') := by
  intro d
  induction d with
  | zero => intro j s h; exact h
  | succ d ih =>
    intro j s h
    rw [wrS]
    split
    · exact h
    · exact ih _ _ (By_upd h _ (hs j))
/-- the class's medium as a triple -/
def tri (x : St_Medium) : (Nat → Int32) × Int32 × Int32 := (x.2.1.2, x.2.2.1, x.2.2.2)
def mk3 (n : Nat) (t : (Nat → Int32) × Int32 × Int32) : St_Medium := (nI n, (32 * n, t.1), t.2.1, t.2.2)
theorem mk3_ok {n : Nat} (h4 : 4 ≤ n) (h5 : n ≤ 512) (t : (Nat → Int32) × Int32 × Int32) : MedOk n (mk3 n t) := ⟨rfl, rfl, h4, h5⟩
theorem mk3_of {n : Nat} {x : St_Medium} (h : MedOk n x) : x = mk3 n (tri x) := by
  obtain ⟨a, ⟨b, c⟩, d, e⟩ := x
  obtain ⟨h1, h2, h3, h4⟩ := h
  unfold mk3 tri
  simp only at h1 h2 ⊢
  rw [h1, h2]
theorem M_wb {n : Nat} (h4 : 4 ≤ n) (h5 : n ≤ 512) {t : (Nat → Int32) × Int32 × Int32} (hp : Pw t.2.1) {row i : Nat} (hr : row < n) (hi : i < 32) {v c : Int32} (hv : vp_nar .byte (v.toInt8.toInt32) = c) : m_Medium_writeByte (mk3 n t) (nI row) (nI i) v = some (if t.2.1 = 0 then (0, mk3 n (t.1, (-1), t.2.2)) else (1, mk3 n (upd t.1 (32 * row + i) c, pwn t.2.1, t.2.2 + 1))) := by
  obtain ⟨f, p, w⟩ := t
  unfold m_Medium_writeByte
  by_cases h0 : p = 0
  · rw [if_pos (show (mk3 n (f, p, w)).2.2.1 = 0 from h0), if_pos (show (f, p, w).2.1 = 0 from h0)]; rfl
  · rw [if_neg (show ¬ (mk3 n (f, p, w)).2.2.1 = 0 from h0), if_neg (show ¬ (f, p, w).2.1 = 0 from h0)]
    have hq := (Pw_n hp h0).2
    have hin : ¬ (nI (row * 32 + i) < 0 ∨ 32 * n ≤ (nI (row * 32 + i)).toNatClampNeg) := nI_in (by omega) (by omega)
    have hc : (nI (row * 32 + i)).toNatClampNeg = 32 * row + i := by rw [nI_clamp (by omega)]; omega
    by_cases hle : p ≤ 0
    · rw [if_pos hle] at hq
      refine Eq.trans (if_pos (show (mk3 n (f, p, w)).2.2.1 ≤ 0 from hle)) ?_
      refine Eq.trans (bs (c_has (mk3_ok h4 h5 _) hr hi)) ?_
      refine Eq.trans (if_neg e10) ?_
      rw [n32, pk_mul, nI_add]
      refine Eq.trans (if_neg hin) ?_
      rw [hc, hv]
      show some ((1 : Int32), (nI n, (32 * n, upd f (32 * row + i) c), p, w + 1)) = some (1, (nI n, (32 * n, upd f (32 * row + i) c), pwn p, w + 1))
      rw [show pwn p = p from hq.symm]
    · rw [if_neg hle] at hq
      refine Eq.trans (if_neg (show ¬ (mk3 n (f, p, w)).2.2.1 ≤ 0 from hle)) ?_
      refine Eq.trans (bs (show m_Medium_has (nI n, (32 * n, f), p - 1, w) (nI row) (nI i) = some 1 from c_has (n := n) ⟨rfl, rfl, h4, h5⟩ hr hi)) ?_
      refine Eq.trans (if_neg e10) ?_
      rw [n32, pk_mul, nI_add]
      refine Eq.trans (if_neg hin) ?_
      rw [hc, hv]
      show some ((1 : Int32), (nI n, (32 * n, upd f (32 * row + i) c), p - 1, w + 1)) = some (1, (nI n, (32 * n, upd f (32 * row + i) c), pwn p, w + 1))
      rw [show pwn p = p - 1 from hq.symm]
theorem M_write_L {n N s : Nat} {y : St_Bytes} (hy : BB N y s) (hN : N < 2 ^ 31) (hb : ∀ j, By (y.1.2 j)) (h4 : 4 ≤ n) (h5 : n ≤ 512) {row fr : Nat} (hr : row < n) (hfr : fr + 32 ≤ N) : ∀ (d fuel : Nat) (t : (Nat → Int32) × Int32 × Int32) (j : Nat), Pw t.2.1 → j + d = 32 → d < fuel → m_Medium_write_L3 y fuel (mk3 n t) (nI row) (nI fr) (nI j) = some ((wrS (fun k => y.1.2 (fr + k)) (32 * row) d j t).1, mk3 n (wrS (fun k => y.1.2 (fr + k)) (32 * row) d j t).2) := by
  intro d
  induction d with
  | zero =>
    intro fuel t j hp hj hf
    obtain ⟨fu, rfl, -⟩ := fu1 hf
    rw [m_Medium_write_L3, n32, if_pos (nI_le (by omega) (by omega))]; rfl
  | succ d ih =>
    intro fuel t j hp hj hf
    obtain ⟨fu, rfl, hf'⟩ := fu1 hf
    rw [m_Medium_write_L3, wrS]
    refine Eq.trans (if_neg (show ¬ (32 : Int32) ≤ nI j by rw [n32]; exact nI_ge (by omega) (by omega))) ?_
    rw [nI_add]
    refine Eq.trans (bs (B_at hy hN (by omega))) ?_
    refine Eq.trans (bs (M_wb h4 h5 hp hr (by omega) (By.back (hb (fr + j))))) ?_
    by_cases h0 : t.2.1 = 0
    · simp only [if_pos h0]
      exact if_pos trivial
    · simp only [if_neg h0]
      refine Eq.trans (if_neg e10) ?_
      rw [nI_1]
      exact ih fu _ (j + 1) (Pw_n hp h0).1 (by omega) (by omega)
theorem M_write {n N s : Nat} {y : St_Bytes} (hy : BB N y s) (hN : N < 2 ^ 31) (hb : ∀ j, By (y.1.2 j)) (h4 : 4 ≤ n) (h5 : n ≤ 512) {row fr : Nat} (hr : row < n) (hfr : fr + 32 ≤ N) {t : (Nat → Int32) × Int32 × Int32} (hp : Pw t.2.1) : m_Medium_write (mk3 n t) y (nI row) (nI fr) = some ((wrS (fun k => y.1.2 (fr + k)) (32 * row) 32 0 t).1, mk3 n (wrS (fun k => y.1.2 (fr + k)) (32 * row) 32 0 t).2) := by
  unfold m_Medium_write
  rw [n0]
  exact M_write_L hy hN hb h4 h5 hr hfr 32 FU t 0 hp (by omega) (FU_lt (by omega))
theorem M_erase_L {n : Nat} (h4 : 4 ≤ n) (h5 : n ≤ 512) {row : Nat} (hr : row < n) : ∀ (d fuel : Nat) (t : (Nat → Int32) × Int32 × Int32) (j : Nat), Pw t.2.1 → j + d = 32 → d < fuel → m_Medium_erase_L2 fuel (mk3 n t) (nI row) (nI j) = some ((wrS (fun _ => 0) (32 * row) d j t).1, mk3 n (wrS (fun _ => 0) (32 * row) d j t).2) := by
  intro d
  induction d with
  | zero =>
    intro fuel t j hp hj hf
    obtain ⟨fu, rfl, -⟩ := fu1 hf
    rw [m_Medium_erase_L2, n32, if_pos (nI_le (by omega) (by omega))]; rfl
  | succ d ih =>
    intro fuel t j hp hj hf
    obtain ⟨fu, rfl, hf'⟩ := fu1 hf
    rw [m_Medium_erase_L2, wrS]
    refine Eq.trans (if_neg (show ¬ (32 : Int32) ≤ nI j by rw [n32]; exact nI_ge (by omega) (by omega))) ?_
    refine Eq.trans (bs (M_wb h4 h5 hp hr (by omega) (show vp_nar .byte ((0 : Int32).toInt8.toInt32) = 0 by decide +kernel))) ?_
    by_cases h0 : t.2.1 = 0
    · simp only [if_pos h0]
      exact if_pos trivial
    · simp only [if_neg h0]
      refine Eq.trans (if_neg e10) ?_
      rw [nI_1]
      exact ih fu _ (j + 1) (Pw_n hp h0).1 (by omega) (by omega)
theorem M_erase {n : Nat} (h4 : 4 ≤ n) (h5 : n ≤ 512) {row : Nat} (hr : row < n) {t : (Nat → Int32) × Int32 × Int32} (hp : Pw t.2.1) : m_Medium_erase (mk3 n t) (nI row) = some ((wrS (fun _ => 0) (32 * row) 32 0 t).1, mk3 n (wrS (fun _ => 0) (32 * row) 32 0 t).2) := by
  unfold m_Medium_erase
  rw [n0]
  exact M_erase_L h4 h5 hr 32 FU t 0 hp (by omega) (FU_lt (by omega))
-- the reference's row: the same triple
def rtri (g : St_Ref) : (Nat → Int32) × Int32 × Int32 := ((g_Rmedium g).2, g_RcutIn g, g_Rwritten g)
def rmk (g : St_Ref) (t : (Nat → Int32) × Int32 × Int32) : St_Ref := s_Rwritten (s_Rmedium (s_RcutIn g t.2.1) (16384, t.1)) t.2.2
/-- behind a write: bytes, power, count; closed if power went -/
def rout (g : St_Ref) (q : Int32 × (Nat → Int32) × Int32 × Int32) : St_Ref := if q.1 = 0 then s_Ropen (rmk g q.2) 0 else rmk g q.2
theorem rmk_of {g : St_Ref} (h : (g_Rmedium g).1 = 16384) : g = rmk g (rtri g) := by
  unfold rmk rtri
  simp only
  rw [← h]
  rfl
theorem rmk_s (g : St_Ref) (t u : (Nat → Int32) × Int32 × Int32) : rmk (rmk g t) u = rmk g u := rfl
theorem R_write_L {row fr : Nat} (hr : row < 512) (g : St_Ref) (hd : (g_Rdraft g).1 = 256) (hfr : fr + 32 ≤ 256) (hb : ∀ j, By ((g_Rdraft g).2 j)) : ∀ (d fuel : Nat) (t : (Nat → Int32) × Int32 × Int32) (j : Nat), Pw t.2.1 → j + d = 32 → d < fuel → m_RRef_write_L2 fuel (rmk g t) (nI row) (nI fr) (nI j) = some ((wrS (fun k => (g_Rdraft g).2 (fr + k)) (32 * row) d j t).1, rout g (wrS (fun k => (g_Rdraft g).2 (fr + k)) (32 * row) d j t)) := by
  intro d
  induction d with
  | zero =>
    intro fuel t j hp hj hf
    obtain ⟨fu, rfl, -⟩ := fu1 hf
    rw [m_RRef_write_L2, n32, if_pos (nI_le (by omega) (by omega))]; rfl
  | succ d ih =>
    intro fuel t j hp hj hf
    obtain ⟨fu, rfl, hf'⟩ := fu1 hf
    obtain ⟨f, p, w⟩ := t
    have g1 : g_RcutIn (rmk g (f, p, w)) = p := by unfold rmk; simp only [qR_cutIn]
    have g2 : g_Rdraft (rmk g (f, p, w)) = g_Rdraft g := by unfold rmk; simp only [qR_draft]
    have g3 : g_Rmedium (rmk g (f, p, w)) = (16384, f) := by unfold rmk; simp only [qR_medium]
    have g4 : g_Rwritten (rmk g (f, p, w)) = w := by unfold rmk; simp only [qR_written]
    have i1 : ¬ (nI (fr + j) < 0 ∨ (g_Rdraft g).1 ≤ (nI (fr + j)).toNatClampNeg) := by rw [hd]; exact nI_in (by omega) (by omega)
    have i2 : ¬ (nI (32 * row + j) < 0 ∨ 16384 ≤ (nI (32 * row + j)).toNatClampNeg) := nI_in (by omega) (by omega)
    rw [m_RRef_write_L2, g1, g2, g3, g4]
    refine Eq.trans (if_neg (show ¬ (32 : Int32) ≤ nI j by rw [n32]; exact nI_ge (by omega) (by omega))) ?_
    by_cases h0 : p = 0
    · rw [show wrS (fun k => (g_Rdraft g).2 (fr + k)) (32 * row) (d + 1) j (f, p, w) = (0, f, (-1), w) from if_pos h0]
      refine Eq.trans (if_pos h0) ?_
      rfl
    · rw [show wrS (fun k => (g_Rdraft g).2 (fr + k)) (32 * row) (d + 1) j (f, p, w) = wrS (fun k => (g_Rdraft g).2 (fr + k)) (32 * row) d (j + 1) (upd f (32 * row + j) ((g_Rdraft g).2 (fr + j)), pwn p, w + 1) from if_neg h0]
      refine Eq.trans (if_neg h0) ?_
      have hn := (Pw_n hp h0).1
      rw [nI_add, n32, pk_mul, nI_add]
      by_cases hm : p = (-1)
      · refine Eq.trans (if_pos hm) ?_
        refine Eq.trans (if_neg i1) ?_
        refine Eq.trans (if_neg i2) ?_
        rw [nI_1, nI_clamp (show fr + j < 2 ^ 31 by omega), nI_clamp (show 32 * row + j < 2 ^ 31 by omega), By.nar (hb (fr + j))]
        have e : pwn p = (-1) := by unfold pwn; rw [if_pos hm]
        have := ih fu (upd f (32 * row + j) ((g_Rdraft g).2 (fr + j)), pwn p, w + 1) (j + 1) hn (by omega) (by omega)
        rw [e] at this
        rw [e]
        exact this
      · refine Eq.trans (if_neg hm) ?_
        refine Eq.trans (if_neg i1) ?_
        refine Eq.trans (if_neg i2) ?_
        rw [nI_1, nI_clamp (show fr + j < 2 ^ 31 by omega), nI_clamp (show 32 * row + j < 2 ^ 31 by omega), By.nar (hb (fr + j))]
        have e : pwn p = p - 1 := by unfold pwn; rw [if_neg hm]
        have := ih fu (upd f (32 * row + j) ((g_Rdraft g).2 (fr + j)), pwn p, w + 1) (j + 1) hn (by omega) (by omega)
        rw [e] at this
        rw [e]
        exact this
theorem R_write {g : St_Ref} {row fr : Nat} (hr : row < 512) (hm : (g_Rmedium g).1 = 16384) (hd : (g_Rdraft g).1 = 256) (hfr : fr + 32 ≤ 256) (hb : ∀ j, By ((g_Rdraft g).2 j)) (hp : Pw (g_RcutIn g)) : m_RRef_write g (nI row) (nI fr) = some ((wrS (fun k => (g_Rdraft g).2 (fr + k)) (32 * row) 32 0 (rtri g)).1, rout g (wrS (fun k => (g_Rdraft g).2 (fr + k)) (32 * row) 32 0 (rtri g))) := by
  have h := R_write_L (fr := fr) hr g hd hfr hb 32 FU (rtri g) 0 hp (by omega) (FU_lt (by omega))
  rw [← rmk_of hm] at h
  unfold m_RRef_write
  rw [n0]
  exact h
-- SEVERAL ROWS
abbrev T3 : Type := (Nat → Int32) × Int32 × Int32
/-- rows k .. behind the first, then the first one -/
def wrM (src : Nat → Int32) (row : Nat) : Nat → Nat → T3 → Int32 × T3
  | 0, _, s => wrS (fun j => src (0 + j)) (32 * row) 32 0 s
  | d + 1, k, s => if (wrS (fun j => src (32 * k + j)) (32 * (row + k)) 32 0 s).1 = 0 then wrS (fun j => src (32 * k + j)) (32 * (row + k)) 32 0 s else wrM src row d (k + 1) (wrS (fun j => src (32 * k + j)) (32 * (row + k)) 32 0 s).2
/-- rows that become 0, from the first on -/
def wrZ (row : Nat) : Nat → Nat → T3 → Int32 × T3
  | 0, _, s => (1, s)
  | d + 1, k, s => if (wrS (fun _ => 0) (32 * (row + k)) 32 0 s).1 = 0 then wrS (fun _ => 0) (32 * (row + k)) 32 0 s else wrZ row d (k + 1) (wrS (fun _ => 0) (32 * (row + k)) 32 0 s).2
theorem wrM_ok (src : Nat → Int32) (row : Nat) : ∀ (d k : Nat) (s : T3), (wrM src row d k s).1 = 0 ∨ (wrM src row d k s).1 = 1 := by
  intro d
  induction d with
  | zero => intro k s; exact wrS_ok _ _ _ _ _
  | succ d ih =>
    intro k s
    rw [wrM]
    split
    · exact wrS_ok _ _ _ _ _
    · exact ih _ _
theorem wrZ_ok (row : Nat) : ∀ (d k : Nat) (s : T3), (wrZ row d k s).1 = 0 ∨ (wrZ row d k s).1 = 1 := by
  intro d
  induction d with
  | zero => intro k s; exact Or.inr rfl
  | succ d ih =>
    intro k s
    rw [wrZ]
    split
    · exact wrS_ok _ _ _ _ _
    · exact ih _ _
theorem wrM_pw (src : Nat → Int32) (row : Nat) : ∀ (d k : Nat) (s : T3), Pw s.2.1 → Pw (wrM src row d k s).2.2.1 := by
  intro d
  induction d with
  | zero => intro k s h; exact wrS_pw _ _ _ _ _ h
  | succ d ih =>
    intro k s h
    rw [wrM]
    split
    · exact wrS_pw _ _ _ _ _ h
    · exact ih _ _ (wrS_pw _ _ _ _ _ h)
theorem wrZ_pw (row : Nat) : ∀ (d k : Nat) (s : T3), Pw s.2.1 → Pw (wrZ row d k s).2.2.1 := by
  intro d
  induction d with
  | zero => intro k s h; exact h
  | succ d ih =>
    intro k s h
    rw [wrZ]
    split
    · exact wrS_pw _ _ _ _ _ h
    · exact ih _ _ (wrS_pw _ _ _ _ _ h)
theorem wrM_by (src : Nat → Int32) (hs : ∀ j, By (src j)) (row : Nat) : ∀ (d k : Nat) (s : T3), (∀ j, By (s.1 j)) → ∀ j, By ((wrM src row d k s).2.1 j) := by
  intro d
  induction d with
  | zero => intro k s h; exact wrS_by _ (fun j => hs _) _ _ _ _ h
  | succ d ih =>
    intro k s h
    rw [wrM]
    split
    · exact wrS_by _ (fun j => hs _) _ _ _ _ h
    · exact ih _ _ (wrS_by _ (fun j => hs _) _ _ _ _ h)
theorem wrZ_by (row : Nat) : ∀ (d k : Nat) (s : T3), (∀ j, By (s.1 j)) → ∀ j, By ((wrZ row d k s).2.1 j) := by
  intro d
  induction d with
  | zero => intro k s h; exact h
  | succ d ih =>
    intro k s h
    rw [wrZ]
    split
    · exact wrS_by _ (fun j => By0) _ _ _ _ h
    · exact ih _ _ (wrS_by _ (fun j => By0) _ _ _ _ h)
/-- the class with this medium, open or not -/
def wi (n : Nat) (g : St_Log) (q : Int32 × T3) : St_Log := s_isOpen (s_medium g (mk3 n q.2)) q.1
theorem wi_wi (n : Nat) (g : St_Log) (q u : Int32 × T3) : s_isOpen (s_medium (wi n g q) (mk3 n u.2)) u.1 = wi n g u := rfl
theorem wi_medium (n : Nat) (g : St_Log) (q : Int32 × T3) : g_medium (wi n g q) = mk3 n q.2 := rfl
theorem wi_isOpen (n : Nat) (g : St_Log) (q : Int32 × T3) : g_isOpen (wi n g q) = q.1 := rfl
theorem wi_room (n : Nat) (g : St_Log) (q : Int32 × T3) : g_room (wi n g q) = g_room g := rfl
theorem wi_image (n : Nat) (g : St_Log) (q : Int32 × T3) : g_image (wi n g q) = g_image g := rfl
theorem e01 : ¬ ¬ ((0 : Int32) = 0 ∨ (0 : Int32) = 1) := by decide
theorem ok01 {v : Int32} (h : v = 0 ∨ v = 1) : ¬ ¬ (v = 0 ∨ v = 1) := fun k => k h
theorem C_wI_L {n s : Nat} {g : St_Log} {im : St_Bytes} (him : g_image g = im) (hy : BB 224 im s) (hb : ∀ j, By (im.1.2 j)) (h4 : 4 ≤ n) (h5 : n ≤ 512) {row count : Nat} (hc : 1 ≤ count ∧ count ≤ 7) (hr : row + count ≤ n) {rm : St_Room} (hT : m_Room_take (g_room g) (nI row) (nI count) = some rm) : ∀ (d fuel : Nat) (t : T3) (k : Nat), Pw t.2.1 → 1 ≤ k → k + d = count → d < fuel → m_Log_writeImage_L2 fuel (wi n g (1, t)) (nI row) (nI count) (nI k) = some ((wrM im.1.2 row d k t).1, s_room (wi n g (wrM im.1.2 row d k t)) rm) := by
  intro d
  induction d with
  | zero =>
    intro fuel t k hp hk hj hf
    obtain ⟨fu, rfl, -⟩ := fu1 hf
    have hw := M_write hy (by omega) hb h4 h5 (row := row) (fr := 0) (by omega) (by omega) hp
    have ho := wrS_ok (fun j => im.1.2 (0 + j)) (32 * row) 32 0 t
    rw [m_Log_writeImage_L2]
    refine Eq.trans (if_pos (nI_le (by omega) (by omega))) ?_
    refine Eq.trans (if_neg e10) ?_
    rw [wi_medium, wi_image, him]
    refine Eq.trans (bs hw) ?_
    refine Eq.trans (if_neg (ok01 ho)) ?_
    rw [wi_room]
    refine Eq.trans (bs hT) ?_
    exact if_neg (ok01 ho)
  | succ d ih =>
    intro fuel t k hp hk hj hf
    obtain ⟨fu, rfl, hf'⟩ := fu1 hf
    have hw := M_write hy (by omega) hb h4 h5 (row := row + k) (fr := 32 * k) (by omega) (by omega) hp
    have ho := wrS_ok (fun j => im.1.2 (32 * k + j)) (32 * (row + k)) 32 0 t
    have hpw := wrS_pw (fun j => im.1.2 (32 * k + j)) (32 * (row + k)) 32 0 t hp
    rw [m_Log_writeImage_L2, wrM]
    refine Eq.trans (if_neg (nI_ge (by omega) (by omega))) ?_
    refine Eq.trans (if_neg e10) ?_
    rw [wi_medium, wi_image, him, nI_add, n32, pk_mul, Nat.mul_comm k 32]
    refine Eq.trans (bs hw) ?_
    refine Eq.trans (if_neg (ok01 ho)) ?_
    rw [nI_1]
    obtain ⟨q, hq⟩ : ∃ q, q = wrS (fun j => im.1.2 (32 * k + j)) (32 * (row + k)) 32 0 t := ⟨_, rfl⟩
    rw [← hq] at ho hpw ⊢
    show m_Log_writeImage_L2 fu (wi n g q) (nI row) (nI count) (nI (k + 1)) = _
    rcases ho with h0 | h1
    · rw [if_pos h0]
      obtain ⟨fu2, rfl, -⟩ := fu1 (k := 0) (fuel := fu) (by omega)
      have h6 : g_isOpen (wi n g q) = 0 := h0
      have fin : ((m_Room_take (g_room (wi n g q)) (nI row) (nI count)).bind fun q3 => if ¬ ((g_isOpen (wi n g q)) = 0 ∨ (g_isOpen (wi n g q)) = 1) then none else some ((g_isOpen (wi n g q)), (s_room (wi n g q) q3))) = some (q.1, s_room (wi n g q) rm) := by
        rw [wi_room]
        refine Eq.trans (bs hT) ?_
        exact if_neg (ok01 (Or.inl h6))
      rw [m_Log_writeImage_L2]
      by_cases hc2 : nI count ≤ nI (k + 1)
      · refine Eq.trans (if_pos hc2) ?_
        refine Eq.trans (if_pos h6) ?_
        exact fin
      · refine Eq.trans (if_neg hc2) ?_
        refine Eq.trans (if_pos h6) ?_
        refine Eq.trans (if_pos h6) ?_
        exact fin
    · rw [if_neg (by rw [h1]; decide)]
      have : wi n g q = wi n g (1, q.2) := by unfold wi; rw [h1]
      rw [this]
      exact ih fu q.2 (k + 1) hpw (by omega) (by omega) (by omega)
theorem C_writeImage {n s : Nat} {g : St_Log} {t : T3} {im : St_Bytes} (hm : g_medium g = mk3 n t) (ho : g_isOpen g = 1) (him : g_image g = im) (hy : BB 224 im s) (hb : ∀ j, By (im.1.2 j)) (h4 : 4 ≤ n) (h5 : n ≤ 512) {row count : Nat} (hc : 1 ≤ count ∧ count ≤ 7) (hr : row + count ≤ n) {rm : St_Room} (hT : m_Room_take (g_room g) (nI row) (nI count) = some rm) (hp : Pw t.2.1) : m_Log_writeImage g (nI row) (nI count) = some ((wrM im.1.2 row (count - 1) 1 t).1, s_room (wi n g (wrM im.1.2 row (count - 1) 1 t)) rm) := by
  have hg : g = wi n g (1, t) := by
    unfold wi
    rw [← hm, ← ho]
    rfl
  have h := C_wI_L him hy hb h4 h5 hc hr hT (count - 1) FU t 1 hp (by omega) (by omega) (FU_lt (by omega))
  rw [← hg] at h
  unfold m_Log_writeImage
  rw [n1]
  exact h
theorem C_tB_L {n : Nat} {g : St_Log} (h4 : 4 ≤ n) (h5 : n ≤ 512) {row count : Nat} (hr : row + count ≤ n) {rm : St_Room} (hT : m_Room_free (g_room g) (nI row) (nI count) = some rm) : ∀ (d fuel : Nat) (t : T3) (k : Nat), Pw t.2.1 → k + d = count → d < fuel → m_Log_takeBack_L2 fuel (wi n g (1, t)) (nI row) (nI count) (nI k) = some ((wrZ row d k t).1, s_room (wi n g (wrZ row d k t)) rm) := by
  intro d
  induction d with
  | zero =>
    intro fuel t k hp hj hf
    obtain ⟨fu, rfl, -⟩ := fu1 hf
    rw [m_Log_takeBack_L2]
    refine Eq.trans (if_pos (nI_le (by omega) (by omega))) ?_
    rw [wi_room]
    refine Eq.trans (bs hT) ?_
    exact if_neg e11
  | succ d ih =>
    intro fuel t k hp hj hf
    obtain ⟨fu, rfl, hf'⟩ := fu1 hf
    have hw := M_erase h4 h5 (row := row + k) (by omega) hp
    have ho := wrS_ok (fun _ => 0) (32 * (row + k)) 32 0 t
    have hpw := wrS_pw (fun _ => 0) (32 * (row + k)) 32 0 t hp
    rw [m_Log_takeBack_L2, wrZ]
    refine Eq.trans (if_neg (nI_ge (by omega) (by omega))) ?_
    refine Eq.trans (if_neg e10) ?_
    rw [wi_medium, nI_add]
    refine Eq.trans (bs hw) ?_
    refine Eq.trans (if_neg (ok01 ho)) ?_
    rw [nI_1]
    obtain ⟨q, hq⟩ : ∃ q, q = wrS (fun _ => 0) (32 * (row + k)) 32 0 t := ⟨_, rfl⟩
    rw [← hq] at ho hpw ⊢
    show m_Log_takeBack_L2 fu (wi n g q) (nI row) (nI count) (nI (k + 1)) = _
    rcases ho with h0 | h1
    · rw [if_pos h0]
      obtain ⟨fu2, rfl, -⟩ := fu1 (k := 0) (fuel := fu) (by omega)
      have h6 : g_isOpen (wi n g q) = 0 := h0
      have fin : ((m_Room_free (g_room (wi n g q)) (nI row) (nI count)).bind fun q3 => if ¬ ((g_isOpen (wi n g q)) = 0 ∨ (g_isOpen (wi n g q)) = 1) then none else some ((g_isOpen (wi n g q)), (s_room (wi n g q) q3))) = some (q.1, s_room (wi n g q) rm) := by
        rw [wi_room]
        refine Eq.trans (bs hT) ?_
        exact if_neg (ok01 (Or.inl h6))
      rw [m_Log_takeBack_L2]
      by_cases hc2 : nI count ≤ nI (k + 1)
      · refine Eq.trans (if_pos hc2) ?_
        exact fin
      · refine Eq.trans (if_neg hc2) ?_
        refine Eq.trans (if_pos h6) ?_
        exact fin
    · rw [if_neg (by rw [h1]; decide)]
      have : wi n g q = wi n g (1, q.2) := by unfold wi; rw [h1]
      rw [this]
      exact ih fu q.2 (k + 1) hpw (by omega) (by omega)
theorem C_takeBack {n : Nat} {g : St_Log} {t : T3} (hm : g_medium g = mk3 n t) (ho : g_isOpen g = 1) (h4 : 4 ≤ n) (h5 : n ≤ 512) {row count : Nat} (hr : row + count ≤ n) {rm : St_Room} (hT : m_Room_free (g_room g) (nI row) (nI count) = some rm) (hp : Pw t.2.1) : m_Log_takeBack g (nI row) (nI count) = some ((wrZ row count 0 t).1, s_room (wi n g (wrZ row count 0 t)) rm) := by
  have hg : g = wi n g (1, t) := by
    unfold wi
    rw [← hm, ← ho]
    rfl
  have h := C_tB_L h4 h5 hr hT count FU t 0 hp (by omega) (FU_lt (by omega))
  rw [← hg] at h
  unfold m_Log_takeBack
  rw [n0]
  exact h
-- the reference
theorem rout_draft (g : St_Ref) (q : Int32 × T3) : g_Rdraft (rout g q) = g_Rdraft g := by
  unfold rout
  split <;> rfl
theorem rout_medium (g : St_Ref) (q : Int32 × T3) : g_Rmedium (rout g q) = (16384, q.2.1) := by
  unfold rout
  split <;> rfl
theorem rout_tri (g : St_Ref) (q : Int32 × T3) : rtri (rout g q) = q.2 := by
  unfold rout
  split <;> rfl
theorem rout_cut (g : St_Ref) (q : Int32 × T3) : g_RcutIn (rout g q) = q.2.2.1 := by
  unfold rout
  split <;> rfl
theorem rout1 {g : St_Ref} {q : Int32 × T3} (h : q.1 = 1) : rout g q = rmk g q.2 := by
  unfold rout
  rw [h, if_neg e10]
theorem rout_rmk (g : St_Ref) (t : T3) (q : Int32 × T3) : rout (rmk g t) q = rout g q := rfl
theorem R_wA_L {g : St_Ref} (hd : (g_Rdraft g).1 = 256) (hb : ∀ j, By ((g_Rdraft g).2 j)) {row count : Nat} (hc : 1 ≤ count ∧ count ≤ 7) (hr : row + count ≤ 512) : ∀ (d fuel : Nat) (t : T3) (k : Nat), Pw t.2.1 → 1 ≤ k → k + d = count → d < fuel → m_RRef_writeAll_L5 fuel (rmk g t) (nI row) (nI count) 1 (nI k) = some ((wrM (g_Rdraft g).2 row d k t).1, rout g (wrM (g_Rdraft g).2 row d k t)) := by
  intro d
  induction d with
  | zero =>
    intro fuel t k hp hk hj hf
    obtain ⟨fu, rfl, -⟩ := fu1 hf
    have hw : m_RRef_write (rmk g t) (nI row) (nI 0) = _ := R_write (g := rmk g t) (row := row) (fr := 0) (by omega) rfl hd (by omega) hb hp
    have ho := wrS_ok (fun j => (g_Rdraft g).2 (0 + j)) (32 * row) 32 0 t
    rw [m_RRef_writeAll_L5]
    refine Eq.trans (if_pos (nI_le (by omega) (by omega))) ?_
    refine Eq.trans (if_neg e10) ?_
    refine Eq.trans (bs hw) ?_
    show (if (wrS (fun j => (g_Rdraft g).2 (0 + j)) (32 * row) 32 0 t).1 = 0 then some (0, rout g (wrS (fun j => (g_Rdraft g).2 (0 + j)) (32 * row) 32 0 t)) else some (1, rout g (wrS (fun j => (g_Rdraft g).2 (0 + j)) (32 * row) 32 0 t))) = _
    rw [wrM]
    rcases ho with h0 | h1
    · rw [if_pos h0, h0]
    · rw [if_neg (by rw [h1]; decide), h1]
  | succ d ih =>
    intro fuel t k hp hk hj hf
    obtain ⟨fu, rfl, hf'⟩ := fu1 hf
    have hw : m_RRef_write (rmk g t) (nI (row + k)) (nI (32 * k)) = _ := R_write (g := rmk g t) (row := row + k) (fr := 32 * k) (by omega) rfl hd (by omega) hb hp
    have ho := wrS_ok (fun j => (g_Rdraft g).2 (32 * k + j)) (32 * (row + k)) 32 0 t
    have hpw := wrS_pw (fun j => (g_Rdraft g).2 (32 * k + j)) (32 * (row + k)) 32 0 t hp
    rw [m_RRef_writeAll_L5, wrM]
    refine Eq.trans (if_neg (nI_ge (by omega) (by omega))) ?_
    refine Eq.trans (if_neg e10) ?_
    rw [nI_add, n32, pk_mul]
    refine Eq.trans (bs hw) ?_
    rw [nI_1]
    obtain ⟨q, hq⟩ : ∃ q, q = wrS (fun j => (g_Rdraft g).2 (32 * k + j)) (32 * (row + k)) 32 0 t := ⟨_, rfl⟩
    show m_RRef_writeAll_L5 fu (rout g (wrS (fun j => (g_Rdraft g).2 (32 * k + j)) (32 * (row + k)) 32 0 t)) (nI row) (nI count) (wrS (fun j => (g_Rdraft g).2 (32 * k + j)) (32 * (row + k)) 32 0 t).1 (nI (k + 1)) = _
    rw [← hq] at ho hpw ⊢
    rcases ho with h0 | h1
    · rw [if_pos h0]
      obtain ⟨fu2, rfl, -⟩ := fu1 (k := 0) (fuel := fu) (by omega)
      rw [m_RRef_writeAll_L5]
      by_cases hc2 : nI count ≤ nI (k + 1)
      · refine Eq.trans (if_pos hc2) ?_
        refine Eq.trans (if_pos h0) ?_
        rw [h0]
      · refine Eq.trans (if_neg hc2) ?_
        refine Eq.trans (if_pos h0) ?_
        refine Eq.trans (if_pos h0) ?_
        rw [h0]
    · rw [if_neg (by rw [h1]; decide), rout1 h1, h1]
      exact ih fu q.2 (k + 1) hpw (by omega) (by omega) (by omega)
theorem R_writeAll {g : St_Ref} (hm : (g_Rmedium g).1 = 16384) (hd : (g_Rdraft g).1 = 256) (hb : ∀ j, By ((g_Rdraft g).2 j)) {row count : Nat} (hc : 1 ≤ count ∧ count ≤ 7) (hr : row + count ≤ 512) (hp : Pw (g_RcutIn g)) : m_RRef_writeAll g (nI row) (nI count) = some ((wrM (g_Rdraft g).2 row (count - 1) 1 (rtri g)).1, rout g (wrM (g_Rdraft g).2 row (count - 1) 1 (rtri g))) := by
  have h := R_wA_L hd hb hc hr (count - 1) FU (rtri g) 1 hp (by omega) (by omega) (FU_lt (by omega))
  rw [← rmk_of hm] at h
  unfold m_RRef_writeAll
  rw [n1]
  exact h
-- THE REFERENCE'S DRAFT, cleared; rows taken back
def DR (g : St_Ref) : Prop := (g_Rdraft g).1 = 256 ∧ ∀ j, 256 ≤ j → (g_Rdraft g).2 j = 0
theorem n256 : (256 : Int32) = nI 256 := by decide +kernel
theorem R_clear_L (g : St_Ref) : ∀ (d fuel : Nat) (x : AI) (j : Nat), x.1 = 256 → (∀ t, 256 ≤ t ∨ t < j → x.2 t = 0) → j + d = 256 → d < fuel → m_RRef_clearDraft_L2 fuel (s_Rdraft g x) (nI j) = some (s_Rdraft g (256, fun _ => 0)) := by
  intro d
  induction d with
  | zero =>
    intro fuel x j hx hz hj hf
    obtain ⟨fu, rfl, -⟩ := fu1 hf
    rw [m_RRef_clearDraft_L2, n256, if_pos (nI_le (by omega) (by omega))]
    have : x = (256, fun _ => 0) := Prod.ext hx (funext fun t => hz t (by omega))
    rw [this]
  | succ d ih =>
    intro fuel x j hx hz hj hf
    obtain ⟨fu, rfl, hf'⟩ := fu1 hf
    rw [m_RRef_clearDraft_L2, n256]
    refine Eq.trans (if_neg (nI_ge (by omega) (by omega))) ?_
    have i1 : ¬ (nI j < 0 ∨ (g_Rdraft (s_Rdraft g x)).1 ≤ (nI j).toNatClampNeg) := by
      show ¬ (nI j < 0 ∨ x.1 ≤ (nI j).toNatClampNeg)
      rw [hx]; exact nI_in (by omega) (by omega)
    refine Eq.trans (if_neg i1) ?_
    rw [nI_1, nI_clamp (by omega)]
    refine ih fu (x.1, upd x.2 j (vp_nar .byte 0)) (j + 1) hx (fun t ht => ?_) (by omega) (by omega)
    show (if t = j then vp_nar .byte 0 else x.2 t) = 0
    split
    · decide +kernel
    · exact hz t (by omega)
theorem R_clear {g : St_Ref} (h : DR g) : m_RRef_clearDraft g = some (s_Rdraft g (256, fun _ => 0)) := by
  unfold m_RRef_clearDraft
  rw [n0]
  exact R_clear_L g 256 FU (g_Rdraft g) 0 h.1 (fun t ht => h.2 t (by omega)) (by omega) (FU_lt (by omega))
theorem R_tB_L {g : St_Ref} (hd : g_Rdraft g = (256, fun _ => 0)) {row count : Nat} (hr : row + count ≤ 512) : ∀ (d fuel : Nat) (t : T3) (k : Nat), Pw t.2.1 → k + d = count → d < fuel → m_RRef_takeBack_L9 fuel (rmk g t) (nI row) (nI count) 1 (nI k) = some ((wrZ row d k t).1, rout g (wrZ row d k t)) := by
  intro d
  induction d with
  | zero =>
    intro fuel t k hp hj hf
    obtain ⟨fu, rfl, -⟩ := fu1 hf
    rw [m_RRef_takeBack_L9]
    refine Eq.trans (if_pos (nI_le (by omega) (by omega))) ?_
    exact if_neg e11
  | succ d ih =>
    intro fuel t k hp hj hf
    obtain ⟨fu, rfl, hf'⟩ := fu1 hf
    have hw : m_RRef_write (rmk g t) (nI (row + k)) (nI 0) = _ := R_write (g := rmk g t) (row := row + k) (fr := 0) (by omega) rfl (by show (g_Rdraft g).1 = 256; rw [hd]) (by omega) (by intro j; show By ((g_Rdraft g).2 j); rw [hd]; exact By0) hp
    have hs : (fun j => (g_Rdraft (rmk g t)).2 (0 + j)) = fun _ => (0 : Int32) := by
      funext j
      show (g_Rdraft g).2 (0 + j) = 0
      rw [hd]
    rw [hs] at hw
    have ho := wrS_ok (fun _ => 0) (32 * (row + k)) 32 0 t
    have hpw := wrS_pw (fun _ => 0) (32 * (row + k)) 32 0 t hp
    rw [m_RRef_takeBack_L9, wrZ]
    refine Eq.trans (if_neg (nI_ge (by omega) (by omega))) ?_
    refine Eq.trans (if_neg e10) ?_
    rw [nI_add]
    refine Eq.trans (bs hw) ?_
    rw [nI_1]
    obtain ⟨q, hq⟩ : ∃ q, q = wrS (fun _ => 0) (32 * (row + k)) 32 0 t := ⟨_, rfl⟩
    show m_RRef_takeBack_L9 fu (rout g (wrS (fun _ => 0) (32 * (row + k)) 32 0 t)) (nI row) (nI count) (wrS (fun _ => 0) (32 * (row + k)) 32 0 t).1 (nI (k + 1)) = _
    rw [← hq] at ho hpw ⊢
    rcases ho with h0 | h1
    · rw [if_pos h0]
      obtain ⟨fu2, rfl, -⟩ := fu1 (k := 0) (fuel := fu) (by omega)
      rw [m_RRef_takeBack_L9]
      by_cases hc2 : nI count ≤ nI (k + 1)
      · refine Eq.trans (if_pos hc2) ?_
        exact if_neg (ok01 (Or.inl h0))
      · refine Eq.trans (if_neg hc2) ?_
        refine Eq.trans (if_pos h0) ?_
        exact if_neg (ok01 (Or.inl h0))
    · rw [if_neg (by rw [h1]; decide), rout1 h1, h1]
      exact ih fu q.2 (k + 1) hpw (by omega) (by omega)
theorem R_takeBack {g : St_Ref} (h : DR g) (hm : (g_Rmedium g).1 = 16384) {row count : Nat} (hr : row + count ≤ 512) (hp : Pw (g_RcutIn g)) : m_RRef_takeBack g (nI row) (nI count) = some ((wrZ row count 0 (rtri g)).1, rout (s_Rdraft g (256, fun _ => 0)) (wrZ row count 0 (rtri g))) := by
  have k := R_tB_L (g := s_Rdraft g (256, fun _ => 0)) rfl hr count FU (rtri g) 0 hp (by omega) (FU_lt (by omega))
  have e : rmk (s_Rdraft g (256, fun _ => 0)) (rtri g) = s_Rdraft g (256, fun _ => 0) := (rmk_of (g := s_Rdraft g (256, fun _ => 0)) hm).symm
  rw [e] at k
  unfold m_RRef_takeBack
  refine Eq.trans (bs (R_clear h)) ?_
  rw [n0]
  exact k
-- WHAT IS DRAWN
def BBe (N : Nat) (x : St_Bytes) : Prop := ∃ s, BB N x s
theorem Be_at {N : Nat} {x : St_Bytes} (h : BBe N x) (hN : N < 2 ^ 31) {i : Nat} (hi : i < N) : m_Bytes_at x (nI i) = some (x.1.2 i &&& 255) := by
  obtain ⟨s, h⟩ := h
  exact B_at h hN hi
theorem Be_put {N i K : Nat} {x : St_Bytes} (h : BBe N x) (hN : N < 2 ^ 31) (hK : 1 ≤ K ∧ K ≤ 8) (hi : i + K ≤ N) (v : Int64) : ∃ x', m_Bytes_put x (nI i) v (nI K) = some x' ∧ x'.1.2 = pF x.1.2 i K v ∧ BBe N x' := by
  obtain ⟨s, h⟩ := h
  obtain ⟨x', h1, h2, h3⟩ := B_put h hN hK hi v
  exact ⟨x', h1, h2, _, h3⟩
theorem Be_clear {N : Nat} {x : St_Bytes} (h : BBe N x) (hN : N < 1048576) : m_Bytes_clear x = some ((N, fun _ => 0), 0) ∧ BBe N ((N, fun _ => 0), 0) := by
  obtain ⟨s, h⟩ := h
  exact ⟨B_clear h hN, 0, rfl, rfl, by omega, fun _ _ => rfl⟩
theorem Be_dig {N : Nat} {x : St_Bytes} (h : BBe N x) (hN : N < 1048576) {a b : Nat} (hab : a ≤ b) (hb : b ≤ N) : m_Bytes_digest x (nI a) (nI b) = some (digF x.1.2 a (b - a)) := by
  obtain ⟨s, h⟩ := h
  exact B_dig h hN hab hb
theorem ush0 (v : Int64) : jlushr v (nI 0) = v := by
  have h := (jr8 v 0 (by omega)).2
  rw [Nat.mul_zero] at h
  apply Int64.toBitVec_inj.mp
  rw [h]
  simp
theorem pF1 (f : Nat → Int32) (i : Nat) (v : Int64) : pF f i 1 v = upd f i (bv v) := by
  funext t
  unfold pF upd
  by_cases h : t = i
  · subst h
    rw [if_pos (by omega), if_pos rfl, show 8 * (1 - 1 - (t - t)) = 0 by omega, ush0]
  · rw [if_neg (by omega), if_neg h]
theorem bv_i (x : Int32) : bv x.toInt64 = vp_nar .byte (x.toInt8.toInt32) := by
  unfold bv
  rw [Int32.toInt32_toInt64]
theorem bv_255 {c : Int32} (h : By c) : bv ((c &&& 255).toInt64) = c := by
  rw [bv_i]; exact h.back
def bod (len : Nat) : Nat := (len + 30) / 31
def idx (j : Nat) : Nat := 31 * (j / 32 - 1) + (j % 32 - 1)
/-- i bytes of a PART in their BODIES, the rows 1 .. b - 1 begun -/
def bodyF (tp : Nat → Int32) (fr i b : Nat) : Nat → Int32 := fun j => if j % 32 = 0 then (if 1 ≤ j / 32 ∧ j / 32 < b then 5 else 0) else if 32 ≤ j ∧ idx j < i then tp (fr + idx j) else 0
theorem bodyF_b (tp : Nat → Int32) (fr i b : Nat) (hb : 1 ≤ b) : upd (bodyF tp fr i b) (32 * b) 5 = bodyF tp fr i (b + 1) := by
  funext j
  unfold upd bodyF
  by_cases h : j = 32 * b
  · subst h
    rw [if_pos rfl, if_pos (by omega), if_pos (by omega)]
  · rw [if_neg h]
    by_cases h2 : j % 32 = 0
    · rw [if_pos h2, if_pos h2]
      by_cases h3 : 1 ≤ j / 32 ∧ j / 32 < b
      · rw [if_pos h3, if_pos (by omega)]
      · rw [if_neg h3, if_neg (by omega)]
    · rw [if_neg h2, if_neg h2]
theorem bodyF_i (tp : Nat → Int32) (fr i b : Nat) : upd (bodyF tp fr i b) (32 * (1 + i / 31) + 1 + i % 31) (tp (fr + i)) = bodyF tp fr (i + 1) b := by
  funext j
  unfold upd bodyF
  by_cases h : j = 32 * (1 + i / 31) + 1 + i % 31
  · have hi : idx j = i := by unfold idx; omega
    rw [if_pos h, if_neg (by omega), if_pos (by omega), hi]
  · rw [if_neg h]
    by_cases h2 : j % 32 = 0
    · rw [if_pos h2, if_pos h2]
    · rw [if_neg h2, if_neg h2]
      by_cases h3 : 32 ≤ j ∧ idx j < i
      · rw [if_pos h3, if_pos (by omega)]
      · have h4 : ¬ (32 ≤ j ∧ idx j < i + 1) := by
          unfold idx at h3 ⊢
          omega
        rw [if_neg h3, if_neg h4]
theorem bodyF0 (tp : Nat → Int32) (fr : Nat) : (fun _ => (0 : Int32)) = bodyF tp fr 0 1 := by
  funext j
  unfold bodyF
  by_cases h2 : j % 32 = 0
  · rw [if_pos h2, if_neg (by omega)]
  · rw [if_neg h2, if_neg (by omega)]
/-- a PART's rows, as they are written -/
def partImg (body : Nat → Int32) (len : Nat) (num grp : Int32) (pos : Int64) : Nat → Int32 :=
  pF (pF (pF (pF (pF (pF (pF body 0 1 1) 1 1 grp.toInt64) 2 2 (nI len).toInt64) 4 4 num.toInt64) 8 8 pos) 16 8 (digF (pF (pF (pF (pF (pF body 0 1 1) 1 1 grp.toInt64) 2 2 (nI len).toInt64) 4 4 num.toInt64) 8 8 pos) 32 (32 * bod len))) 24 8 (digF (pF (pF (pF (pF (pF (pF body 0 1 1) 1 1 grp.toInt64) 2 2 (nI len).toInt64) 4 4 num.toInt64) 8 8 pos) 16 8 (digF (pF (pF (pF (pF (pF body 0 1 1) 1 1 grp.toInt64) 2 2 (nI len).toInt64) 4 4 num.toInt64) 8 8 pos) 32 (32 * bod len))) 0 24)
theorem C_drawSum {g : St_Log} {im : St_Bytes} (him : g_image g = im) (h : BBe 224 im) : ∃ im', m_Log_drawSum g = some (s_image g im') ∧ im'.1.2 = pF im.1.2 24 8 (digF im.1.2 0 24) ∧ BBe 224 im' := by
  obtain ⟨x', h1, h2, h3⟩ := Be_put h (by omega) (i := 24) (K := 8) (by omega) (by omega) (digF im.1.2 0 24)
  refine ⟨x', ?_, h2, h3⟩
  unfold m_Log_drawSum
  rw [him]
  refine Eq.trans (bs (show m_Bytes_digest im 0 24 = some (digF im.1.2 0 24) from Be_dig h (by omega) (a := 0) (b := 24) (by omega) (by omega))) ?_
  refine Eq.trans (bs (show m_Bytes_put im 24 (digF im.1.2 0 24) 8 = some x' from h1)) ?_
  rfl
theorem C_bodiesOf {len : Nat} (h : len < 2 ^ 30) : m_Log_bodiesOf (nI len) = some (nI (bod len)) := by
  unfold m_Log_bodiesOf bod
  rw [show (31 : Int32) = nI 31 by decide +kernel, nI_add, n1, pk_sub (by omega), pk_div (by omega) (by omega) (by omega), show len + 31 - 1 = len + 30 by omega]
theorem C_rowsOfPart {len : Nat} (h : len < 2 ^ 30) : m_Log_rowsOfPart (nI len) = some (nI (1 + bod len)) := by
  unfold m_Log_rowsOfPart
  rw [bs (C_bodiesOf h), n1, nI_add]
-- A PART IS DRAWN, AND WRITTEN
theorem n31 : (31 : Int32) = nI 31 := by decide +kernel
theorem posn {i : Nat} (hi : i < 2 ^ 20) : (((32 * (1 + (nI i / 31))) + 1) + (jrem (nI i) 31)) = nI (32 * (1 + i / 31) + 1 + i % 31) := by
  unfold jrem
  rw [n31, pk_rem (by omega) (by omega) (by omega), pk_div (by omega) (by omega) (by omega), n1, nI_add, n32, pk_mul, nI_add, nI_add]
theorem bv5 : bv 5 = 5 := by decide +kernel
theorem C_dP_L {g : St_Log} {tape : St_Bytes} (ht : g_tape g = tape) (hT : BBe 2000 tape) (hby : ∀ j, By (tape.1.2 j)) {fr len B : Nat} (hl : len ≤ 155) (hfr : fr + len ≤ 2000) (num grp : Int32) (pos : Int64) : ∀ (d fuel : Nat) (im : St_Bytes) (i : Nat), BBe 224 im → im.1.2 = bodyF tape.1.2 fr i B → i + d = len → d < fuel → ∃ im', m_Log_drawPart_L45 fuel (s_image g im) num grp pos (nI fr) (nI len) (nI i) = some (s_image g im') ∧ im'.1.2 = partImg (bodyF tape.1.2 fr len B) len num grp pos ∧ BBe 224 im' := by
  intro d
  induction d with
  | zero =>
    intro fuel im i hI hc hj hf
    obtain ⟨fu, rfl, -⟩ := fu1 hf
    have hb6 : bod len ≤ 5 := by unfold bod; omega
    have hie : i = len := by omega
    subst hie
    obtain ⟨y5, p5, c5, b5⟩ := Be_put hI (by omega) (i := 0) (K := 1) (by omega) (by omega) 1
    obtain ⟨y6, p6, c6, b6⟩ := Be_put b5 (by omega) (i := 1) (K := 1) (by omega) (by omega) grp.toInt64
    obtain ⟨y7, p7, c7, b7⟩ := Be_put b6 (by omega) (i := 2) (K := 2) (by omega) (by omega) (nI i).toInt64
    obtain ⟨y8, p8, c8, b8⟩ := Be_put b7 (by omega) (i := 4) (K := 4) (by omega) (by omega) num.toInt64
    obtain ⟨y9, p9, c9, b9⟩ := Be_put b8 (by omega) (i := 8) (K := 8) (by omega) (by omega) pos
    have d1 : m_Bytes_digest y9 32 (32 * nI (1 + bod i)) = some (digF y9.1.2 32 (32 * bod i)) := by
      rw [n32, pk_mul]
      have h := Be_dig b9 (by omega) (a := 32) (b := 32 * (1 + bod i)) (by omega) (by omega)
      rw [show 32 * (1 + bod i) - 32 = 32 * bod i by omega] at h
      exact h
    obtain ⟨y12, p12, c12, b12⟩ := Be_put b9 (by omega) (i := 16) (K := 8) (by omega) (by omega) (digF y9.1.2 32 (32 * bod i))
    obtain ⟨im', s1, s2, s3⟩ := C_drawSum (g := s_image g y12) (im := y12) rfl b12
    refine ⟨im', ?_, ?_, s3⟩
    · rw [m_Log_drawPart_L45]
      refine Eq.trans (if_pos (nI_le (by omega) (by omega))) ?_
      simp only [q_image, ss_image]
      refine Eq.trans (bs p5) ?_
      refine Eq.trans (bs p6) ?_
      refine Eq.trans (bs p7) ?_
      refine Eq.trans (bs p8) ?_
      refine Eq.trans (bs p9) ?_
      refine Eq.trans (bs (C_rowsOfPart (by omega))) ?_
      refine Eq.trans (bs d1) ?_
      refine Eq.trans (bs p12) ?_
      refine Eq.trans (bs s1) ?_
      rfl
    · rw [s2, c12, c9, c8, c7, c6, c5, hc]; rfl
  | succ d ih =>
    intro fuel im i hI hc hj hf
    obtain ⟨fu, rfl, hf'⟩ := fu1 hf
    obtain ⟨x', h1, h2, h3⟩ := Be_put hI (by omega) (i := 32 * (1 + i / 31) + 1 + i % 31) (K := 1) (by omega) (by omega) ((tape.1.2 (fr + i) &&& 255).toInt64)
    rw [m_Log_drawPart_L45]
    simp only [q_image, q_tape, ss_image, ht]
    rw [posn (by omega), nI_add]
    rw [if_neg (nI_ge (show i < len by omega) (by omega)), bs (Be_at hT (by omega) (by omega)), bs (show m_Bytes_put im (nI (32 * (1 + i / 31) + 1 + i % 31)) ((tape.1.2 (fr + i) &&& 255).toInt64) 1 = some x' from h1), nI_1]
    exact ih fu x' (i + 1) h3 (by rw [h2, pF1, bv_255 (hby _), hc, bodyF_i]) (by omega) (by omega)
theorem C_dP_L2 {g : St_Log} {tape : St_Bytes} (ht : g_tape g = tape) (hT : BBe 2000 tape) (hby : ∀ j, By (tape.1.2 j)) {fr len : Nat} (hl : len ≤ 155) (hfr : fr + len ≤ 2000) (num grp : Int32) (pos : Int64) : ∀ (d fuel : Nat) (im : St_Bytes) (k : Nat), BBe 224 im → im.1.2 = bodyF tape.1.2 fr 0 k → 1 ≤ k → k + d = bod len + 1 → d < fuel → ∃ im', m_Log_drawPart_L10 fuel (s_image g im) num grp pos (nI fr) (nI len) (nI k) = some (s_image g im') ∧ im'.1.2 = partImg (bodyF tape.1.2 fr len (bod len + 1)) len num grp pos ∧ BBe 224 im' := by
  have hb6 : bod len ≤ 5 := by unfold bod; omega
  intro d
  induction d with
  | zero =>
    intro fuel im k hI hc hk hj hf
    obtain ⟨fu, rfl, -⟩ := fu1 hf
    obtain ⟨im', h1, h2, h3⟩ := C_dP_L ht hT hby hl hfr num grp pos len FU im 0 (B := bod len + 1) hI (by rw [hc, show k = bod len + 1 by omega]) (by omega) (FU_lt (by omega))
    refine ⟨im', ?_, h2, h3⟩
    rw [m_Log_drawPart_L10]
    refine Eq.trans (bs (C_bodiesOf (by omega))) ?_
    refine Eq.trans (if_pos (nI_lt (by omega) (by omega))) ?_
    exact h1
  | succ d ih =>
    intro fuel im k hI hc hk hj hf
    obtain ⟨fu, rfl, hf'⟩ := fu1 hf
    obtain ⟨x', h1, h2, h3⟩ := Be_put hI (by omega) (i := 32 * k) (K := 1) (by omega) (by omega) 5
    obtain ⟨im', i1, i2, i3⟩ := ih fu x' (k + 1) h3 (by rw [h2, pF1, bv5, hc, bodyF_b _ _ _ _ hk]) (by omega) (by omega) (by omega)
    refine ⟨im', ?_, i2, i3⟩
    rw [m_Log_drawPart_L10]
    refine Eq.trans (bs (C_bodiesOf (by omega))) ?_
    refine Eq.trans (if_neg (nI_nlt (by omega) (by omega))) ?_
    simp only [q_image, ss_image]
    rw [n32, pk_mul, Nat.mul_comm k 32]
    refine Eq.trans (bs (show m_Bytes_put im (nI (32 * k)) 5 1 = some x' from h1)) ?_
    rw [nI_1]
    exact i1
theorem C_drawPart {g : St_Log} {tape : St_Bytes} (ht : g_tape g = tape) (hT : BBe 2000 tape) (hby : ∀ j, By (tape.1.2 j)) (hI : BBe 224 (g_image g)) {fr len : Nat} (hl : len ≤ 155) (hfr : fr + len ≤ 2000) (num grp : Int32) (pos : Int64) : ∃ im', m_Log_drawPart g num grp pos (nI fr) (nI len) = some (s_image g im') ∧ im'.1.2 = partImg (bodyF tape.1.2 fr len (bod len + 1)) len num grp pos ∧ BBe 224 im' := by
  have hb6 : bod len ≤ 5 := by unfold bod; omega
  obtain ⟨e1, e2⟩ := Be_clear hI (by omega)
  obtain ⟨im', h1, h2, h3⟩ := C_dP_L2 ht hT hby hl hfr num grp pos (bod len) FU ((224, fun _ => 0), 0) 1 e2 (bodyF0 _ _) (by omega) (by omega) (FU_lt (by omega))
  refine ⟨im', ?_, h2, h3⟩
  unfold m_Log_drawPart
  refine Eq.trans (bs e1) ?_
  rw [n1]
  exact h1
theorem By_body {tp : Nat → Int32} (h : ∀ j, By (tp j)) (fr i b : Nat) : ∀ j, By (bodyF tp fr i b j) := by
  intro j
  unfold bodyF
  split
  · split
    · unfold By; decide
    · exact By0
  · split
    · exact h _
    · exact By0
theorem By_part {body : Nat → Int32} (h : ∀ j, By (body j)) (len : Nat) (num grp : Int32) (pos : Int64) : ∀ j, By (partImg body len num grp pos j) := by
  unfold partImg
  exact By_pF (By_pF (By_pF (By_pF (By_pF (By_pF (By_pF h _ _ _) _ _ _) _ _ _) _ _ _) _ _ _) _ _ _) _ _ _
theorem pF_hi {f : Nat → Int32} {i K : Nat} {v : Int64} {j : Nat} (h : i + K ≤ j) : pF f i K v j = f j := by
  unfold pF
  rw [if_neg (by omega)]
theorem part_hi (tp : Nat → Int32) (fr : Nat) {len : Nat} (hl : len ≤ 155) (num grp : Int32) (pos : Int64) {j : Nat} (hj : 224 ≤ j) : partImg (bodyF tp fr len (bod len + 1)) len num grp pos j = 0 := by
  have hb6 : bod len ≤ 5 := by unfold bod; omega
  unfold partImg
  rw [pF_hi (by omega), pF_hi (by omega), pF_hi (by omega), pF_hi (by omega), pF_hi (by omega), pF_hi (by omega), pF_hi (by omega)]
  unfold bodyF
  split
  · rw [if_neg (by omega)]
  · rw [if_neg (by unfold idx; omega)]
-- the reference
theorem R_bodies {len : Nat} (h : len < 2 ^ 30) : m_RRef_bodies (nI len) = some (nI (bod len)) := by
  unfold m_RRef_bodies bod
  rw [show (30 : Int32) = nI 30 by decide +kernel, n31, nI_add, pk_div (by omega) (by omega) (by omega)]
theorem R_sumDraft {g : St_Ref} {f : Nat → Int32} (hd : g_Rdraft g = (256, f)) : m_RRef_sumDraft g = some (s_Rdraft g (256, pF f 24 8 (digF f 0 24))) := by
  unfold m_RRef_sumDraft
  rw [hd]
  refine Eq.trans (bs (show m_RRef_digest (256, f) 0 24 = some (digF f 0 24) from r_digest (x := (256, f)) (a := 0) (K := 24) (by show 0 + 24 ≤ 256; omega) (by show 256 < 2 ^ 31; omega) (by omega))) ?_
  refine Eq.trans (bs (show m_RRef_put (256, f) 24 8 (digF f 0 24) = some (256, pF f 24 8 (digF f 0 24)) from R_put (x := (256, f)) (i := 24) (K := 8) (by show 256 < 2 ^ 31; omega) (by omega) (by show 24 + 8 ≤ 256; omega) _)) ?_
  rfl
/-- a PART more is known -/
def rpush (G : St_Ref) (grp : Int32) (pos : Int64) (len row : Int32) : St_Ref := s_Rparts (s_RpRow (s_RpLength (s_RpPosition (s_RpGroup (s_RpNumber (s_RlastPart G ((g_RlastPart G) + 1)) ((g_RpNumber G).1, upd (g_RpNumber G).2 ((g_Rparts G)).toNatClampNeg ((g_RlastPart G) + 1))) ((g_RpGroup G).1, upd (g_RpGroup G).2 ((g_Rparts G)).toNatClampNeg grp)) ((g_RpPosition G).1, vp_updL (g_RpPosition G).2 ((g_Rparts G)).toNatClampNeg pos)) ((g_RpLength G).1, upd (g_RpLength G).2 ((g_Rparts G)).toNatClampNeg len)) ((g_RpRow G).1, upd (g_RpRow G).2 ((g_Rparts G)).toNatClampNeg row)) ((g_Rparts G) + 1)
/-- room for one PART more in the reference's tables -/
def rroom (g : St_Ref) : Prop := ∃ P : Nat, g_Rparts g = nI P ∧ P < 520 ∧ (g_RpNumber g).1 = 520 ∧ (g_RpGroup g).1 = 520 ∧ (g_RpPosition g).1 = 520 ∧ (g_RpLength g).1 = 520 ∧ (g_RpRow g).1 = 520
theorem rroom_rout {g : St_Ref} {x : AI} (h : rroom g) (q : Int32 × T3) : rroom (rout (s_Rdraft g x) q) := by
  unfold rout
  split <;> exact h
theorem R_wP54 {g : St_Ref} (hroom : rroom g) (hm : (g_Rmedium g).1 = 16384) (hp : Pw (g_RcutIn g)) {tp : Nat → Int32} (hby : ∀ j, By (tp j)) {fr len row : Nat} (hl : len ≤ 155) (hr : row + 1 + bod len ≤ 512) (grp : Int32) (pos : Int64) : ∀ (d fuel : Nat) (k : Nat), 1 ≤ k → k + d = bod len + 1 → d < fuel → m_RRef_writePart_tape_L54 fuel (s_Rdraft g (256, bodyF tp fr len k)) grp pos (nI len) (nI row) (nI k) = some (if (wrM (partImg (bodyF tp fr len (bod len + 1)) len (g_RlastPart g + 1) grp pos) row (bod len) 1 (rtri g)).1 = 0 then ((-5), rout (s_Rdraft g (256, partImg (bodyF tp fr len (bod len + 1)) len (g_RlastPart g + 1) grp pos)) (wrM (partImg (bodyF tp fr len (bod len + 1)) len (g_RlastPart g + 1) grp pos) row (bod len) 1 (rtri g))) else (g_RlastPart g + 1, rpush (rout (s_Rdraft g (256, partImg (bodyF tp fr len (bod len + 1)) len (g_RlastPart g + 1) grp pos)) (wrM (partImg (bodyF tp fr len (bod len + 1)) len (g_RlastPart g + 1) grp pos) row (bod len) 1 (rtri g))) grp pos (nI len) (nI row))) := by
  have hb6 : bod len ≤ 5 := by unfold bod; omega
  intro d
  induction d with
  | zero =>
    intro fuel k hk hj hf
    obtain ⟨fu, rfl, -⟩ := fu1 hf
    have hke : k = bod len + 1 := by omega
    subst hke
    obtain ⟨F, hF⟩ : ∃ F, F = bodyF tp fr len (bod len + 1) := ⟨_, rfl⟩
    rw [← hF]
    have hFb : ∀ j, By (F j) := by rw [hF]; exact By_body hby _ _ _
    have hw := R_writeAll (g := s_Rdraft g (256, partImg F len (g_RlastPart g + 1) grp pos)) hm rfl (By_part hFb _ _ _ _) (row := row) (count := 1 + bod len) (by omega) (by omega) hp
    obtain ⟨q, hq⟩ : ∃ q, q = wrM (partImg F len (g_RlastPart g + 1) grp pos) row (bod len) 1 (rtri g) := ⟨_, rfl⟩
    have hw2 : m_RRef_writeAll (s_Rdraft g (256, partImg F len (g_RlastPart g + 1) grp pos)) (nI row) (nI (1 + bod len)) = some (q.1, rout (s_Rdraft g (256, partImg F len (g_RlastPart g + 1) grp pos)) q) := by
      rw [hq]
      rw [show 1 + bod len - 1 = bod len by omega] at hw
      exact hw
    rw [← hq]
    obtain ⟨f5, hf5⟩ : ∃ f5, f5 = pF (pF (pF (pF (pF F 0 1 1) 1 1 grp.toInt64) 2 2 (nI len).toInt64) 4 4 (g_RlastPart g + 1).toInt64) 8 8 pos := ⟨_, rfl⟩
    have u0 : upd (upd F (0 : Int32).toNatClampNeg (vp_nar .byte 1)) (1 : Int32).toNatClampNeg (vp_nar .byte (grp.toInt8.toInt32)) = pF (pF F 0 1 1) 1 1 grp.toInt64 := by
      rw [pF1, pF1, bv_i]; rfl
    have d1 : m_RRef_digest (256, f5) 32 (32 * nI (bod len)) = some (digF f5 32 (32 * bod len)) := by
      rw [n32, pk_mul]
      exact r_digest (x := (256, f5)) (by show 32 + 32 * bod len ≤ 256; omega) (by show 256 < 2 ^ 31; omega) (by omega)
    have s1 := R_sumDraft (g := s_Rdraft g (256, pF f5 16 8 (digF f5 32 (32 * bod len)))) rfl
    rw [m_RRef_writePart_tape_L54]
    refine Eq.trans (bs (R_bodies (by omega))) ?_
    refine Eq.trans (if_pos (nI_lt (by omega) (by omega))) ?_
    simp only [qR_draft, sr_draft, qR_lastPart]
    rw [u0]
    refine Eq.trans (if_neg (by decide)) ?_
    refine Eq.trans (if_neg (by decide)) ?_
    refine Eq.trans (bs (show m_RRef_put (256, pF (pF F 0 1 1) 1 1 grp.toInt64) 2 2 (nI len).toInt64 = _ from R_put (x := (256, pF (pF F 0 1 1) 1 1 grp.toInt64)) (i := 2) (K := 2) (by show 256 < 2 ^ 31; omega) (by omega) (by show 2 + 2 ≤ 256; omega) _)) ?_
    refine Eq.trans (bs (show m_RRef_put (256, pF (pF (pF F 0 1 1) 1 1 grp.toInt64) 2 2 (nI len).toInt64) 4 4 (g_RlastPart g + 1).toInt64 = _ from R_put (x := (256, pF (pF (pF F 0 1 1) 1 1 grp.toInt64) 2 2 (nI len).toInt64)) (i := 4) (K := 4) (by show 256 < 2 ^ 31; omega) (by omega) (by show 4 + 4 ≤ 256; omega) _)) ?_
    refine Eq.trans (bs (show m_RRef_put (256, pF (pF (pF (pF F 0 1 1) 1 1 grp.toInt64) 2 2 (nI len).toInt64) 4 4 (g_RlastPart g + 1).toInt64) 8 8 pos = _ from R_put (x := (256, pF (pF (pF (pF F 0 1 1) 1 1 grp.toInt64) 2 2 (nI len).toInt64) 4 4 (g_RlastPart g + 1).toInt64)) (i := 8) (K := 8) (by show 256 < 2 ^ 31; omega) (by omega) (by show 8 + 8 ≤ 256; omega) _)) ?_
    simp only
    rw [← hf5]
    refine Eq.trans (bs (R_bodies (by omega))) ?_
    refine Eq.trans (bs d1) ?_
    refine Eq.trans (bs (show m_RRef_put (256, f5) 16 8 (digF f5 32 (32 * bod len)) = _ from R_put (x := (256, f5)) (i := 16) (K := 8) (by show 256 < 2 ^ 31; omega) (by omega) (by show 16 + 8 ≤ 256; omega) _)) ?_
    simp only [sr_draft]
    refine Eq.trans (bs s1) ?_
    refine Eq.trans (bs (R_bodies (by omega))) ?_
    rw [n1, nI_add]
    simp only [sr_draft]
    have hP : pF (pF f5 16 8 (digF f5 32 (32 * bod len))) 24 8 (digF (pF f5 16 8 (digF f5 32 (32 * bod len))) 0 24) = partImg F len (g_RlastPart g + nI 1) grp pos := by
      rw [hf5]; rfl
    rw [hP]
    rw [n1] at hw2
    refine Eq.trans (bs hw2) ?_
    obtain ⟨G, hG⟩ : ∃ G, G = rout (s_Rdraft g (256, partImg F len (g_RlastPart g + nI 1) grp pos)) q := ⟨_, rfl⟩
    have hGl : g_RlastPart G = g_RlastPart g := by
      rw [hG]
      unfold rout
      split <;> rfl
    have hGr : rroom G := by rw [hG]; exact rroom_rout hroom q
    simp only
    rw [← hG]
    by_cases h0 : q.1 = 0
    · rw [if_pos h0, if_pos h0]
    · rw [if_neg h0, if_neg h0]
      obtain ⟨P, z0, z1, z2, z3, z4, z5, z6⟩ := hGr
      have i0 : ∀ N : Nat, N = 520 → ¬ (g_Rparts G < 0 ∨ N ≤ (g_Rparts G).toNatClampNeg) := by
        intro N hN
        rw [hN, z0]; exact nI_in z1 (by omega)
      refine Eq.trans (if_neg (i0 _ z2)) ?_
      refine Eq.trans (if_neg (i0 _ z3)) ?_
      refine Eq.trans (if_neg (i0 _ z4)) ?_
      refine Eq.trans (if_neg (i0 _ z5)) ?_
      refine Eq.trans (if_neg (i0 _ z6)) ?_
      rw [← hGl]
      rfl
  | succ d ih =>
    intro fuel k hk hj hf
    obtain ⟨fu, rfl, hf'⟩ := fu1 hf
    rw [m_RRef_writePart_tape_L54]
    refine Eq.trans (bs (R_bodies (by omega))) ?_
    refine Eq.trans (if_neg (nI_nlt (by omega) (by omega))) ?_
    simp only [qR_draft, sr_draft]
    rw [n32, pk_mul]
    refine Eq.trans (if_neg (nI_in (show 32 * k < 256 by omega) (by omega))) ?_
    rw [nI_1, nI_clamp (by omega), show vp_nar .byte 5 = 5 by decide +kernel, bodyF_b _ _ _ _ hk]
    exact ih fu (k + 1) (by omega) (by omega) (by omega)
theorem R_wP7 {g : St_Ref} (hroom : rroom g) (hm : (g_Rmedium g).1 = 16384) (hp : Pw (g_RcutIn g)) {tp : Nat → Int32} (ht : g_Rtape g = (2000, tp)) (hby : ∀ j, By (tp j)) {fr len row : Nat} (hl : len ≤ 155) (hfr : fr + len ≤ 2000) (hr : row + 1 + bod len ≤ 512) (grp : Int32) (pos : Int64) : ∀ (d fuel : Nat) (i : Nat), i + d = len → d < fuel → m_RRef_writePart_tape_L7 fuel (s_Rdraft g (256, bodyF tp fr i 1)) grp pos (nI fr) (nI len) (nI row) (nI i) = some (if (wrM (partImg (bodyF tp fr len (bod len + 1)) len (g_RlastPart g + 1) grp pos) row (bod len) 1 (rtri g)).1 = 0 then ((-5), rout (s_Rdraft g (256, partImg (bodyF tp fr len (bod len + 1)) len (g_RlastPart g + 1) grp pos)) (wrM (partImg (bodyF tp fr len (bod len + 1)) len (g_RlastPart g + 1) grp pos) row (bod len) 1 (rtri g))) else (g_RlastPart g + 1, rpush (rout (s_Rdraft g (256, partImg (bodyF tp fr len (bod len + 1)) len (g_RlastPart g + 1) grp pos)) (wrM (partImg (bodyF tp fr len (bod len + 1)) len (g_RlastPart g + 1) grp pos) row (bod len) 1 (rtri g))) grp pos (nI len) (nI row))) := by
  have hb6 : bod len ≤ 5 := by unfold bod; omega
  intro d
  induction d with
  | zero =>
    intro fuel i hj hf
    obtain ⟨fu, rfl, -⟩ := fu1 hf
    have hie : i = len := by omega
    subst hie
    rw [m_RRef_writePart_tape_L7]
    refine Eq.trans (if_pos (nI_le (by omega) (by omega))) ?_
    rw [n1]
    exact R_wP54 hroom hm hp hby hl hr grp pos (bod i) FU 1 (by omega) (by omega) (FU_lt (by omega))
  | succ d ih =>
    intro fuel i hj hf
    obtain ⟨fu, rfl, hf'⟩ := fu1 hf
    rw [m_RRef_writePart_tape_L7]
    refine Eq.trans (if_neg (nI_ge (by omega) (by omega))) ?_
    simp only [qR_draft, sr_draft, qR_tape, ht]
    rw [posn (by omega), nI_add]
    refine Eq.trans (if_neg (nI_in (show fr + i < 2000 by omega) (by omega))) ?_
    refine Eq.trans (if_neg (nI_in (show 32 * (1 + i / 31) + 1 + i % 31 < 256 by omega) (by omega))) ?_
    rw [nI_1, nI_clamp (show fr + i < 2 ^ 31 by omega), nI_clamp (show 32 * (1 + i / 31) + 1 + i % 31 < 2 ^ 31 by omega), By.nar (hby _), bodyF_i]
    exact ih fu (i + 1) (by omega) (by omega)
theorem R_writePart {g : St_Ref} (hD : DR g) (hroom : rroom g) (hm : (g_Rmedium g).1 = 16384) (hp : Pw (g_RcutIn g)) {tp : Nat → Int32} (ht : g_Rtape g = (2000, tp)) (hby : ∀ j, By (tp j)) {fr len row : Nat} (hl : len ≤ 155) (hfr : fr + len ≤ 2000) (hr : row + 1 + bod len ≤ 512) (grp : Int32) (pos : Int64) : m_RRef_writePart_tape g grp pos (nI fr) (nI len) (nI row) = some (if (wrM (partImg (bodyF tp fr len (bod len + 1)) len (g_RlastPart g + 1) grp pos) row (bod len) 1 (rtri g)).1 = 0 then ((-5), rout (s_Rdraft g (256, partImg (bodyF tp fr len (bod len + 1)) len (g_RlastPart g + 1) grp pos)) (wrM (partImg (bodyF tp fr len (bod len + 1)) len (g_RlastPart g + 1) grp pos) row (bod len) 1 (rtri g))) else (g_RlastPart g + 1, rpush (rout (s_Rdraft g (256, partImg (bodyF tp fr len (bod len + 1)) len (g_RlastPart g + 1) grp pos)) (wrM (partImg (bodyF tp fr len (bod len + 1)) len (g_RlastPart g + 1) grp pos) row (bod len) 1 (rtri g))) grp pos (nI len) (nI row))) := by
  unfold m_RRef_writePart_tape
  refine Eq.trans (bs (R_clear hD)) ?_
  rw [bodyF0 tp fr]
  exact R_wP7 hroom hm hp ht hby hl hfr hr grp pos len FU 0 (by omega) (FU_lt (by omega))
theorem C_writePart {n : Nat} {g : St_Log} {t : T3} {tape : St_Bytes} (hm : g_medium g = mk3 n t) (ho : g_isOpen g = 1) (h4 : 4 ≤ n) (h5 : n ≤ 512) (hp : Pw t.2.1) (ht : g_tape g = tape) (hT : BBe 2000 tape) (hby : ∀ j, By (tape.1.2 j)) (hI : BBe 224 (g_image g)) {fr len row : Nat} (hl : len ≤ 155) (hfr : fr + len ≤ 2000) (hr : row + 1 + bod len ≤ n) (grp : Int32) (pos : Int64) {rm : St_Room} (hT2 : m_Room_take (g_room g) (nI row) (nI (1 + bod len)) = some rm) {x' : St_Parts} (hA : m_Parts_add (g_parts g) (g_greatestPart g + 1) grp (nI len) (nI row) pos = some x') : ∃ im, BBe 224 im ∧ m_Log_writePart g (nI row) grp pos (nI fr) (nI len) = some (if (wrM (partImg (bodyF tape.1.2 fr len (bod len + 1)) len (g_greatestPart g + 1) grp pos) row (bod len) 1 t).1 = 0 then (0, s_room (wi n (s_image g im) (wrM (partImg (bodyF tape.1.2 fr len (bod len + 1)) len (g_greatestPart g + 1) grp pos) row (bod len) 1 t)) rm) else (1, s_greatestPart (s_parts (s_room (wi n (s_image g im) (wrM (partImg (bodyF tape.1.2 fr len (bod len + 1)) len (g_greatestPart g + 1) grp pos) row (bod len) 1 t)) rm) x') (g_greatestPart g + 1))) := by
  have hb6 : bod len ≤ 5 := by unfold bod; omega
  obtain ⟨im, d1, d2, d3⟩ := C_drawPart ht hT hby hI hl hfr (g_greatestPart g + 1) grp pos
  obtain ⟨s, hs⟩ := id d3
  have hbi : ∀ j, By (im.1.2 j) := by rw [d2]; exact By_part (By_body hby _ _ _) _ _ _ _
  have hw := C_writeImage (n := n) (g := s_image g im) (t := t) (im := im) (by simp only [q_medium]; exact hm) (by simp only [q_isOpen]; exact ho) rfl hs hbi h4 h5 (row := row) (count := 1 + bod len) (by omega) (by omega) (by simp only [q_room]; exact hT2) hp
  rw [show 1 + bod len - 1 = bod len by omega, d2] at hw
  refine ⟨im, d3, ?_⟩
  obtain ⟨q, hq⟩ : ∃ q, q = wrM (partImg (bodyF tape.1.2 fr len (bod len + 1)) len (g_greatestPart g + 1) grp pos) row (bod len) 1 t := ⟨_, rfl⟩
  rw [← hq] at hw ⊢
  unfold m_Log_writePart
  refine Eq.trans (bs d1) ?_
  refine Eq.trans (bs (C_rowsOfPart (by omega))) ?_
  refine Eq.trans (bs hw) ?_
  by_cases h0 : q.1 = 0
  · rw [if_pos h0, if_pos h0]
  · rw [if_neg h0, if_neg h0]
    refine Eq.trans (bs (show m_Parts_add (g_parts (s_room (wi n (s_image g im) q) rm)) (g_greatestPart g + 1) grp (nI len) (nI row) pos = some x' from hA)) ?_
    rfl
