-- GENERAL STATES: bytes in a room
/-- s bytes in a room of N, 0s behind them -/
def BB (N : Nat) (x : St_Bytes) (s : Nat) : Prop := x.1.1 = N ∧ x.2 = nI s ∧ s ≤ N ∧ ∀ j, s ≤ j → x.1.2 j = 0
theorem and0 : (0 : Int32) &&& 255 = 0 := by decide
theorem B_at {N s : Nat} {x : St_Bytes} (h : BB N x s) (hN : N < 2 ^ 31) {i : Nat} (hi : i < N) : m_Bytes_at x (nI i) = some (x.1.2 i &&& 255) := by
  obtain ⟨h1, h2, h3, h4⟩ := h
  unfold m_Bytes_at
  rw [if_neg (nI_pos (by omega)), h2, h1]
  by_cases hs : s ≤ i
  · rw [if_pos (nI_le hs (by omega)), h4 i hs, and0]
  · rw [if_neg (nI_ge (by omega) (by omega)), if_neg (nI_ge hi hN), if_neg (nI_in hi hN), nI_clamp (by omega)]
/-- a byte out of a long -/
def bv (v : Int64) : Int32 := vp_nar .byte (v.toInt32.toInt8.toInt32)
theorem B_putByte {N s : Nat} {x : St_Bytes} (h : BB N x s) (hN : N < 2 ^ 31) {i : Nat} (hi : i < N) (v : Int64) : m_Bytes_putByte x (nI i) v = some ((N, upd x.1.2 i (bv v)), nI (max s (i + 1))) ∧ BB N ((N, upd x.1.2 i (bv v)), nI (max s (i + 1))) (max s (i + 1)) := by
  obtain ⟨h1, h2, h3, h4⟩ := h
  constructor
  · unfold m_Bytes_putByte
    rw [if_neg (nI_pos (by omega)), h1, if_pos (nI_lt hi hN), if_neg (nI_in hi hN), nI_clamp (by omega), h2, nI_1]
    have hj : jmax (nI s) (nI (i + 1)) = nI (max s (i + 1)) := by
      unfold jmax
      by_cases hs : s < i + 1
      · rw [if_pos (nI_lt hs (by omega)), Nat.max_eq_right (by omega)]
      · rw [if_neg (nI_nlt (by omega) (by omega)), Nat.max_eq_left (by omega)]
    rw [hj]
    rfl
  · refine ⟨rfl, rfl, by omega, fun j hj => ?_⟩
    show (if j = i then bv v else x.1.2 j) = 0
    rw [if_neg (by omega)]
    exact h4 j (by omega)
/-- what put leaves: K bytes of v from i on, the highest first -/
def pF (f : Nat → Int32) (i K : Nat) (v : Int64) : Nat → Int32 := fun t => if i ≤ t ∧ t < i + K then bv (jlushr v (nI (8 * (K - 1 - (t - i))))) else f t
/-- the same, j of them done -/
def pG (f : Nat → Int32) (i K : Nat) (v : Int64) (j : Nat) : Nat → Int32 := fun t => if i ≤ t ∧ t < i + j then bv (jlushr v (nI (8 * (K - 1 - (t - i))))) else f t
theorem pG_step (f : Nat → Int32) (i K : Nat) (v : Int64) (j : Nat) : upd (pG f i K v j) (i + j) (bv (jlushr v (nI (8 * (K - 1 - j))))) = pG f i K v (j + 1) := by
  funext t
  unfold upd pG
  by_cases h : t = i + j
  · subst h
    rw [if_pos rfl, if_pos (by omega), show i + j - i = j by omega]
  · rw [if_neg h]
    by_cases h2 : i ≤ t ∧ t < i + j
    · rw [if_pos h2, if_pos (by omega)]
    · rw [if_neg h2, if_neg (by omega)]
theorem sh8 {K j : Nat} (hK : K ≤ 8) (hj : j < K) : (8 : Int32) * ((nI K - 1) - nI j) = nI (8 * (K - 1 - j)) := by
  rw [n1, pk_sub (by omega), pk_sub (by omega), n8, pk_mul]
theorem B_put_L {N i K : Nat} (hN : N < 2 ^ 31) (hK : K ≤ 8) (hi : i + K ≤ N) (f : Nat → Int32) (v : Int64) : ∀ (d fuel : Nat) (x : St_Bytes) (s j : Nat), BB N x s → x.1.2 = pG f i K v j → j + d = K → d < fuel → ∃ x', m_Bytes_put_L3 fuel x (nI i) v (nI K) (nI j) = some x' ∧ x'.1.2 = pG f i K v K ∧ BB N x' (if d = 0 then s else max s (i + K)) := by
  intro d
  induction d with
  | zero =>
    intro fuel x s j h hx hj hf
    obtain ⟨fu, rfl, -⟩ := fu1 hf
    rw [m_Bytes_put_L3, if_pos (nI_le (by omega) (by omega))]
    have : j = K := by omega
    subst this
    exact ⟨x, rfl, hx, h⟩
  | succ d ih =>
    intro fuel x s j h hx hj hf
    obtain ⟨fu, rfl, hf'⟩ := fu1 hf
    obtain ⟨e1, e2⟩ := B_putByte h hN (i := i + j) (by omega) (jlushr v (nI (8 * (K - 1 - j))))
    rw [m_Bytes_put_L3, if_neg (nI_ge (by omega) (by omega)), nI_add, sh8 hK (by omega), bs e1, nI_1]
    obtain ⟨x', h1, h2, h3⟩ := ih fu _ (max s (i + j + 1)) (j + 1) e2 (by show upd x.1.2 (i + j) _ = _; rw [hx, pG_step]) (by omega) (by omega)
    refine ⟨x', h1, h2, ?_⟩
    rw [if_neg (by omega)]
    by_cases hd : d = 0
    · rw [if_pos hd] at h3
      rw [show max s (i + K) = max s (i + j + 1) by rw [show i + K = i + j + 1 by omega]]
      exact h3
    · rw [if_neg hd] at h3
      rw [show max s (i + K) = max (max s (i + j + 1)) (i + K) by omega]
      exact h3
theorem B_put {N i K s : Nat} {x : St_Bytes} (h : BB N x s) (hN : N < 2 ^ 31) (hK : 1 ≤ K ∧ K ≤ 8) (hi : i + K ≤ N) (v : Int64) : ∃ x', m_Bytes_put x (nI i) v (nI K) = some x' ∧ x'.1.2 = pF x.1.2 i K v ∧ BB N x' (max s (i + K)) := by
  unfold m_Bytes_put
  have hz : x.1.2 = pG x.1.2 i K v 0 := by
    funext t
    unfold pG
    rw [if_neg (by omega)]
  obtain ⟨x', h1, h2, h3⟩ := B_put_L hN hK.2 hi x.1.2 v K FU x s 0 h hz (by omega) (FU_lt (by omega))
  rw [if_neg (by omega)] at h3
  rw [n0]
  exact ⟨x', h1, h2, h3⟩
theorem B_clear_L {N : Nat} (hN : N < 2 ^ 31) : ∀ (d fuel : Nat) (x : St_Bytes) (s j : Nat), BB N x s → (∀ t, t < j → x.1.2 t = 0) → j + d = s → d < fuel → m_Bytes_clear_L2 fuel x (nI j) = some ((N, fun _ => 0), 0) := by
  intro d
  induction d with
  | zero =>
    intro fuel x s j h hz hj hf
    obtain ⟨fu, rfl, -⟩ := fu1 hf
    obtain ⟨h1, h2, h3, h4⟩ := h
    rw [m_Bytes_clear_L2, h2, if_pos (nI_le (by omega) (by omega))]
    have : x.1 = (N, fun _ => 0) := by
      rw [← h1]
      refine Prod.ext rfl (funext fun t => ?_)
      by_cases ht : t < j
      · exact hz t ht
      · exact h4 t (by omega)
    rw [this]
  | succ d ih =>
    intro fuel x s j h hz hj hf
    obtain ⟨fu, rfl, hf'⟩ := fu1 hf
    obtain ⟨h1, h2, h3, h4⟩ := h
    rw [m_Bytes_clear_L2, h2, if_neg (nI_ge (by omega) (by omega)), h1, if_neg (nI_ge (by omega) hN), if_neg (nI_in (by omega) hN), nI_clamp (by omega), nI_1]
    refine ih fu _ s (j + 1) ⟨rfl, rfl, h3, fun t ht => ?_⟩ (fun t ht => ?_) (by omega) (by omega)
    · show (if t = j then vp_nar .byte 0 else x.1.2 t) = 0
      split
      · decide +kernel
      · exact h4 t ht
    · show (if t = j then vp_nar .byte 0 else x.1.2 t) = 0
      split
      · decide +kernel
      · exact hz t (by omega)
theorem B_clear {N s : Nat} {x : St_Bytes} (h : BB N x s) (hN : N < 1048576) : m_Bytes_clear x = some ((N, fun _ => 0), 0) := by
  have h3 := h.2.2.1
  unfold m_Bytes_clear
  rw [n0]
  exact B_clear_L (by omega) s FU x s 0 h (fun t ht => absurd ht (by omega)) (by omega) (FU_lt (by omega))
theorem B_dig_L {N s : Nat} {x : St_Bytes} (h : BB N x s) (hN : N < 2 ^ 31) (b : Nat) (hb : b ≤ N) : ∀ (d fuel : Nat) (acc : Int64) (j : Nat), j + d = b → d < fuel → m_Bytes_digest_L5 x fuel (nI b) acc (nI j) = some (digS x.1.2 d acc j) := by
  intro d
  induction d with
  | zero =>
    intro fuel acc j hj hf
    obtain ⟨fu, rfl, -⟩ := fu1 hf
    rw [m_Bytes_digest_L5, if_pos (nI_le (by omega) (by omega))]; rfl
  | succ d ih =>
    intro fuel acc j hj hf
    obtain ⟨fu, rfl, hf'⟩ := fu1 hf
    rw [m_Bytes_digest_L5, if_neg (nI_ge (by omega) (by omega)), bs (B_at h hN (by omega)), bs (c_dstep _ _), nI_1, ih fu _ (j + 1) (by omega) (by omega)]; rfl
theorem B_dig {N s : Nat} {x : St_Bytes} (h : BB N x s) (hN : N < 1048576) {a b : Nat} (hab : a ≤ b) (hb : b ≤ N) : m_Bytes_digest x (nI a) (nI b) = some (digF x.1.2 a (b - a)) := by
  unfold m_Bytes_digest digF
  exact B_dig_L h (by omega) b hb (b - a) FU 0 a (by omega) (FU_lt (by omega))
theorem B_num_L {N s : Nat} {x : St_Bytes} (h : BB N x s) (hN : N < 2 ^ 31) {i K : Nat} (hi : i + K ≤ N) : ∀ (d fuel : Nat) (acc : Int64) (j : Nat), j + d = K → d < fuel → m_Bytes_number_L5 x fuel (nI i) (nI K) acc (nI j) = some (numS x.1.2 i d acc j) := by
  intro d
  induction d with
  | zero =>
    intro fuel acc j hj hf
    obtain ⟨fu, rfl, -⟩ := fu1 hf
    rw [m_Bytes_number_L5, if_pos (nI_le (by omega) (by omega))]; rfl
  | succ d ih =>
    intro fuel acc j hj hf
    obtain ⟨fu, rfl, hf'⟩ := fu1 hf
    rw [m_Bytes_number_L5, if_neg (nI_ge (by omega) (by omega)), nI_add, bs (B_at h hN (by omega)), nI_1, ih fu _ (j + 1) (by omega) (by omega), l255]; rfl
theorem B_num {N s : Nat} {x : St_Bytes} (h : BB N x s) (hN : N < 1048576) {i K : Nat} (hi : i + K ≤ N) : m_Bytes_number x (nI i) (nI K) = some (numF x.1.2 i K) := by
  unfold m_Bytes_number numF
  rw [n0]
  exact B_num_L h (by omega) hi K FU 0 0 (by omega) (FU_lt (by omega))
-- the reference's put: the same bytes
theorem jr8 (v : Int64) : ∀ m, m ≤ 7 → (jlshr v (nI (8 * m))).toBitVec = v.toBitVec.sshiftRight (8 * m) ∧ (jlushr v (nI (8 * m))).toBitVec = v.toBitVec >>> (8 * m) := by
  intro m hm
  rcases (show m = 0 ∨ m = 1 ∨ m = 2 ∨ m = 3 ∨ m = 4 ∨ m = 5 ∨ m = 6 ∨ m = 7 by omega) with rfl | rfl | rfl | rfl | rfl | rfl | rfl | rfl
  all_goals exact ⟨rfl, rfl⟩
theorem shr8 (v : Int64) {m : Nat} (hm : m ≤ 7) : (jlshr v (nI (8 * m))).toInt32.toInt8 = (jlushr v (nI (8 * m))).toInt32.toInt8 := by
  obtain ⟨h1, h2⟩ := jr8 v m hm
  apply Int8.toBitVec_inj.mp
  rw [Int32.toBitVec_toInt8, Int64.toBitVec_toInt32, Int32.toBitVec_toInt8, Int64.toBitVec_toInt32, h1, h2]
  apply BitVec.eq_of_getLsbD_eq
  intro i hi
  have a1 : i < 32 := by omega
  have a2 : i < 64 := by omega
  have a3 : 8 * m + i < 64 := by omega
  simp only [BitVec.getLsbD_signExtend, BitVec.getLsbD_sshiftRight, BitVec.getLsbD_ushiftRight]
  simp [hi, a1, a2, a3]
theorem bvr (v : Int64) {m : Nat} (hm : m ≤ 7) : vp_nar .byte (((jlshr v (nI (8 * m))).toInt32).toInt8.toInt32) = bv (jlushr v (nI (8 * m))) := by
  unfold bv
  rw [shr8 v hm]
theorem R_put_L {N i K : Nat} (hN : N < 2 ^ 31) (hK : K ≤ 8) (hi : i + K ≤ N) (f : Nat → Int32) (v : Int64) : ∀ (d fuel : Nat) (j : Nat), j + d = K → d < fuel → m_RRef_put_L3 fuel (N, pG f i K v j) (nI i) (nI K) v (nI j) = some (N, pG f i K v K) := by
  intro d
  induction d with
  | zero =>
    intro fuel j hj hf
    obtain ⟨fu, rfl, -⟩ := fu1 hf
    rw [m_RRef_put_L3, if_pos (nI_le (by omega) (by omega)), show j = K by omega]
  | succ d ih =>
    intro fuel j hj hf
    obtain ⟨fu, rfl, hf'⟩ := fu1 hf
    rw [m_RRef_put_L3, if_neg (nI_ge (by omega) (by omega)), nI_add, if_neg (nI_in (show i + j < N by omega) hN), nI_clamp (by omega), sh8 hK (by omega), bvr v (by omega), nI_1, pG_step]
    exact ih fu (j + 1) (by omega) (by omega)
theorem R_put {x : AI} {i K : Nat} (hN : x.1 < 2 ^ 31) (hK : K ≤ 8) (hi : i + K ≤ x.1) (v : Int64) : m_RRef_put x (nI i) (nI K) v = some (x.1, pF x.2 i K v) := by
  unfold m_RRef_put
  have hz : x = (x.1, pG x.2 i K v 0) := by
    refine Prod.ext rfl (funext fun t => ?_)
    show x.2 t = (if i ≤ t ∧ t < i + 0 then _ else x.2 t)
    rw [if_neg (by omega)]
  rw [n0]
  have h := R_put_L hN hK hi x.2 v K FU 0 (by omega) (FU_lt (by omega))
  rw [← hz] at h
  exact h
