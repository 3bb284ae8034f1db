theorem e10 : ¬ (1 : Int32) = 0 := by decide
theorem e11 : ¬ ¬ ((1 : Int32) = 0 ∨ (1 : Int32) = 1) := by decide
-- THE CLASS'S BYTES: they answer, whatever they hold
theorem b_putByte {x : St_Bytes} (hx : x.1.1 < 2 ^ 31) (p : Int32) (v : Int64) : ∃ x', m_Bytes_putByte x p v = some x' ∧ x'.1.1 = x.1.1 := by
  unfold m_Bytes_putByte
  rcases pk_ix p hx with h | h | ⟨j, hj, rfl⟩
  · rw [if_pos h]; exact ⟨_, rfl, rfl⟩
  · by_cases h0 : p < 0
    · rw [if_pos h0]; exact ⟨_, rfl, rfl⟩
    · rw [if_neg h0, if_neg (Int32.not_lt.mpr h)]; exact ⟨_, rfl, rfl⟩
  · rw [if_neg (nI_pos (by omega)), if_pos (nI_lt hj hx), if_neg (nI_in hj hx)]; exact ⟨_, rfl, rfl⟩
theorem b_put_L (i : Int32) (v : Int64) (K : Nat) (hK : K < 2 ^ 31) : ∀ (d fuel : Nat) (x : St_Bytes) (j : Nat), x.1.1 < 2 ^ 31 → j + d = K → d < fuel → ∃ x', m_Bytes_put_L3 fuel x i v (nI K) (nI j) = some x' ∧ x'.1.1 = x.1.1 := by
  intro d
  induction d with
  | zero =>
    intro fuel x j hx hj hf
    obtain ⟨f, rfl, -⟩ := fu1 hf
    rw [m_Bytes_put_L3, if_pos (nI_le (by omega) (by omega))]; exact ⟨_, rfl, rfl⟩
  | succ d ih =>
    intro fuel x j hx hj hf
    obtain ⟨f, rfl, hf'⟩ := fu1 hf
    obtain ⟨x1, h1, h2⟩ := b_putByte hx (i + nI j) (jlushr v (8 * ((nI K - 1) - nI j)))
    obtain ⟨x2, h3, h4⟩ := ih f x1 (j + 1) (by omega) (by omega) (by omega)
    rw [m_Bytes_put_L3, if_neg (nI_ge (by omega) (by omega)), bs h1, nI_1]
    exact ⟨x2, h3, by omega⟩
theorem b_put {x : St_Bytes} (hx : x.1.1 < 2 ^ 31) (i : Int32) (v : Int64) {k : Int32} (K : Nat) (hk : k = nI K) (hK : K < 1048576) : ∃ x', m_Bytes_put x i v k = some x' ∧ x'.1.1 = x.1.1 := by
  subst hk
  unfold m_Bytes_put
  rw [n0]
  exact b_put_L i v K (by omega) K FU x 0 hx (by omega) (FU_lt hK)
theorem b_at {x : St_Bytes} (hx : x.1.1 < 2 ^ 31) (p : Int32) : ∃ v, m_Bytes_at x p = some v := by
  unfold m_Bytes_at
  by_cases h0 : p < 0
  · rw [if_pos h0]; exact ⟨_, rfl⟩
  · rw [if_neg h0]
    by_cases h1 : x.2 ≤ p
    · rw [if_pos h1]; exact ⟨_, rfl⟩
    · rw [if_neg h1]
      rcases pk_ix p hx with h | h | ⟨j, hj, rfl⟩
      · exact absurd h h0
      · rw [if_pos h]; exact ⟨_, rfl⟩
      · rw [if_neg (nI_ge hj hx), if_neg (nI_in hj hx)]; exact ⟨_, rfl⟩
theorem b_dig_L {x : St_Bytes} (hx : x.1.1 < 2 ^ 31) (b : Nat) (hb : b < 2 ^ 31) : ∀ (d fuel : Nat) (acc : Int64) (j : Nat), j + d = b → d < fuel → ∃ v, m_Bytes_digest_L5 x fuel (nI b) acc (nI j) = some v := by
  intro d
  induction d with
  | zero =>
    intro fuel acc j hj hf
    obtain ⟨f, rfl, -⟩ := fu1 hf
    rw [m_Bytes_digest_L5, if_pos (nI_le (by omega) (by omega))]; exact ⟨_, rfl⟩
  | succ d ih =>
    intro fuel acc j hj hf
    obtain ⟨f, rfl, hf'⟩ := fu1 hf
    obtain ⟨v, h1⟩ := b_at hx (nI j)
    rw [m_Bytes_digest_L5, if_neg (nI_ge (by omega) (by omega)), bs h1]
    unfold m_Log_digestStep
    rw [Option.bind_some, nI_1]
    exact ih f _ (j + 1) (by omega) (by omega)
theorem b_dig {x : St_Bytes} (hx : x.1.1 < 2 ^ 31) {p q : Int32} (a b : Nat) (hp : p = nI a) (hq : q = nI b) (hab : a ≤ b) (hb : b < 1048576) : ∃ v, m_Bytes_digest x p q = some v := by
  subst hp hq
  unfold m_Bytes_digest
  exact b_dig_L hx b (by omega) (b - a) FU 0 a (by omega) (FU_lt (by omega))
theorem b_clear_L : ∀ (d fuel : Nat) (x : St_Bytes) (j : Nat), x.1.1 < 2 ^ 31 → j + d = x.1.1 → d < fuel → ∃ x', m_Bytes_clear_L2 fuel x (nI j) = some x' ∧ x'.1.1 = x.1.1 ∧ x'.2 = 0 := by
  intro d
  induction d with
  | zero =>
    intro fuel x j hx hj hf
    obtain ⟨f, rfl, -⟩ := fu1 hf
    rw [m_Bytes_clear_L2, if_pos (show nI x.1.1 ≤ nI j from nI_le (by omega) (by omega))]
    split <;> exact ⟨_, rfl, rfl, rfl⟩
  | succ d ih =>
    intro fuel x j hx hj hf
    obtain ⟨f, rfl, hf'⟩ := fu1 hf
    rw [m_Bytes_clear_L2]
    by_cases h1 : x.2 ≤ nI j
    · rw [if_pos h1]; exact ⟨_, rfl, rfl, rfl⟩
    · rw [if_neg h1, if_neg (nI_ge (by omega) hx), if_neg (nI_in (by omega) hx), nI_1]
      exact ih f _ (j + 1) hx (show j + 1 + d = x.1.1 by omega) (by omega)
theorem b_clear {x : St_Bytes} (hx : x.1.1 < 1048576) : ∃ x', m_Bytes_clear x = some x' ∧ x'.1.1 = x.1.1 ∧ x'.2 = 0 := by
  unfold m_Bytes_clear
  rw [n0]
  exact b_clear_L x.1.1 FU x 0 (by omega) (by omega) (FU_lt hx)
/-- one byte behind the others -/
theorem b_add1 {x : St_Bytes} (hx : x.1.1 < 2 ^ 31) {t : Nat} (ht : x.2 = nI t) (hl : t < x.1.1) (v : Int64) : ∃ x', m_Bytes_add x v 1 = some x' ∧ x'.1.1 = x.1.1 ∧ x'.2 = nI (t + 1) := by
  unfold m_Bytes_add m_Bytes_put
  obtain ⟨f, hf, -⟩ := fu1 (k := 1) (fuel := FU) (FU_lt (by omega))
  obtain ⟨f2, hf2, -⟩ := fu1 (k := 0) (fuel := f) (by have := FU_ge; omega)
  rw [hf, m_Bytes_put_L3, if_neg (by decide), ht, show nI t + 0 = nI t by rw [n0, nI_add]; rfl]
  unfold m_Bytes_putByte
  rw [if_neg (nI_pos (by omega)), if_pos (nI_lt hl hx), if_neg (nI_in hl hx), Option.bind_some, hf2, m_Bytes_put_L3, if_pos (by decide)]
  refine ⟨_, rfl, rfl, ?_⟩
  show jmax x.2 (nI t + 1) = nI (t + 1)
  unfold jmax
  rw [ht, nI_1, if_pos (nI_lt (by omega) (by omega))]
-- writing to the class's medium, with power on
theorem c_wb {n : Nat} {x : St_Medium} (h : MedOk n x) (hp : x.2.2.1 = (-1)) {row i : Nat} (hr : row < n) (hi : i < 32) (v : Int32) : ∃ x', m_Medium_writeByte x (nI row) (nI i) v = some (1, x') ∧ MedOk n x' ∧ x'.2.2.1 = (-1) := by
  unfold m_Medium_writeByte
  rw [hp, if_neg (by decide), if_pos (by decide), bs (c_has h hr hi), if_neg (by decide), n32, pk_mul, nI_add]
  obtain ⟨h1, h2, h3, h4⟩ := h
  rw [if_neg (nI_in (by omega) (by omega))]
  exact ⟨_, rfl, ⟨h1, h2, h3, h4⟩, rfl⟩
theorem c_write_L {n : Nat} {y : St_Bytes} (hy : y.1.1 < 2 ^ 31) {row : Nat} (hr : row < n) (v3 : Int32) : ∀ (d fuel : Nat) (x : St_Medium) (j : Nat), MedOk n x → x.2.2.1 = (-1) → j + d = 32 → d < fuel → ∃ x', m_Medium_write_L3 y fuel x (nI row) v3 (nI j) = some (1, x') ∧ MedOk n x' ∧ x'.2.2.1 = (-1) := by
  intro d
  induction d with
  | zero =>
    intro fuel x j h hp hj hf
    obtain ⟨f, rfl, -⟩ := fu1 hf
    rw [m_Medium_write_L3, n32, if_pos (nI_le (by omega) (by omega))]
    exact ⟨_, rfl, h, hp⟩
  | succ d ih =>
    intro fuel x j h hp hj hf
    obtain ⟨f, rfl, hf'⟩ := fu1 hf
    obtain ⟨v, h1⟩ := b_at hy (v3 + nI j)
    obtain ⟨x1, h2, h3, h4⟩ := c_wb h hp hr (i := j) (by omega) v
    rw [m_Medium_write_L3]
    rw [show (32 : Int32) = nI 32 from n32, if_neg (nI_ge (by omega) (by omega)), bs h1, bs h2, if_neg e10, nI_1]
    exact ih f x1 (j + 1) h3 h4 (by omega) (by omega)
theorem c_write {n : Nat} {x : St_Medium} {y : St_Bytes} (h : MedOk n x) (hp : x.2.2.1 = (-1)) (hy : y.1.1 < 2 ^ 31) {row : Nat} (hr : row < n) (v3 : Int32) : ∃ x', m_Medium_write x y (nI row) v3 = some (1, x') ∧ MedOk n x' ∧ x'.2.2.1 = (-1) := by
  unfold m_Medium_write
  rw [n0]
  exact c_write_L hy hr v3 32 FU x 0 h hp (by omega) (FU_lt (by omega))
theorem c_set_L (row : Nat) (b : Int32) (K : Nat) (hK : row + K < 2 ^ 31) : ∀ (d fuel : Nat) (x : St_Room) (j : Nat), x.1 < 2 ^ 31 → j + d = K → d < fuel → ∃ x', m_Room_set_L3 fuel x (nI row) (nI K) b (nI j) = some x' ∧ x'.1 = x.1 := by
  intro d
  induction d with
  | zero =>
    intro fuel x j hx hj hf
    obtain ⟨f, rfl, -⟩ := fu1 hf
    rw [m_Room_set_L3, if_pos (nI_le (by omega) (by omega))]; exact ⟨_, rfl, rfl⟩
  | succ d ih =>
    intro fuel x j hx hj hf
    obtain ⟨f, rfl, hf'⟩ := fu1 hf
    rw [m_Room_set_L3, if_neg (nI_ge (by omega) (by omega)), nI_add, if_neg (nI_pos (by omega)), nI_1]
    by_cases h : x.1 ≤ row + j
    · rw [if_pos (nI_le h (by omega))]
      exact ih f x (j + 1) hx (by omega) (by omega)
    · rw [if_neg (nI_ge (by omega) hx), if_neg (nI_in (by omega) hx)]
      exact ih f (x.1, _) (j + 1) hx (by omega) (by omega)
theorem c_set {x : St_Room} (hx : x.1 < 2 ^ 31) {p q : Int32} (row K : Nat) (hp : p = nI row) (hq : q = nI K) (hK : row + K < 1048576) (b : Int32) : ∃ x', m_Room_set x p q b = some x' ∧ x'.1 = x.1 := by
  subst hp hq
  unfold m_Room_set
  rw [n0]
  exact c_set_L row b K (by omega) K FU x 0 hx (by omega) (FU_lt (by omega))
theorem c_take {x : St_Room} (hx : x.1 < 2 ^ 31) {p q : Int32} (row K : Nat) (hp : p = nI row) (hq : q = nI K) (hK : row + K < 1048576) : ∃ x', m_Room_take x p q = some x' ∧ x'.1 = x.1 := by
  obtain ⟨x', h1, h2⟩ := c_set hx row K hp hq hK 1
  exact ⟨x', by unfold m_Room_take; rw [bs h1], h2⟩
theorem c_free {x : St_Room} (hx : x.1 < 2 ^ 31) {p q : Int32} (row K : Nat) (hp : p = nI row) (hq : q = nI K) (hK : row + K < 1048576) : ∃ x', m_Room_free x p q = some x' ∧ x'.1 = x.1 := by
  obtain ⟨x', h1, h2⟩ := c_set hx row K hp hq hK 0
  exact ⟨x', by unfold m_Room_free; rw [bs h1], h2⟩
/-- one row is written, with power on -/
theorem c_writeImage {n : Nat} {g : St_Log} (h : MedOk n (g_medium g)) (hp : (g_medium g).2.2.1 = (-1)) (ho : g_isOpen g = 1) (hi : (g_image g).1.1 < 2 ^ 31) (hr0 : (g_room g).1 < 2 ^ 31) {p : Int32} (row : Nat) (hpr : p = nI row) (hr : row < n) : ∃ m r, m_Log_writeImage g p 1 = some (1, s_room (s_isOpen (s_medium g m) 1) r) := by
  subst hpr
  have hn := h.2.2.2
  unfold m_Log_writeImage
  obtain ⟨f, hf, -⟩ := fu1 (k := 1) (fuel := FU) (FU_lt (by omega))
  obtain ⟨m, h1, h2, h3⟩ := c_write h hp hi hr 0
  obtain ⟨r, h4, -⟩ := c_take hr0 (p := nI row) (q := 1) row 1 rfl n1 (by omega)
  rw [hf, m_Log_writeImage_L2, if_pos (by decide), ho, if_neg e10, bs h1, if_neg e11, bs h4, if_neg e11]
  exact ⟨m, r, rfl⟩
theorem c_drawSum {g : St_Log} (hi : (g_image g).1.1 = 224) : ∃ im, m_Log_drawSum g = some (s_image g im) ∧ im.1.1 = 224 := by
  unfold m_Log_drawSum
  obtain ⟨v, h1⟩ := b_dig (x := g_image g) (by omega) (p := 0) (q := 24) 0 24 n0 n24 (by omega) (by omega)
  obtain ⟨im, h2, h3⟩ := b_put (x := g_image g) (by omega) 24 v (k := 8) 8 n8 (by omega)
  rw [bs h1, bs h2]
  exact ⟨im, rfl, by omega⟩
