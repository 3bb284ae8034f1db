-- READING THE MEDIUM: what the loops of class and reference compute, as functions of the bytes
theorem bs {α β : Type} {o : Option α} {f : α → Option β} {a : α} (h : o = some a) : o.bind f = f a := by rw [h]; rfl
theorem fu1 {k fuel : Nat} (h : k < fuel) : ∃ f, fuel = f + 1 ∧ k ≤ f := ⟨fuel - 1, by omega, by omega⟩
theorem FU_lt {k : Nat} (h : k < 1048576) : k < FU := Nat.lt_of_lt_of_le h FU_ge
theorem n0 : (0 : Int32) = nI 0 := by decide +kernel
theorem n1 : (1 : Int32) = nI 1 := by decide +kernel
theorem n2 : (2 : Int32) = nI 2 := by decide +kernel
theorem n8 : (8 : Int32) = nI 8 := by decide +kernel
theorem n24 : (24 : Int32) = nI 24 := by decide +kernel
theorem n32 : (32 : Int32) = nI 32 := by decide +kernel
theorem n4 : (4 : Int32) = nI 4 := by decide +kernel
theorem n16 : (16 : Int32) = nI 16 := by decide +kernel
theorem l255 (b : Int32) : (b &&& 255).toInt64 = b.toInt64 &&& 255 := by
  apply Int64.toBitVec_inj.mp
  simp only [Int32.toBitVec_toInt64, Int64.toBitVec_and, Int32.toBitVec_and]
  rw [BitVec.signExtend_and]
  rfl
/-- a number of k bytes at a, its highest first, behind acc; j of them are read already -/
def numS (f : Nat → Int32) (a : Nat) : Nat → Int64 → Nat → Int64
  | 0, acc, _ => acc
  | k + 1, acc, j => numS f a k ((jlshl acc 8) ||| ((f (a + j)).toInt64 &&& 255)) (j + 1)
def numF (f : Nat → Int32) (a k : Nat) : Int64 := numS f a k 0 0
def dstp (s : Int64) (b : Int32) : Int64 := ((jlshl (s ^^^ (b.toInt64 &&& 255)) 53) ||| (jlushr (s ^^^ (b.toInt64 &&& 255)) 11)) * (-4417276706812531889)
/-- the digest of k bytes from a on, behind acc -/
def digS (f : Nat → Int32) : Nat → Int64 → Nat → Int64
  | 0, acc, _ => acc
  | k + 1, acc, a => digS f k (dstp acc (f a)) (a + 1)
def digF (f : Nat → Int32) (a k : Nat) : Int64 := digS f k 0 a
theorem digS_add (f : Nat → Int32) : ∀ (k m : Nat) (acc : Int64) (a : Nat), digS f (k + m) acc a = digS f m (digS f k acc a) (a + k) := by
  intro k
  induction k with
  | zero => intro m acc a; rw [Nat.zero_add]; rfl
  | succ k ih =>
    intro m acc a
    rw [Nat.succ_add k m, digS, digS, ih, Nat.add_right_comm, ← Nat.add_assoc]
theorem r_number_L (x : AI) (a K : Nat) (hK : a + K ≤ x.1) (hx : x.1 < 2 ^ 31) : ∀ (d fuel : Nat) (acc : Int64) (j : Nat), j + d = K → d < fuel → m_RRef_number_L5 x fuel (nI a) (nI K) acc (nI j) = some (numS x.2 a d acc j) := by
  intro d
  induction d with
  | zero =>
    intro fuel acc j hj hf
    obtain ⟨f, rfl, -⟩ := fu1 hf
    rw [m_RRef_number_L5, if_pos (nI_le (by omega) (by omega))]; rfl
  | succ d ih =>
    intro fuel acc j hj hf
    obtain ⟨f, rfl, hf'⟩ := fu1 hf
    rw [m_RRef_number_L5, if_neg (nI_ge (by omega) (by omega)), nI_add, if_neg (nI_in (by omega) hx), nI_clamp (by omega), nI_1, ih f _ (j + 1) (by omega) (by omega)]; rfl
theorem r_number {x : AI} {a K : Nat} (hK : a + K ≤ x.1) (hx : x.1 < 2 ^ 31) (hk : K < 1048576) : m_RRef_number x (nI a) (nI K) = some (numF x.2 a K) := by
  unfold m_RRef_number numF
  rw [n0]
  exact r_number_L x a K hK hx K FU 0 0 (by omega) (FU_lt hk)
theorem r_digest_L (x : AI) (a K : Nat) (hK : a + K ≤ x.1) (hx : x.1 < 2 ^ 31) : ∀ (d fuel : Nat) (acc : Int64) (j : Nat), j + d = K → d < fuel → m_RRef_digest_L5 x fuel (nI a) (nI K) acc (nI j) = some (digS x.2 d acc (a + j)) := by
  intro d
  induction d with
  | zero =>
    intro fuel acc j hj hf
    obtain ⟨f, rfl, -⟩ := fu1 hf
    rw [m_RRef_digest_L5, if_pos (nI_le (by omega) (by omega))]; rfl
  | succ d ih =>
    intro fuel acc j hj hf
    obtain ⟨f, rfl, hf'⟩ := fu1 hf
    rw [m_RRef_digest_L5, if_neg (nI_ge (by omega) (by omega)), nI_add, if_neg (nI_in (by omega) hx), nI_clamp (by omega), nI_1, ih f _ (j + 1) (by omega) (by omega)]; rfl
theorem r_digest {x : AI} {a K : Nat} (hK : a + K ≤ x.1) (hx : x.1 < 2 ^ 31) (hk : K < 1048576) : m_RRef_digest x (nI a) (nI K) = some (digF x.2 a K) := by
  unfold m_RRef_digest digF
  rw [n0]
  exact r_digest_L x a K hK hx K FU 0 0 (by omega) (FU_lt hk)
/-- the class's medium of n rows -/
def MedOk (n : Nat) (x : St_Medium) : Prop := x.1 = nI n ∧ x.2.1.1 = 32 * n ∧ 4 ≤ n ∧ n ≤ 512
theorem c_has {n : Nat} {x : St_Medium} (h : MedOk n x) {row i : Nat} (hr : row < n) (hi : i < 32) : m_Medium_has x (nI row) (nI i) = some 1 := by
  obtain ⟨h1, h2, h3, h4⟩ := h
  unfold m_Medium_has
  rw [h1, if_neg (nI_pos (by omega)), if_neg (nI_ge hr (by omega)), if_neg (nI_pos (by omega)), n32, if_neg (nI_ge hi (by omega))]
theorem c_at {n : Nat} {x : St_Medium} (h : MedOk n x) {row i : Nat} (hr : row < n) (hi : i < 32) : m_Medium_at x (nI row) (nI i) = some (x.2.1.2 (32 * row + i) &&& 255) := by
  unfold m_Medium_at
  rw [bs (c_has h hr hi), if_neg (by decide), n32, pk_mul, nI_add]
  obtain ⟨h1, h2, h3, h4⟩ := h
  rw [if_neg (nI_in (by omega) (by omega)), nI_clamp (by omega), Nat.mul_comm row 32]
theorem c_number_L {n : Nat} {x : St_Medium} (h : MedOk n x) {row i K : Nat} (hr : row < n) (hi : i + K ≤ 32) : ∀ (d fuel : Nat) (acc : Int64) (j : Nat), j + d = K → d < fuel → m_Medium_number_L6 x fuel (nI row) (nI i) (nI K) acc (nI j) = some (numS x.2.1.2 (32 * row + i) d acc j) := by
  intro d
  induction d with
  | zero =>
    intro fuel acc j hj hf
    obtain ⟨f, rfl, -⟩ := fu1 hf
    rw [m_Medium_number_L6, if_pos (nI_le (by omega) (by omega))]; rfl
  | succ d ih =>
    intro fuel acc j hj hf
    obtain ⟨f, rfl, hf'⟩ := fu1 hf
    rw [m_Medium_number_L6, if_neg (nI_ge (by omega) (by omega)), nI_add, bs (c_at h hr (by omega)), nI_1, ih f _ (j + 1) (by omega) (by omega), l255, ← Nat.add_assoc]; rfl
theorem c_number {n : Nat} {x : St_Medium} (h : MedOk n x) {row i K : Nat} (hr : row < n) (hi : i + K ≤ 32) : m_Medium_number x (nI row) (nI i) (nI K) = some (numF x.2.1.2 (32 * row + i) K) := by
  unfold m_Medium_number numF
  rw [n0]
  exact c_number_L h hr hi K FU 0 0 (by omega) (FU_lt (by omega))
theorem c_dstep (s : Int64) (b : Int32) : m_Log_digestStep s (b &&& 255) = some (dstp s b) := by
  unfold m_Log_digestStep dstp
  rw [l255]
theorem c_sum_L {n : Nat} {x : St_Medium} (h : MedOk n x) {row : Nat} (hr : row < n) : ∀ (d fuel : Nat) (acc : Int64) (j : Nat), j + d = 24 → d < fuel → m_Medium_isSumRight_L5 x fuel (nI row) acc (nI j) = some (if lg_cmp (numF x.2.1.2 (32 * row + 24) 8) (digS x.2.1.2 d acc (32 * row + j)) = 0 then 1 else 0) := by
  intro d
  induction d with
  | zero =>
    intro fuel acc j hj hf
    obtain ⟨f, rfl, -⟩ := fu1 hf
    rw [m_Medium_isSumRight_L5, n24, if_pos (nI_le (by omega) (by omega)), n8, bs (c_number h hr (by omega)), digS]
    split <;> rfl
  | succ d ih =>
    intro fuel acc j hj hf
    obtain ⟨f, rfl, hf'⟩ := fu1 hf
    rw [m_Medium_isSumRight_L5]
    rw [show (24 : Int32) = nI 24 from n24, if_neg (nI_ge (by omega) (by omega)), bs (c_at h hr (by omega)), bs (c_dstep _ _), nI_1, ih f _ (j + 1) (by omega) (by omega)]; rfl
/-- whether a row's SUM fits -/
def sumOk (f : Nat → Int32) (row : Nat) : Int32 := if lg_cmp (numF f (32 * row + 24) 8) (digF f (32 * row) 24) = 0 then 1 else 0
theorem c_sum {n : Nat} {x : St_Medium} (h : MedOk n x) {row : Nat} (hr : row < n) : m_Medium_isSumRight x (nI row) = some (sumOk x.2.1.2 row) := by
  unfold m_Medium_isSumRight sumOk digF
  rw [n0]
  exact c_sum_L h hr 24 FU 0 0 (by omega) (FU_lt (by omega))
theorem c_digest_i {n : Nat} {x : St_Medium} (h : MedOk n x) {row : Nat} (hr : row < n) (k : Int32 → Int32 → Int64 → Int32 → Option Int64) (v1 v2 : Int32) : ∀ (d fuel : Nat) (acc : Int64) (j : Nat), j + d = 32 → d < fuel → m_Medium_digest_L16 x k fuel v1 v2 acc (nI row) (nI j) = k v1 v2 (digS x.2.1.2 d acc (32 * row + j)) (nI row) := by
  intro d
  induction d with
  | zero =>
    intro fuel acc j hj hf
    obtain ⟨f, rfl, -⟩ := fu1 hf
    rw [m_Medium_digest_L16, n32, if_pos (nI_le (by omega) (by omega))]; rfl
  | succ d ih =>
    intro fuel acc j hj hf
    obtain ⟨f, rfl, hf'⟩ := fu1 hf
    rw [m_Medium_digest_L16]
    rw [show (32 : Int32) = nI 32 from n32, if_neg (nI_ge (by omega) (by omega)), bs (c_at h hr (by omega)), bs (c_dstep _ _), nI_1, ih f _ (j + 1) (by omega) (by omega)]; rfl
theorem c_digest_o {n : Nat} {x : St_Medium} (h : MedOk n x) {first count : Nat} (hc : first + count ≤ n) : ∀ (d fuel : Nat) (acc : Int64) (row : Nat), row + d = first + count → d < fuel → m_Medium_digest_L5 x fuel (nI first) (nI count) acc (nI row) = some (digS x.2.1.2 (32 * d) acc (32 * row)) := by
  have hn := h.2.2
  intro d
  induction d with
  | zero =>
    intro fuel acc row hj hf
    obtain ⟨f, rfl, -⟩ := fu1 hf
    rw [m_Medium_digest_L5, nI_add, if_pos (nI_le (by omega) (by omega))]; rfl
  | succ d ih =>
    intro fuel acc row hj hf
    obtain ⟨f, rfl, hf'⟩ := fu1 hf
    rw [m_Medium_digest_L5, nI_add, if_neg (nI_ge (by omega) (by omega)), n0, c_digest_i h (by omega) _ _ _ 32 FU acc 0 (by omega) (FU_lt (by omega)), nI_1, ih f _ (row + 1) (by omega) (by omega), show 32 * (d + 1) = 32 + 32 * d by omega, digS_add, Nat.add_zero, show 32 * (row + 1) = 32 * row + 32 by omega]
theorem c_digest {n : Nat} {x : St_Medium} (h : MedOk n x) {first count : Nat} (hc : first + count ≤ n) : m_Medium_digest x (nI first) (nI count) = some (digF x.2.1.2 (32 * first) (32 * count)) := by
  have hn := h.2.2
  unfold m_Medium_digest digF
  exact c_digest_o h hc count FU 0 first rfl (FU_lt (by omega))
/-- the reference's medium -/
theorem r_kind {g : St_Ref} (hm : (g_Rmedium g).1 = 16384) {row : Nat} (hr : row < 512) : m_RRef_kind g (nI row) = some ((g_Rmedium g).2 (32 * row) &&& 255) := by
  unfold m_RRef_kind
  rw [n32, pk_mul, if_neg (nI_in (by omega) (by omega)), nI_clamp (by omega)]
theorem r_sum {g : St_Ref} (hm : (g_Rmedium g).1 = 16384) {row : Nat} (hr : row < 512) : m_RRef_isSummed g (nI row) = some (sumOk (g_Rmedium g).2 row) := by
  unfold m_RRef_isSummed sumOk
  rw [n32, pk_mul, n24, nI_add, n8, bs (r_number (by omega) (by omega) (by omega)), bs (r_digest (by omega) (by omega) (by omega))]
  split <;> rfl
