theorem ss_image (g : St_Log) (a b : St_Bytes) : s_image (s_image g a) b = s_image g b := rfl
theorem sr_draft (g : St_Ref) (a b : AI) : s_Rdraft (s_Rdraft g a) b = s_Rdraft g b := rfl
-- READING THE MEDIUM: what the loops of class and reference compute, as functions of the bytes
theorem bs {α β : Type} {o : Option α} {f : α → Option β} {a : α} (h : o = some a) : o.bind f = f a := by rw [h]; rfl
theorem fu1 {k fuel : Nat} (h : k < fuel) : ∃ f, fuel = f + 1 ∧ k ≤ f := ⟨fuel - 1, by omega, by omega⟩
theorem FU_lt {k : Nat} (h : k < 1048576) : k < FU := Nat.lt_of_lt_of_le h FU_ge
theorem n0 : (0 : Int32) = nI 0 := by decide +kernel
theorem n1 : (1 : Int32) = nI 1 := by decide +kernel
theorem n2 : (2 : Int32) = nI 2 := by decide +kernel
theorem n8 : (8 : Int32) = nI 8 := by decide +kernel
theorem n24 : (24 : Int32) = nI 24 := by decide +kernel
theorem n32 : (32 : Int32) = nI 32 := by decide +kernel
theorem n4 : (4 : Int32) = nI 4 := by decide +kernel
theorem n16 : (16 : Int32) = nI 16 := by decide +kernel
theorem l255 (b : Int32) : (b &&& 255).toInt64 = b.toInt64 &&& 255 := by
  apply Int64.toBitVec_inj.mp
  simp only [Int32.toBitVec_toInt64, Int64.toBitVec_and, Int32.toBitVec_and]
  rw [BitVec.signExtend_and]
  rfl
/-- a number of k bytes at a, its highest first, behind acc; j of them are read already -/
def numS (f : Nat → Int32) (a : Nat) : Nat → Int64 → Nat → Int64
  | 0, acc, _ => acc
  | k + 1, acc, j => numS f a k ((jlshl acc 8) ||| ((f (a + j)).toInt64 &&& 255)) (j + 1)
def numF (f : Nat → Int32) (a k : Nat) : Int64 := numS f a k 0 0
def dstp (s : Int64) (b : Int32) : Int64 := ((jlshl (s ^^^ (b.toInt64 &&& 255)) 53) ||| (jlushr (s ^^^ (b.toInt64 &&& 255)) 11)) * (-4417276706812531889)
/-- the digest of k bytes from a on, behind acc -/
def digS (f : Nat → Int32) : Nat → Int64 → Nat → Int64
  | 0, acc, _ => acc
  | k + 1, acc, a => digS f k (dstp acc (f a)) (a + 1)
def digF (f : Nat → Int32) (a k : Nat) : Int64 := digS f k 0 a
theorem digS_add (f : Nat → Int32) : ∀ (k m : Nat) (acc : Int64) (a : Nat), digS f (k + m) acc a = digS f m (digS f k acc a) (a + k) := by
  intro k
  induction k with
  | zero => intro m acc a; rw [Nat.zero_add]; rfl
  | succ k ih =>
    intro m acc a
    rw [Nat.succ_add k m, digS, digS, ih, Nat.add_right_comm, ← Nat.add_assoc]
theorem r_number_L (x : AI) (a K : Nat) (hK : a + K ≤ x.1) (hx : x.1 < 2 ^ 31) : ∀ (d fuel : Nat) (acc : Int64) (j : Nat), j + d = K → d < fuel → m_RRef_number_L5 x fuel (nI a) (nI K) acc (nI j) = some (numS x.2 a d acc j) := by
  intro d
  induction d with
  | zero =>
    intro fuel acc j hj hf
    obtain ⟨f, rfl, -⟩ := fu1 hf
    rw [m_RRef_number_L5, if_pos (nI_le (by omega) (by omega))]; rfl
  | succ d ih =>
    intro fuel acc j hj hf
    obtain ⟨f, rfl, hf'⟩ := fu1 hf
    rw [m_RRef_number_L5, if_neg (nI_ge (by omega) (by omega)), nI_add, if_neg (nI_in (by omega) hx), nI_clamp (by omega), nI_1, ih f _ (j + 1) (by omega) (by omega)]; rfl
theorem r_number {x : AI} {a K : Nat} (hK : a + K ≤ x.1) (hx : x.1 < 2 ^ 31) (hk : K < 1048576) : m_RRef_number x (nI a) (nI K) = some (numF x.2 a K) := by
  unfold m_RRef_number numF
  rw [n0]
  exact r_number_L x a K hK hx K FU 0 0 (by omega) (FU_lt hk)
theorem r_digest_L (x : AI) (a K : Nat) (hK : a + K ≤ x.1) (hx : x.1 < 2 ^ 31) : ∀ (d fuel : Nat) (acc : Int64) (j : Nat), j + d = K → d < fuel → m_RRef_digest_L5 x fuel (nI a) (nI K) acc (nI j) = some (digS x.2 d acc (a + j)) := by
  intro d
  induction d with
  | zero =>
    intro fuel acc j hj hf
    obtain ⟨f, rfl, -⟩ := fu1 hf
    rw [m_RRef_digest_L5, if_pos (nI_le (by omega) (by omega))]; rfl
  | succ d ih =>
    intro fuel acc j hj hf
    obtain ⟨f, rfl, hf'⟩ := fu1 hf
    rw [m_RRef_digest_L5, if_neg (nI_ge (by omega) (by omega)), nI_add, if_neg (nI_in (by omega) hx), nI_clamp (by omega), nI_1, ih f _ (j + 1) (by omega) (by omega)]; rfl
theorem r_digest {x : AI} {a K : Nat} (hK : a + K ≤ x.1) (hx : x.1 < 2 ^ 31) (hk : K < 1048576) : m_RRef_digest x (nI a) (nI K) = some (digF x.2 a K) := by
  unfold m_RRef_digest digF
  rw [n0]
  exact r_digest_L x a K hK hx K FU 0 0 (by omega) (FU_lt hk)
/-- the class's medium of n rows -/
def MedOk (n : Nat) (x : St_Medium) : Prop := x.1 = nI n ∧ x.2.1.1 = 32 * n ∧ 4 ≤ n ∧ n ≤ 512
theorem c_has {n : Nat} {x : St_Medium} (h : MedOk n x) {row i : Nat} (hr : row < n) (hi : i < 32) : m_Medium_has x (nI row) (nI i) = some 1 := by
  obtain ⟨h1, h2, h3, h4⟩ := h
  unfold m_Medium_has
  rw [h1, if_neg (nI_pos (by omega)), if_neg (nI_ge hr (by omega)), if_neg (nI_pos (by omega)), n32, if_neg (nI_ge hi (by omega))]
theorem c_at {n : Nat} {x : St_Medium} (h : MedOk n x) {row i : Nat} (hr : row < n) (hi : i < 32) : m_Medium_at x (nI row) (nI i) = some (x.2.1.2 (32 * row + i) &&& 255) := by
  unfold m_Medium_at
  rw [bs (c_has h hr hi), if_neg (by decide), n32, pk_mul, nI_add]
  obtain ⟨h1, h2, h3, h4⟩ := h
  rw [if_neg (nI_in (by omega) (by omega)), nI_clamp (by omega), Nat.mul_comm row 32]
theorem c_number_L {n : Nat} {x : St_Medium} (h : MedOk n x) {row i K : Nat} (hr : row < n) (hi : i + K ≤ 32) : ∀ (d fuel : Nat) (acc : Int64) (j : Nat), j + d = K → d < fuel → m_Medium_number_L6 x fuel (nI row) (nI i) (nI K) acc (nI j) = some (numS x.2.1.2 (32 * row + i) d acc j) := by
  intro d
  induction d with
  | zero =>
    intro fuel acc j hj hf
    obtain ⟨f, rfl, -⟩ := fu1 hf
    rw [m_Medium_number_L6, if_pos (nI_le (by omega) (by omega))]; rfl
  | succ d ih =>
    intro fuel acc j hj hf
    obtain ⟨f, rfl, hf'⟩ := fu1 hf
    rw [m_Medium_number_L6, if_neg (nI_ge (by omega) (by omega)), nI_add, bs (c_at h hr (by omega)), nI_1, ih f _ (j + 1) (by omega) (by omega), l255, ← Nat.add_assoc]; rfl
theorem c_number {n : Nat} {x : St_Medium} (h : MedOk n x) {row i K : Nat} (hr : row < n) (hi : i + K ≤ 32) : m_Medium_number x (nI row) (nI i) (nI K) = some (numF x.2.1.2 (32 * row + i) K) := by
  unfold m_Medium_number numF
  rw [n0]
  exact c_number_L h hr hi K FU 0 0 (by omega) (FU_lt (by omega))
theorem c_dstep (s : Int64) (b : Int32) : m_Log_digestStep s (b &&& 255) = some (dstp s b) := by
  unfold m_Log_digestStep dstp
  rw [l255]
theorem c_sum_L {n : Nat} {x : St_Medium} (h : MedOk n x) {row : Nat} (hr : row < n) : ∀ (d fuel : Nat) (acc : Int64) (j : Nat), j + d = 24 → d < fuel → m_Medium_isSumRight_L5 x fuel (nI row) acc (nI j) = some (if lg_cmp (numF x.2.1.2 (32 * row + 24) 8) (digS x.2.1.2 d acc (32 * row + j)) = 0 then 1 else 0) := by
  intro d
  induction d with
  | zero =>
    intro fuel acc j hj hf
    obtain ⟨f, rfl, -⟩ := fu1 hf
    rw [m_Medium_isSumRight_L5, n24, if_pos (nI_le (by omega) (by omega)), n8, bs (c_number h hr (by omega)), digS]
    split <;> rfl
  | succ d ih =>
    intro fuel acc j hj hf
    obtain ⟨f, rfl, hf'⟩ := fu1 hf
    rw [m_Medium_isSumRight_L5]
    rw [show (24 : Int32) = nI 24 from n24, if_neg (nI_ge (by omega) (by omega)), bs (c_at h hr (by omega)), bs (c_dstep _ _), nI_1, ih f _ (j + 1) (by omega) (by omega)]; rfl
/-- whether a row's SUM fits -/
def sumOk (f : Nat → Int32) (row : Nat) : Int32 := if lg_cmp (numF f (32 * row + 24) 8) (digF f (32 * row) 24) = 0 then 1 else 0
theorem c_sum {n : Nat} {x : St_Medium} (h : MedOk n x) {row : Nat} (hr : row < n) : m_Medium_isSumRight x (nI row) = some (sumOk x.2.1.2 row) := by
  unfold m_Medium_isSumRight sumOk digF
  rw [n0]
  exact c_sum_L h hr 24 FU 0 0 (by omega) (FU_lt (by omega))
theorem c_digest_i {n : Nat} {x : St_Medium} (h : MedOk n x) {row : Nat} (hr : row < n) (k : Int32 → Int32 → Int64 → Int32 → Option Int64) (v1 v2 : Int32) : ∀ (d fuel : Nat) (acc : Int64) (j : Nat), j + d = 32 → d < fuel → m_Medium_digest_L16 x k fuel v1 v2 acc (nI row) (nI j) = k v1 v2 (digS x.2.1.2 d acc (32 * row + j)) (nI row) := by
  intro d
  induction d with
  | zero =>
    intro fuel acc j hj hf
    obtain ⟨f, rfl, -⟩ := fu1 hf
    rw [m_Medium_digest_L16, n32, if_pos (nI_le (by omega) (by omega))]; rfl
  | succ d ih =>
    intro fuel acc j hj hf
    obtain ⟨f, rfl, hf'⟩ := fu1 hf
    rw [m_Medium_digest_L16]
    rw [show (32 : Int32) = nI 32 from n32, if_neg (nI_ge (by omega) (by omega)), bs (c_at h hr (by omega)), bs (c_dstep _ _), nI_1, ih f _ (j + 1) (by omega) (by omega)]; rfl
theorem c_digest_o {n : Nat} {x : St_Medium} (h : MedOk n x) {first count : Nat} (hc : first + count ≤ n) : ∀ (d fuel : Nat) (acc : Int64) (row : Nat), row + d = first + count → d < fuel → m_Medium_digest_L5 x fuel (nI first) (nI count) acc (nI row) = some (digS x.2.1.2 (32 * d) acc (32 * row)) := by
  have hn := h.2.2
  intro d
  induction d with
  | zero =>
    intro fuel acc row hj hf
    obtain ⟨f, rfl, -⟩ := fu1 hf
    rw [m_Medium_digest_L5, nI_add, if_pos (nI_le (by omega) (by omega))]; rfl
  | succ d ih =>
    intro fuel acc row hj hf
    obtain ⟨f, rfl, hf'⟩ := fu1 hf
    rw [m_Medium_digest_L5, nI_add, if_neg (nI_ge (by omega) (by omega)), n0, c_digest_i h (by omega) _ _ _ 32 FU acc 0 (by omega) (FU_lt (by omega)), nI_1, ih f _ (row + 1) (by omega) (by omega), show 32 * (d + 1) = 32 + 32 * d by omega, digS_add, Nat.add_zero, show 32 * (row + 1) = 32 * row + 32 by omega]
theorem c_digest {n : Nat} {x : St_Medium} (h : MedOk n x) {first count : Nat} (hc : first + count ≤ n) : m_Medium_digest x (nI first) (nI count) = some (digF x.2.1.2 (32 * first) (32 * count)) := by
  have hn := h.2.2
  unfold m_Medium_digest digF
  exact c_digest_o h hc count FU 0 first rfl (FU_lt (by omega))
/-- the reference's medium -/
theorem r_kind {g : St_Ref} (hm : (g_Rmedium g).1 = 16384) {row : Nat} (hr : row < 512) : m_RRef_kind g (nI row) = some ((g_Rmedium g).2 (32 * row) &&& 255) := by
  unfold m_RRef_kind
  rw [n32, pk_mul, if_neg (nI_in (by omega) (by omega)), nI_clamp (by omega)]
theorem r_sum {g : St_Ref} (hm : (g_Rmedium g).1 = 16384) {row : Nat} (hr : row < 512) : m_RRef_isSummed g (nI row) = some (sumOk (g_Rmedium g).2 row) := by
  unfold m_RRef_isSummed sumOk
  rw [n32, pk_mul, n24, nI_add, n8, bs (r_number (by omega) (by omega) (by omega)), bs (r_digest (by omega) (by omega) (by omega))]
  split <;> rfl
-- A FRESH OBJECT
def G0 (n : Nat) : St_Log := ((nI n, (32 * n, fun _ => 0), (-1), 0), ((2000, fun _ => 0), 0), ((224, fun _ => 0), 0), ((2002, fun _ => 0), 0), ((2002, fun _ => 0), 0), (n, fun _ => 0), (n, fun _ => 0), ((n, fun _ => 0), (n, fun _ => 0), (n, fun _ => 0), (n, fun _ => 0), (n, fun _ => 0), 0), ((n / 2, fun _ => 0), (n / 2, fun _ => 0), (n / 2, fun _ => 0), (n / 2 * 12, fun _ => 0), (n / 2, fun _ => 0), 0), ((6, fun _ => 0), (6, fun _ => 0), (6, fun _ => 0), (72, fun _ => 0), (6, fun _ => 0), 0), (8, fun _ => 0), 0, 0, 0, 1)
def R0 (n : Nat) : St_Ref := ((16384, fun _ => 0), nI n, 1, (-1), 0, (2000, fun _ => 0), 0, (520, fun _ => 0), (520, fun _ => 0), (520, fun _ => 0), (520, fun _ => 0), (520, fun _ => 0), 0, (270, fun _ => 0), (270, fun _ => 0), (270, fun _ => 0), (270, fun _ => 0), (3240, fun _ => 0), (3240, fun _ => 0), (3240, fun _ => 0), 0, (8, fun _ => 0), 0, 0, 0, (512, fun _ => 0), (256, fun _ => 0), (2010, fun _ => 0), (12, fun _ => 0))
theorem jmax0 {n : Nat} (h0 : 0 < n) (h : n < 2 ^ 31) : jmax 0 (nI n) = nI n := by
  unfold jmax
  rw [n0, if_pos (nI_lt h0 h)]
theorem nbd {n b : Nat} (h : n ≤ b) (hb : b < 2 ^ 31) : ¬ (nI n < 0 ∨ b < (nI n).toNatClampNeg) := by
  rw [nI_clamp (by omega)]
  rintro (h1 | h1)
  · exact nI_pos (by omega) h1
  · omega
theorem i_med {a : Int32} {n : Nat} (h4 : 4 ≤ n) (h5 : n ≤ 512) (h : jmax 4 (jmin 512 a) = nI n) : m_Medium_init a = some (nI n, (32 * n, fun _ => 0), (-1), 0) := by
  unfold m_Medium_init
  rw [h, n32, pk_mul, if_neg (nbd (by omega) (by omega)), nI_clamp (by omega), Nat.mul_comm]
theorem i_room {n : Nat} (h4 : 4 ≤ n) (h5 : n ≤ 512) : m_Room_init (nI n) = some (n, fun _ => 0) := by
  unfold m_Room_init
  rw [jmax0 (by omega) (by omega), if_neg (nbd (by omega) (by omega)), nI_clamp (by omega)]
theorem i_parts {n : Nat} (h4 : 4 ≤ n) (h5 : n ≤ 512) : m_Parts_init (nI n) = some ((n, fun _ => 0), (n, fun _ => 0), (n, fun _ => 0), (n, fun _ => 0), (n, fun _ => 0), 0) := by
  unfold m_Parts_init
  have hb : ¬ (nI n < 0 ∨ 512 < (nI n).toNatClampNeg) := nbd (by omega) (by omega)
  rw [jmax0 (by omega) (by omega), if_neg hb, if_neg hb, if_neg hb, if_neg hb, if_neg hb, nI_clamp (by omega)]
theorem i_marks {n : Nat} (h4 : 0 < n) (h5 : n ≤ 256) : m_Marks_init (nI n) = some ((n, fun _ => 0), (n, fun _ => 0), (n, fun _ => 0), (n * 12, fun _ => 0), (n, fun _ => 0), 0) := by
  unfold m_Marks_init
  have hb : ¬ (nI n < 0 ∨ 256 < (nI n).toNatClampNeg) := nbd (by omega) (by omega)
  rw [jmax0 (by omega) (by omega), if_neg hb, if_neg hb, if_neg hb, if_neg hb, show (12 : Int32) = nI 12 by decide +kernel, pk_mul, if_neg (nbd (by omega) (by omega)), nI_clamp (by omega), nI_clamp (by omega)]
theorem i_b2000 : m_Bytes_init 2000 = some ((2000, fun _ => 0), 0) := by
  unfold m_Bytes_init
  rw [if_neg (by decide +kernel), show (jmax 0 2000).toNatClampNeg = 2000 by decide +kernel]
theorem i_b224 : m_Bytes_init 224 = some ((224, fun _ => 0), 0) := by
  unfold m_Bytes_init
  rw [if_neg (by decide +kernel), show (jmax 0 224).toNatClampNeg = 224 by decide +kernel]
theorem i_b2002 : m_Bytes_init 2002 = some ((2002, fun _ => 0), 0) := by
  unfold m_Bytes_init
  rw [if_neg (by decide +kernel), show (jmax 0 2002).toNatClampNeg = 2002 by decide +kernel]
theorem i_log {a : Int32} {n : Nat} (h4 : 4 ≤ n) (h5 : n ≤ 512) (h : jmax 4 (jmin 512 a) = nI n) : m_Log_init a = some (G0 n) := by
  unfold m_Log_init
  rw [bs (i_med h4 h5 h), bs i_b2000, bs i_b224, bs i_b2002, bs i_b2002]
  simp only [m_Medium_rows, Option.bind_some]
  rw [bs (i_room h4 h5), bs (i_room h4 h5), bs (i_parts h4 h5), n2, pk_div (by omega) (by omega) (by omega), bs (i_marks (by omega) (by omega)), show (6 : Int32) = nI 6 by decide +kernel, bs (i_marks (by omega) (by omega)), if_neg (by decide +kernel), show (8 : Int32).toNatClampNeg = 8 by decide +kernel]
  rfl
theorem i_ref {a : Int32} {n : Nat} (h : (if 4 ≤ a then (if a ≤ 512 then a else 512) else 4) = nI n) : m_RRef_init a = some (R0 n) := by
  unfold m_RRef_init
  iterate 19 rw [if_neg (by decide +kernel)]
  unfold R0
  rw [← h]
  simp only [show (16384 : Int32).toNatClampNeg = 16384 by decide +kernel, show (2000 : Int32).toNatClampNeg = 2000 by decide +kernel, show (520 : Int32).toNatClampNeg = 520 by decide +kernel, show (270 : Int32).toNatClampNeg = 270 by decide +kernel, show (3240 : Int32).toNatClampNeg = 3240 by decide +kernel, show (8 : Int32).toNatClampNeg = 8 by decide +kernel, show (512 : Int32).toNatClampNeg = 512 by decide +kernel, show (256 : Int32).toNatClampNeg = 256 by decide +kernel, show (2010 : Int32).toNatClampNeg = 2010 by decide +kernel, show (12 : Int32).toNatClampNeg = 12 by decide +kernel]
  split
  · split <;> rfl
  · rfl
theorem i_both (a : Int32) : ∃ n : Nat, 4 ≤ n ∧ n ≤ 512 ∧ m_Log_init a = some (G0 n) ∧ m_RRef_init a = some (R0 n) := by
  have h512 : (512 : Int32) = nI 512 := by decide +kernel
  by_cases h1 : 4 ≤ a
  · by_cases h2 : a ≤ 512
    · obtain ⟨j, hj, rfl⟩ := nI_of2 (x := a) (M := 512) (n := 512) (by decide +kernel) (fun h => Int32.lt_irrefl (Int32.lt_of_lt_of_le h (Int32.le_trans (b := 4) (by decide +kernel) h1))) h2
      have hj4 : 4 ≤ j := by
        rw [n4] at h1
        exact (nI_leI (by omega) (by omega)).mp h1
      refine ⟨j, hj4, hj, i_log hj4 hj ?_, i_ref (by rw [if_pos h1, if_pos h2])⟩
      unfold jmax jmin
      rw [h512]
      by_cases h3 : j < 512
      · rw [if_pos (nI_lt h3 (by omega))]
        by_cases h6 : 4 < j
        · rw [n4, if_pos (nI_lt h6 (by omega))]
        · have : j = 4 := by omega
          subst this; rfl
      · have : j = 512 := by omega
        subst this; rfl
    · refine ⟨512, by omega, by omega, i_log (by omega) (by omega) ?_, i_ref (by rw [if_pos h1, if_neg h2]; exact h512)⟩
      unfold jmax jmin
      rw [if_neg (fun h => h2 (Int32.le_of_lt h))]; rfl
  · refine ⟨4, by omega, by omega, i_log (by omega) (by omega) ?_, i_ref (by rw [if_neg h1]; exact n4)⟩
    have h3 : a < 4 := Int32.not_le.mp h1
    unfold jmax jmin
    rw [if_pos (Int32.lt_trans h3 (by decide +kernel)), if_neg (fun h => h1 (Int32.le_of_lt h))]; exact n4
theorem e10 : ¬ (1 : Int32) = 0 := by decide
theorem e11 : ¬ ¬ ((1 : Int32) = 0 ∨ (1 : Int32) = 1) := by decide
-- THE CLASS'S BYTES: they answer, whatever they hold
theorem b_putByte {x : St_Bytes} (hx : x.1.1 < 2 ^ 31) (p : Int32) (v : Int64) : ∃ x', m_Bytes_putByte x p v = some x' ∧ x'.1.1 = x.1.1 := by
  unfold m_Bytes_putByte
  rcases pk_ix p hx with h | h | ⟨j, hj, rfl⟩
  · rw [if_pos h]; exact ⟨_, rfl, rfl⟩
  · by_cases h0 : p < 0
    · rw [if_pos h0]; exact ⟨_, rfl, rfl⟩
    · rw [if_neg h0, if_neg (Int32.not_lt.mpr h)]; exact ⟨_, rfl, rfl⟩
  · rw [if_neg (nI_pos (by omega)), if_pos (nI_lt hj hx), if_neg (nI_in hj hx)]; exact ⟨_, rfl, rfl⟩
theorem b_put_L (i : Int32) (v : Int64) (K : Nat) (hK : K < 2 ^ 31) : ∀ (d fuel : Nat) (x : St_Bytes) (j : Nat), x.1.1 < 2 ^ 31 → j + d = K → d < fuel → ∃ x', m_Bytes_put_L3 fuel x i v (nI K) (nI j) = some x' ∧ x'.1.1 = x.1.1 := by
  intro d
  induction d with
  | zero =>
    intro fuel x j hx hj hf
    obtain ⟨f, rfl, -⟩ := fu1 hf
    rw [m_Bytes_put_L3, if_pos (nI_le (by omega) (by omega))]; exact ⟨_, rfl, rfl⟩
  | succ d ih =>
    intro fuel x j hx hj hf
    obtain ⟨f, rfl, hf'⟩ := fu1 hf
    obtain ⟨x1, h1, h2⟩ := b_putByte hx (i + nI j) (jlushr v (8 * ((nI K - 1) - nI j)))
    obtain ⟨x2, h3, h4⟩ := ih f x1 (j + 1) (by omega) (by omega) (by omega)
    rw [m_Bytes_put_L3, if_neg (nI_ge (by omega) (by omega)), bs h1, nI_1]
    exact ⟨x2, h3, by omega⟩
theorem b_put {x : St_Bytes} (hx : x.1.1 < 2 ^ 31) (i : Int32) (v : Int64) {k : Int32} (K : Nat) (hk : k = nI K) (hK : K < 1048576) : ∃ x', m_Bytes_put x i v k = some x' ∧ x'.1.1 = x.1.1 := by
  subst hk
  unfold m_Bytes_put
  rw [n0]
  exact b_put_L i v K (by omega) K FU x 0 hx (by omega) (FU_lt hK)
theorem b_at {x : St_Bytes} (hx : x.1.1 < 2 ^ 31) (p : Int32) : ∃ v, m_Bytes_at x p = some v := by
  unfold m_Bytes_at
  by_cases h0 : p < 0
  · rw [if_pos h0]; exact ⟨_, rfl⟩
  · rw [if_neg h0]
    by_cases h1 : x.2 ≤ p
    · rw [if_pos h1]; exact ⟨_, rfl⟩
    · rw [if_neg h1]
      rcases pk_ix p hx with h | h | ⟨j, hj, rfl⟩
      · exact absurd h h0
      · rw [if_pos h]; exact ⟨_, rfl⟩
      · rw [if_neg (nI_ge hj hx), if_neg (nI_in hj hx)]; exact ⟨_, rfl⟩
theorem b_dig_L {x : St_Bytes} (hx : x.1.1 < 2 ^ 31) (b : Nat) (hb : b < 2 ^ 31) : ∀ (d fuel : Nat) (acc : Int64) (j : Nat), j + d = b → d < fuel → ∃ v, m_Bytes_digest_L5 x fuel (nI b) acc (nI j) = some v := by
  intro d
  induction d with
  | zero =>
    intro fuel acc j hj hf
    obtain ⟨f, rfl, -⟩ := fu1 hf
    rw [m_Bytes_digest_L5, if_pos (nI_le (by omega) (by omega))]; exact ⟨_, rfl⟩
  | succ d ih =>
    intro fuel acc j hj hf
    obtain ⟨f, rfl, hf'⟩ := fu1 hf
    obtain ⟨v, h1⟩ := b_at hx (nI j)
    rw [m_Bytes_digest_L5, if_neg (nI_ge (by omega) (by omega)), bs h1]
    unfold m_Log_digestStep
    rw [Option.bind_some, nI_1]
    exact ih f _ (j + 1) (by omega) (by omega)
theorem b_dig {x : St_Bytes} (hx : x.1.1 < 2 ^ 31) {p q : Int32} (a b : Nat) (hp : p = nI a) (hq : q = nI b) (hab : a ≤ b) (hb : b < 1048576) : ∃ v, m_Bytes_digest x p q = some v := by
  subst hp hq
  unfold m_Bytes_digest
  exact b_dig_L hx b (by omega) (b - a) FU 0 a (by omega) (FU_lt (by omega))
theorem b_clear_L : ∀ (d fuel : Nat) (x : St_Bytes) (j : Nat), x.1.1 < 2 ^ 31 → j + d = x.1.1 → d < fuel → ∃ x', m_Bytes_clear_L2 fuel x (nI j) = some x' ∧ x'.1.1 = x.1.1 ∧ x'.2 = 0 := by
  intro d
  induction d with
  | zero =>
    intro fuel x j hx hj hf
    obtain ⟨f, rfl, -⟩ := fu1 hf
    rw [m_Bytes_clear_L2, if_pos (show nI x.1.1 ≤ nI j from nI_le (by omega) (by omega))]
    split <;> exact ⟨_, rfl, rfl, rfl⟩
  | succ d ih =>
    intro fuel x j hx hj hf
    obtain ⟨f, rfl, hf'⟩ := fu1 hf
    rw [m_Bytes_clear_L2]
    by_cases h1 : x.2 ≤ nI j
    · rw [if_pos h1]; exact ⟨_, rfl, rfl, rfl⟩
    · rw [if_neg h1, if_neg (nI_ge (by omega) hx), if_neg (nI_in (by omega) hx), nI_1]
      exact ih f _ (j + 1) hx (show j + 1 + d = x.1.1 by omega) (by omega)
theorem b_clear {x : St_Bytes} (hx : x.1.1 < 1048576) : ∃ x', m_Bytes_clear x = some x' ∧ x'.1.1 = x.1.1 ∧ x'.2 = 0 := by
  unfold m_Bytes_clear
  rw [n0]
  exact b_clear_L x.1.1 FU x 0 (by omega) (by omega) (FU_lt hx)
/-- one byte behind the others -/
theorem b_add1 {x : St_Bytes} (hx : x.1.1 < 2 ^ 31) {t : Nat} (ht : x.2 = nI t) (hl : t < x.1.1) (v : Int64) : ∃ x', m_Bytes_add x v 1 = some x' ∧ x'.1.1 = x.1.1 ∧ x'.2 = nI (t + 1) := by
  unfold m_Bytes_add m_Bytes_put
  obtain ⟨f, hf, -⟩ := fu1 (k := 1) (fuel := FU) (FU_lt (by omega))
  obtain ⟨f2, hf2, -⟩ := fu1 (k := 0) (fuel := f) (by have := FU_ge; omega)
  rw [hf, m_Bytes_put_L3, if_neg (by decide), ht, show nI t + 0 = nI t by rw [n0, nI_add]; rfl]
  unfold m_Bytes_putByte
  rw [if_neg (nI_pos (by omega)), if_pos (nI_lt hl hx), if_neg (nI_in hl hx), Option.bind_some, hf2, m_Bytes_put_L3, if_pos (by decide)]
  refine ⟨_, rfl, rfl, ?_⟩
  show jmax x.2 (nI t + 1) = nI (t + 1)
  unfold jmax
  rw [ht, nI_1, if_pos (nI_lt (by omega) (by omega))]
-- writing to the class's medium, with power on
theorem c_wb {n : Nat} {x : St_Medium} (h : MedOk n x) (hp : x.2.2.1 = (-1)) {row i : Nat} (hr : row < n) (hi : i < 32) (v : Int32) : ∃ x', m_Medium_writeByte x (nI row) (nI i) v = some (1, x') ∧ MedOk n x' ∧ x'.2.2.1 = (-1) := by
  unfold m_Medium_writeByte
  rw [hp, if_neg (by decide), if_pos (by decide), bs (c_has h hr hi), if_neg (by decide), n32, pk_mul, nI_add]
  obtain ⟨h1, h2, h3, h4⟩ := h
  rw [if_neg (nI_in (by omega) (by omega))]
  exact ⟨_, rfl, ⟨h1, h2, h3, h4⟩, rfl⟩
theorem c_write_L {n : Nat} {y : St_Bytes} (hy : y.1.1 < 2 ^ 31) {row : Nat} (hr : row < n) (v3 : Int32) : ∀ (d fuel : Nat) (x : St_Medium) (j : Nat), MedOk n x → x.2.2.1 = (-1) → j + d = 32 → d < fuel → ∃ x', m_Medium_write_L3 y fuel x (nI row) v3 (nI j) = some (1, x') ∧ MedOk n x' ∧ x'.2.2.1 = (-1) := by
  intro d
  induction d with
  | zero =>
    intro fuel x j h hp hj hf
    obtain ⟨f, rfl, -⟩ := fu1 hf
    rw [m_Medium_write_L3, n32, if_pos (nI_le (by omega) (by omega))]
    exact ⟨_, rfl, h, hp⟩
  | succ d ih =>
    intro fuel x j h hp hj hf
    obtain ⟨f, rfl, hf'⟩ := fu1 hf
    obtain ⟨v, h1⟩ := b_at hy (v3 + nI j)
    obtain ⟨x1, h2, h3, h4⟩ := c_wb h hp hr (i := j) (by omega) v
    rw [m_Medium_write_L3]
    rw [show (32 : Int32) = nI 32 from n32, if_neg (nI_ge (by omega) (by omega)), bs h1, bs h2, if_neg e10, nI_1]
    exact ih f x1 (j + 1) h3 h4 (by omega) (by omega)
theorem c_write {n : Nat} {x : St_Medium} {y : St_Bytes} (h : MedOk n x) (hp : x.2.2.1 = (-1)) (hy : y.1.1 < 2 ^ 31) {row : Nat} (hr : row < n) (v3 : Int32) : ∃ x', m_Medium_write x y (nI row) v3 = some (1, x') ∧ MedOk n x' ∧ x'.2.2.1 = (-1) := by
  unfold m_Medium_write
  rw [n0]
  exact c_write_L hy hr v3 32 FU x 0 h hp (by omega) (FU_lt (by omega))
theorem c_set_L (row : Nat) (b : Int32) (K : Nat) (hK : row + K < 2 ^ 31) : ∀ (d fuel : Nat) (x : St_Room) (j : Nat), x.1 < 2 ^ 31 → j + d = K → d < fuel → ∃ x', m_Room_set_L3 fuel x (nI row) (nI K) b (nI j) = some x' ∧ x'.1 = x.1 := by
  intro d
  induction d with
  | zero =>
    intro fuel x j hx hj hf
    obtain ⟨f, rfl, -⟩ := fu1 hf
    rw [m_Room_set_L3, if_pos (nI_le (by omega) (by omega))]; exact ⟨_, rfl, rfl⟩
  | succ d ih =>
    intro fuel x j hx hj hf
    obtain ⟨f, rfl, hf'⟩ := fu1 hf
    rw [m_Room_set_L3, if_neg (nI_ge (by omega) (by omega)), nI_add, if_neg (nI_pos (by omega)), nI_1]
    by_cases h : x.1 ≤ row + j
    · rw [if_pos (nI_le h (by omega))]
      exact ih f x (j + 1) hx (by omega) (by omega)
    · rw [if_neg (nI_ge (by omega) hx), if_neg (nI_in (by omega) hx)]
      exact ih f (x.1, _) (j + 1) hx (by omega) (by omega)
theorem c_set {x : St_Room} (hx : x.1 < 2 ^ 31) {p q : Int32} (row K : Nat) (hp : p = nI row) (hq : q = nI K) (hK : row + K < 1048576) (b : Int32) : ∃ x', m_Room_set x p q b = some x' ∧ x'.1 = x.1 := by
  subst hp hq
  unfold m_Room_set
  rw [n0]
  exact c_set_L row b K (by omega) K FU x 0 hx (by omega) (FU_lt (by omega))
theorem c_take {x : St_Room} (hx : x.1 < 2 ^ 31) {p q : Int32} (row K : Nat) (hp : p = nI row) (hq : q = nI K) (hK : row + K < 1048576) : ∃ x', m_Room_take x p q = some x' ∧ x'.1 = x.1 := by
  obtain ⟨x', h1, h2⟩ := c_set hx row K hp hq hK 1
  exact ⟨x', by unfold m_Room_take; rw [bs h1], h2⟩
theorem c_free {x : St_Room} (hx : x.1 < 2 ^ 31) {p q : Int32} (row K : Nat) (hp : p = nI row) (hq : q = nI K) (hK : row + K < 1048576) : ∃ x', m_Room_free x p q = some x' ∧ x'.1 = x.1 := by
  obtain ⟨x', h1, h2⟩ := c_set hx row K hp hq hK 0
  exact ⟨x', by unfold m_Room_free; rw [bs h1], h2⟩
/-- one row is written, with power on -/
theorem c_writeImage {n : Nat} {g : St_Log} (h : MedOk n (g_medium g)) (hp : (g_medium g).2.2.1 = (-1)) (ho : g_isOpen g = 1) (hi : (g_image g).1.1 < 2 ^ 31) (hr0 : (g_room g).1 < 2 ^ 31) {p : Int32} (row : Nat) (hpr : p = nI row) (hr : row < n) : ∃ m r, m_Log_writeImage g p 1 = some (1, s_room (s_isOpen (s_medium g m) 1) r) := by
  subst hpr
  have hn := h.2.2.2
  unfold m_Log_writeImage
  obtain ⟨f, hf, -⟩ := fu1 (k := 1) (fuel := FU) (FU_lt (by omega))
  obtain ⟨m, h1, h2, h3⟩ := c_write h hp hi hr 0
  obtain ⟨r, h4, -⟩ := c_take hr0 (p := nI row) (q := 1) row 1 rfl n1 (by omega)
  rw [hf, m_Log_writeImage_L2, if_pos (by decide), ho, if_neg e10, bs h1, if_neg e11, bs h4, if_neg e11]
  exact ⟨m, r, rfl⟩
theorem c_drawSum {g : St_Log} (hi : (g_image g).1.1 = 224) : ∃ im, m_Log_drawSum g = some (s_image g im) ∧ im.1.1 = 224 := by
  unfold m_Log_drawSum
  obtain ⟨v, h1⟩ := b_dig (x := g_image g) (by omega) (p := 0) (q := 24) 0 24 n0 n24 (by omega) (by omega)
  obtain ⟨im, h2, h3⟩ := b_put (x := g_image g) (by omega) 24 v (k := 8) 8 n8 (by omega)
  rw [bs h1, bs h2]
  exact ⟨im, rfl, by omega⟩
