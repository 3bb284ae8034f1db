-- A FRESH OBJECT
def G0 (n : Nat) : St_Log := ((nI n, (32 * n, fun _ => 0), (-1), 0), ((2000, fun _ => 0), 0), ((224, fun _ => 0), 0), ((2002, fun _ => 0), 0), ((2002, fun _ => 0), 0), (n, fun _ => 0), (n, fun _ => 0), ((n, fun _ => 0), (n, fun _ => 0), (n, fun _ => 0), (n, fun _ => 0), (n, fun _ => 0), 0), ((n / 2, fun _ => 0), (n / 2, fun _ => 0), (n / 2, fun _ => 0), (n / 2 * 12, fun _ => 0), (n / 2, fun _ => 0), 0), ((6, fun _ => 0), (6, fun _ => 0), (6, fun _ => 0), (72, fun _ => 0), (6, fun _ => 0), 0), (8, fun _ => 0), 0, 0, 0, 1)
def R0 (n : Nat) : St_Ref := ((16384, fun _ => 0), nI n, 1, (-1), 0, (2000, fun _ => 0), 0, (520, fun _ => 0), (520, fun _ => 0), (520, fun _ => 0), (520, fun _ => 0), (520, fun _ => 0), 0, (270, fun _ => 0), (270, fun _ => 0), (270, fun _ => 0), (270, fun _ => 0), (3240, fun _ => 0), (3240, fun _ => 0), (3240, fun _ => 0), 0, (8, fun _ => 0), 0, 0, 0, (512, fun _ => 0), (256, fun _ => 0), (2010, fun _ => 0), (12, fun _ => 0))
theorem jmax0 {n : Nat} (h0 : 0 < n) (h : n < 2 ^ 31) : jmax 0 (nI n) = nI n := by
  unfold jmax
  rw [n0, if_pos (nI_lt h0 h)]
theorem nbd {n b : Nat} (h : n ≤ b) (hb : b < 2 ^ 31) : ¬ (nI n < 0 ∨ b < (nI n).toNatClampNeg) := by
  rw [nI_clamp (by omega)]
  rintro (h1 | h1)
  · exact nI_pos (by omega) h1
  · omega
theorem i_med {a : Int32} {n : Nat} (h4 : 4 ≤ n) (h5 : n ≤ 512) (h : jmax 4 (jmin 512 a) = nI n) : m_Medium_init a = some (nI n, (32 * n, fun _ => 0), (-1), 0) := by
  unfold m_Medium_init
  rw [h, n32, pk_mul, if_neg (nbd (by omega) (by omega)), nI_clamp (by omega), Nat.mul_comm]
theorem i_room {n : Nat} (h4 : 4 ≤ n) (h5 : n ≤ 512) : m_Room_init (nI n) = some (n, fun _ => 0) := by
  unfold m_Room_init
  rw [jmax0 (by omega) (by omega), if_neg (nbd (by omega) (by omega)), nI_clamp (by omega)]
theorem i_parts {n : Nat} (h4 : 4 ≤ n) (h5 : n ≤ 512) : m_Parts_init (nI n) = some ((n, fun _ => 0), (n, fun _ => 0), (n, fun _ => 0), (n, fun _ => 0), (n, fun _ => 0), 0) := by
  unfold m_Parts_init
  have hb : ¬ (nI n < 0 ∨ 512 < (nI n).toNatClampNeg) := nbd (by omega) (by omega)
  rw [jmax0 (by omega) (by omega), if_neg hb, if_neg hb, if_neg hb, if_neg hb, if_neg hb, nI_clamp (by omega)]
theorem i_marks {n : Nat} (h4 : 0 < n) (h5 : n ≤ 256) : m_Marks_init (nI n) = some ((n, fun _ => 0), (n, fun _ => 0), (n, fun _ => 0), (n * 12, fun _ => 0), (n, fun _ => 0), 0) := by
  unfold m_Marks_init
  have hb : ¬ (nI n < 0 ∨ 256 < (nI n).toNatClampNeg) := nbd (by omega) (by omega)
  rw [jmax0 (by omega) (by omega), if_neg hb, if_neg hb, if_neg hb, if_neg hb, show (12 : Int32) = nI 12 by decide +kernel, pk_mul, if_neg (nbd (by omega) (by omega)), nI_clamp (by omega), nI_clamp (by omega)]
theorem i_b2000 : m_Bytes_init 2000 = some ((2000, fun _ => 0), 0) := by
  unfold m_Bytes_init
  rw [if_neg (by decide +kernel), show (jmax 0 2000).toNatClampNeg = 2000 by decide +kernel]
theorem i_b224 : m_Bytes_init 224 = some ((224, fun _ => 0), 0) := by
  unfold m_Bytes_init
  rw [if_neg (by decide +kernel), show (jmax 0 224).toNatClampNeg = 224 by decide +kernel]
theorem i_b2002 : m_Bytes_init 2002 = some ((2002, fun _ => 0), 0) := by
  unfold m_Bytes_init
  rw [if_neg (by decide +kernel), show (jmax 0 2002).toNatClampNeg = 2002 by decide +kernel]
theorem i_log {a : Int32} {n : Nat} (h4 : 4 ≤ n) (h5 : n ≤ 512) (h : jmax 4 (jmin 512 a) = nI n) : m_Log_init a = some (G0 n) := by
  unfold m_Log_init
  rw [bs (i_med h4 h5 h), bs i_b2000, bs i_b224, bs i_b2002, bs i_b2002]
  simp only [m_Medium_rows, Option.bind_some]
  rw [bs (i_room h4 h5), bs (i_room h4 h5), bs (i_parts h4 h5), n2, pk_div (by omega) (by omega) (by omega), bs (i_marks (by omega) (by omega)), show (6 : Int32) = nI 6 by decide +kernel, bs (i_marks (by omega) (by omega)), if_neg (by decide +kernel), show (8 : Int32).toNatClampNeg = 8 by decide +kernel]
  rfl
theorem i_ref {a : Int32} {n : Nat} (h : (if 4 ≤ a then (if a ≤ 512 then a else 512) else 4) = nI n) : m_RRef_init a = some (R0 n) := by
  unfold m_RRef_init
  iterate 19 rw [if_neg (by decide +kernel)]
  unfold R0
  rw [← h]
  simp only [show (16384 : Int32).toNatClampNeg = 16384 by decide +kernel, show (2000 : Int32).toNatClampNeg = 2000 by decide +kernel, show (520 : Int32).toNatClampNeg = 520 by decide +kernel, show (270 : Int32).toNatClampNeg = 270 by decide +kernel, show (3240 : Int32).toNatClampNeg = 3240 by decide +kernel, show (8 : Int32).toNatClampNeg = 8 by decide +kernel, show (512 : Int32).toNatClampNeg = 512 by decide +kernel, show (256 : Int32).toNatClampNeg = 256 by decide +kernel, show (2010 : Int32).toNatClampNeg = 2010 by decide +kernel, show (12 : Int32).toNatClampNeg = 12 by decide +kernel]
  split
  · split <;> rfl
  · rfl
theorem i_both (a : Int32) : ∃ n : Nat, 4 ≤ n ∧ n ≤ 512 ∧ m_Log_init a = some (G0 n) ∧ m_RRef_init a = some (R0 n) := by
  have h512 : (512 : Int32) = nI 512 := by decide +kernel
  by_cases h1 : 4 ≤ a
  · by_cases h2 : a ≤ 512
    · obtain ⟨j, hj, rfl⟩ := nI_of2 (x := a) (M := 512) (n := 512) (by decide +kernel) (fun h => Int32.lt_irrefl (Int32.lt_of_lt_of_le h (Int32.le_trans (b := 4) (by decide +kernel) h1))) h2
      have hj4 : 4 ≤ j := by
        rw [n4] at h1
        exact (nI_leI (by omega) (by omega)).mp h1
      refine ⟨j, hj4, hj, i_log hj4 hj ?_, i_ref (by rw [if_pos h1, if_pos h2])⟩
      unfold jmax jmin
      rw [h512]
      by_cases h3 : j < 512
      · rw [if_pos (nI_lt h3 (by omega))]
        by_cases h6 : 4 < j
        · rw [n4, if_pos (nI_lt h6 (by omega))]
        · have : j = 4 := by omega
          subst this; rfl
      · have : j = 512 := by omega
        subst this; rfl
    · refine ⟨512, by omega, by omega, i_log (by omega) (by omega) ?_, i_ref (by rw [if_pos h1, if_neg h2]; exact h512)⟩
      unfold jmax jmin
      rw [if_neg (fun h => h2 (Int32.le_of_lt h))]; rfl
  · refine ⟨4, by omega, by omega, i_log (by omega) (by omega) ?_, i_ref (by rw [if_neg h1]; exact n4)⟩
    have h3 : a < 4 := Int32.not_le.mp h1
    unfold jmax jmin
    rw [if_pos (Int32.lt_trans h3 (by decide +kernel)), if_neg (fun h => h1 (Int32.le_of_lt h))]; exact n4
