section
variable {n : Nat}
theorem o_marks (h5 : n ≤ 512) (k : Int32) : ∃ a, m_Log_marks (G0 n) k = some a ∧ m_RRef_marks (R0 n) k = some a := by
  unfold m_Log_marks m_RRef_marks m_Marks_size m_Marks_numberAt
  obtain ⟨f, hf, -⟩ := fu1 (k := 1) (fuel := FU) (FU_lt (by omega))
  rw [if_neg (show ¬ g_isOpen (G0 n) = 0 from e10), if_neg (show ¬ g_Ropen (R0 n) = 0 from e10), bs (cnt0 1)]
  by_cases h : k = (-1)
  · rw [if_pos h, if_pos h]; exact ⟨_, rfl, rfl⟩
  · rw [if_neg h, if_neg h, bs (hask0 h5 k), if_pos rfl, hf, m_RRef_marks_L25, if_pos (show g_Rmarks (R0 n) ≤ 0 by show (0 : Int32) ≤ 0; decide)]
    exact ⟨_, rfl, rfl⟩
theorem o_markOf (h5 : n ≤ 512) (k v : Int32) : ∃ a, m_Log_markOf (G0 n) k v = some a ∧ m_RRef_markOf (R0 n) k v = some a := by
  unfold m_Log_markOf m_RRef_markOf
  rw [if_neg (show ¬ g_isOpen (G0 n) = 0 from e10), bs (tb0 h5 k), if_neg (by decide), if_neg (by decide), bs (r_findMark0 rfl k), if_neg (show ¬ g_Ropen (R0 n) = 0 from e10), if_pos rfl]
  exact ⟨_, rfl, rfl⟩
theorem o_partOf (h5 : n ≤ 512) (k v : Int32) : ∃ a, m_Log_partOf (G0 n) k v = some a ∧ m_RRef_partOf (R0 n) k v = some a := by
  unfold m_Log_partOf m_RRef_partOf m_RRef_isIn
  rw [if_neg (show ¬ g_isOpen (G0 n) = 0 from e10), if_neg (show ¬ g_Ropen (R0 n) = 0 from e10)]
  by_cases h1 : v < 0
  · rw [if_pos h1, if_pos h1]; exact ⟨_, rfl, rfl⟩
  · rw [if_neg h1, if_neg h1]
    by_cases h2 : v ≤ 5
    · rw [if_pos h2, if_neg (Int32.not_lt.mpr h2), bs (fp0 h5 k), if_pos rfl, Option.bind_some, if_neg e10, bs (r_findPart0 rfl k), if_pos rfl]
      exact ⟨_, rfl, rfl⟩
    · rw [if_neg h2, if_pos (Int32.not_le.mp h2)]; exact ⟨_, rfl, rfl⟩
theorem o_partByte (h5 : n ≤ 512) (k v : Int32) : ∃ a, m_Log_partByte (G0 n) k v = some a ∧ m_RRef_partByte (R0 n) k v = some a := by
  unfold m_Log_partByte m_RRef_partByte
  rw [if_neg (show ¬ g_isOpen (G0 n) = 0 from e10), bs (fp0 h5 k), if_pos rfl, bs (r_findPart0 rfl k), if_neg (show ¬ g_Ropen (R0 n) = 0 from e10), if_pos rfl]
  exact ⟨_, rfl, rfl⟩
theorem cn0 {x : St_Marks} (hs : x.2.2.2.2.2 = 0) (k : Int32) : m_Marks_countNaming x k = some 0 := by
  unfold m_Marks_countNaming
  obtain ⟨f, hf, -⟩ := fu1 (k := 1) (fuel := FU) (FU_lt (by omega))
  rw [hf, m_Marks_countNaming_L4, hs, if_pos (by decide)]
theorem o_named (k : Int32) : ∃ a, m_Log_named (G0 n) k = some a ∧ m_RRef_named (R0 n) k = some a := by
  unfold m_Log_named m_RRef_named m_Log_countNaming m_RRef_named0
  obtain ⟨f, hf, -⟩ := fu1 (k := 1) (fuel := FU) (FU_lt (by omega))
  rw [if_neg (show ¬ g_isOpen (G0 n) = 0 from e10), if_neg (show ¬ g_Ropen (R0 n) = 0 from e10), bs (cn0 rfl k), bs (cn0 rfl k), hf, m_RRef_named0_L4, if_pos (show g_Rmarks (R0 n) ≤ 0 by show (0 : Int32) ≤ 0; decide)]
  exact ⟨_, rfl, rfl⟩
theorem o_out (h5 : n ≤ 512) (k v : Int32) : ∃ a g r, m_Log_out (G0 n) k v = some (a, g) ∧ m_RRef_out (R0 n) k v = some (a, r) := by
  unfold m_Log_out m_RRef_out
  rw [if_neg (show ¬ g_isOpen (G0 n) = 0 from e10), bs (tb0 h5 k), if_neg (by decide), if_neg (by decide), bs (r_findMark0 rfl k), if_neg (show ¬ g_Ropen (R0 n) = 0 from e10), if_pos rfl]
  exact ⟨_, _, _, rfl, rfl⟩
theorem o_equal (h5 : n ≤ 512) (k v : Int32) : ∃ a g, m_Log_equal (G0 n) k v = some (a, g) ∧ m_RRef_equal (R0 n) k v = some a := by
  unfold m_Log_equal m_RRef_equal
  rw [if_neg (show ¬ g_isOpen (G0 n) = 0 from e10), bs (tb0 h5 k), if_neg (by decide), if_neg (by decide), if_neg (show ¬ g_Ropen (R0 n) = 0 from e10), bs (r_findMark0 rfl k), bs (r_findMark0 rfl v), if_pos rfl]
  exact ⟨_, _, rfl, rfl⟩
theorem o_in : ∃ a g r, m_Log_in_ (G0 n) = some (a, g) ∧ m_RRef_in_ (R0 n) = some (a, r) := by
  unfold m_Log_in_ m_RRef_in_ m_Log_isSavepointOnTape m_RRef_isSavepoint
  have h1 : m_Bytes_at (g_tape (G0 n)) 1 = some 0 := by
    unfold m_Bytes_at
    rw [if_neg (by decide), if_pos (show (g_tape (G0 n)).2 ≤ 1 by show (0 : Int32) ≤ 1; decide)]
  have h0 : m_Bytes_at (g_tape (G0 n)) 0 = some 0 := by
    unfold m_Bytes_at
    rw [if_neg (by decide), if_pos (show (g_tape (G0 n)).2 ≤ 0 by show (0 : Int32) ≤ 0; decide)]
  obtain ⟨x, h2, -, -⟩ := b_clear (x := g_tape (G0 n)) (show 2000 < 1048576 by omega)
  rw [bs h1, if_neg (show ¬ g_isOpen (G0 n) = 0 from e10), bs h1, bs h0, if_neg (by decide), Option.bind_some, if_pos rfl, bs h2, if_neg (show ¬ g_Ropen (R0 n) = 0 from e10), if_pos (show g_Rtaped (R0 n) < 10 by show (0 : Int32) < 10; decide), Option.bind_some, if_pos rfl]
  exact ⟨_, _, _, rfl, rfl⟩
theorem neg0 {x : Int32} (h : 0 ≤ x) : 0 - x ≤ 0 := by
  obtain ⟨j, hj, rfl⟩ := nI_of (Int32.not_lt.mpr h)
  rw [Int32.zero_sub]
  apply Int32.le_iff_toInt_le.mpr
  rw [sb_negT hj]
  show -(j : Int) ≤ 0
  omega
theorem o_drop (k : Int32) : ∃ a g r, m_Log_drop (G0 n) k = some (a, g) ∧ m_RRef_drop (R0 n) k = some (a, r) := by
  unfold m_Log_drop m_RRef_drop
  rw [if_neg (show ¬ g_isOpen (G0 n) = 0 from e10), if_neg (show ¬ g_Ropen (R0 n) = 0 from e10)]
  by_cases h : 0 ≤ k
  · rw [if_pos h, if_pos h]
    obtain ⟨f, hf, hf1⟩ := fu1 (k := 1) (fuel := FU) (FU_lt (by omega))
    obtain ⟨f2, hf2, -⟩ := fu1 (k := 0) (fuel := f) (by omega)
    have e1 : m_Marks_greatestPart (g_kept (G0 n)) = some 0 := by
      unfold m_Marks_greatestPart
      rw [hf, m_Marks_greatestPart_L4, if_pos (show (g_kept (G0 n)).2.2.2.2.2 ≤ 0 by show (0 : Int32) ≤ 0; decide)]
    have e2 : m_Log_dropMarks (G0 n) (0 - k) = some (1, G0 n) := by
      unfold m_Log_dropMarks
      rw [hf, m_Log_dropMarks_L2]
      unfold m_Marks_removeFirst
      rw [if_pos (neg0 h), if_neg (Int32.not_lt.mpr (neg0 h)), Option.bind_some, if_neg (show ¬ ¬ (g_isOpen (G0 n) = 0 ∨ g_isOpen (G0 n) = 1) from e11)]
      rfl
    have e3 : m_Log_dropParts (G0 n) 0 = some (0, G0 n) := by
      unfold m_Log_dropParts
      rw [hf, m_Log_dropParts_L7]
      unfold m_Parts_size m_Parts_shorten
      rw [Option.bind_some, if_pos (show (g_parts (G0 n)).2.2.2.2.2 ≤ 0 by show (0 : Int32) ≤ 0; decide), Option.bind_some]
      rfl
    have e4 : m_RRef_drop_L21 FU (R0 n) k 0 0 = some (0, R0 n) := by
      rw [hf, m_RRef_drop_L21, if_pos (show g_Rmarks (R0 n) ≤ 0 by show (0 : Int32) ≤ 0; decide), hf, m_RRef_drop_L78, bs (cnt0 1), if_pos h, hf, m_RRef_drop_L135, if_neg e10, hf, m_RRef_drop_L146, if_pos (show g_Rparts (R0 n) ≤ 0 by show (0 : Int32) ≤ 0; decide), if_pos rfl, hf2, m_RRef_drop_L135, if_pos rfl]
    unfold m_Marks_size
    rw [bs e1, Option.bind_some, show (g_kept (G0 n)).2.2.2.2.2 - k = 0 - k from rfl, bs e2, if_neg e10, bs e3, if_neg (show ¬ g_isOpen (G0 n) = 0 from e10), e4]
    exact ⟨_, _, _, rfl, rfl⟩
  · rw [if_neg h, if_neg h]; exact ⟨_, _, _, rfl, rfl⟩
-- rows and bytes that a call names
theorem c_hasX (h4 : 4 ≤ n) (h5 : n ≤ 512) (row i : Int32) : (m_Medium_has (g_medium (G0 n)) row i = some 0 ∧ ((m_RRef_isIn row 0 ((g_Rrows (R0 n)) - 1) = some 0) ∨ (m_RRef_isIn row 0 ((g_Rrows (R0 n)) - 1) = some 1 ∧ m_RRef_isIn i 0 31 = some 0))) ∨ ∃ a b : Nat, a < n ∧ b < 32 ∧ row = nI a ∧ i = nI b ∧ m_Medium_has (g_medium (G0 n)) row i = some 1 ∧ m_RRef_isIn row 0 ((g_Rrows (R0 n)) - 1) = some 1 ∧ m_RRef_isIn i 0 31 = some 1 := by
  have hr : g_Rrows (R0 n) - 1 = nI (n - 1) := by
    show nI n - 1 = nI (n - 1)
    rw [n1, pk_sub (by omega)]
  have h31 : (31 : Int32) = nI 31 := by decide +kernel
  rw [hr]
  unfold m_Medium_has m_RRef_isIn
  show (_ ∧ _) ∨ _
  rcases pk_ix row (n := n) (by omega) with h | h | ⟨a, ha, rfl⟩
  · left; rw [if_pos h, if_pos h]; exact ⟨rfl, Or.inl rfl⟩
  · left
    have h0 : ¬ row < 0 := fun h1 => Int32.lt_irrefl (Int32.lt_of_lt_of_le (Int32.lt_of_le_of_lt h h1) (nI_pos' (n := n) (by omega)))
    rw [if_neg h0, if_pos (show (g_medium (G0 n)).1 ≤ row from h), if_neg h0, if_pos (Int32.lt_of_lt_of_le (nI_lt (by omega) (by omega)) h)]
    exact ⟨rfl, Or.inl rfl⟩
  · have g1 : ¬ nI a < 0 := nI_pos (by omega)
    have g2 : ¬ (g_medium (G0 n)).1 ≤ nI a := nI_ge ha (by omega)
    have g3 : ¬ nI (n - 1) < nI a := nI_nlt (by omega) (by omega)
    rw [if_neg g1, if_neg g2, if_neg g1, if_neg g3]
    rcases pk_ix i (n := 32) (by omega) with h | h | ⟨b, hb, rfl⟩
    · left; rw [if_pos h, if_pos h]; exact ⟨rfl, Or.inr ⟨rfl, rfl⟩⟩
    · left
      have h0 : ¬ i < 0 := fun h1 => Int32.lt_irrefl (Int32.lt_of_lt_of_le (Int32.lt_of_le_of_lt h h1) (nI_pos' (n := 32) (by omega)))
      rw [if_neg h0, n32, if_pos h, if_neg h0, h31, if_pos (Int32.lt_of_lt_of_le (nI_lt (by omega) (by omega)) h)]
      exact ⟨rfl, Or.inr ⟨rfl, rfl⟩⟩
    · right
      refine ⟨a, b, ha, hb, rfl, rfl, ?_, rfl, ?_⟩
      · rw [if_neg (nI_pos (by omega)), n32, if_neg (nI_ge hb (by omega))]
      · rw [if_neg (nI_pos (by omega)), h31, if_neg (nI_nlt (by omega) (by omega))]
theorem med0 (h4 : 4 ≤ n) (h5 : n ≤ 512) : MedOk n (g_medium (G0 n)) := ⟨rfl, rfl, h4, h5⟩
theorem o_byteAt (h4 : 4 ≤ n) (h5 : n ≤ 512) (row i : Int32) : ∃ a, m_Log_byteAt (G0 n) row i = some a ∧ m_RRef_byteAt (R0 n) row i = some a := by
  unfold m_Log_byteAt m_RRef_byteAt
  rcases c_hasX h4 h5 row i with ⟨h1, h2 | ⟨h2, h3⟩⟩ | ⟨a, b, ha, hb, rfl, rfl, h1, h2, h3⟩
  · rw [bs h1, if_pos rfl, bs h2, if_pos rfl]; exact ⟨_, rfl, rfl⟩
  · rw [bs h1, if_pos rfl, bs h2, if_neg e10, bs h3, if_pos rfl]; exact ⟨_, rfl, rfl⟩
  · rw [bs h1, if_neg e10, bs (c_at (med0 h4 h5) ha hb), bs h2, if_neg e10, bs h3, if_neg e10, n32, pk_mul, nI_add, if_neg (show ¬ (nI (32 * a + b) < 0 ∨ (g_Rmedium (R0 n)).1 ≤ (nI (32 * a + b)).toNatClampNeg) from nI_in (show 32 * a + b < 16384 by omega) (show 16384 < 2 ^ 31 by omega))]
    exact ⟨_, rfl, rfl⟩
theorem x8 (a p : Int32) : (a ^^^ p.toInt8.toInt32).toInt8 = (a ^^^ p).toInt8 := by
  rw [Int32.toInt8_xor, Int32.toInt8_xor, Int8.toInt8_toInt32]
theorem o_poke (h4 : 4 ≤ n) (h5 : n ≤ 512) (row i k : Int32) : ∃ a g r, m_Log_poke (G0 n) row i k = some (a, g) ∧ m_RRef_poke (R0 n) row i k = some (a, r) := by
  unfold m_Log_poke m_RRef_poke
  rcases c_hasX h4 h5 row i with ⟨h1, h2 | ⟨h2, h3⟩⟩ | ⟨a, b, ha, hb, rfl, rfl, h1, h2, h3⟩
  · rw [bs h1, if_pos rfl, bs h2, if_pos rfl]; exact ⟨_, _, _, rfl, rfl⟩
  · rw [bs h1, if_pos rfl, bs h2, if_neg e10, bs h3, if_pos rfl]; exact ⟨_, _, _, rfl, rfl⟩
  · rw [bs h1, if_neg e10, bs h2, if_neg e10, bs h3, if_neg e10]
    unfold m_RRef_isIn
    by_cases k1 : k < 1
    · rw [if_pos k1, if_pos k1, Option.bind_some, if_pos rfl]; exact ⟨_, _, _, rfl, rfl⟩
    · rw [if_neg k1, if_neg k1]
      by_cases k2 : k ≤ 255
      · have hin : ¬ (nI (32 * a + b) < 0 ∨ (g_medium (G0 n)).2.1.1 ≤ (nI (32 * a + b)).toNatClampNeg) := nI_in (show 32 * a + b < 32 * n by omega) (show 32 * n < 2 ^ 31 by omega)
        have hin2 : ¬ (nI (32 * a + b) < 0 ∨ (g_Rmedium (R0 n)).1 ≤ (nI (32 * a + b)).toNatClampNeg) := nI_in (show 32 * a + b < 16384 by omega) (show 16384 < 2 ^ 31 by omega)
        have hc : (nI (32 * a + b)).toNatClampNeg = 32 * a + b := nI_clamp (by omega)
        have hal : m_Medium_alter (g_medium (G0 n)) (nI a) (nI b) k = some (nI n, (32 * n, upd (fun _ => 0) (32 * a + b) (vp_nar .byte (((0 : Int32) ^^^ k.toInt8.toInt32).toInt8.toInt32))), (-1), 0) := by
          unfold m_Medium_alter
          rw [bs h1, if_neg e10, n32, pk_mul, nI_add, Nat.mul_comm a 32, if_neg hin, if_neg hin, hc]
          rfl
        rw [if_pos k2, if_neg (Int32.not_lt.mpr k2), bs hal, bs (c_at (n := n) ⟨rfl, rfl, h4, h5⟩ ha hb), Option.bind_some, if_neg e10, n32, pk_mul, nI_add, if_neg hin2, if_neg hin2, if_neg hin2, hc, x8]
        exact ⟨_, _, _, rfl, rfl⟩
      · rw [if_neg k2, if_pos (Int32.not_le.mp k2), Option.bind_some, if_pos rfl]; exact ⟨_, _, _, rfl, rfl⟩
end
