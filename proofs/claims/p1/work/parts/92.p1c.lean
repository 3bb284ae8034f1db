-- THE CLASS, FRESH: each call's answer
section
variable {n : Nat}
theorem g_feed (h4 : 4 ≤ n) (v : Int64) : ∀ (d fuel : Nat) (g : St_Log) (K j : Nat), K ≤ 8 → (g_tape g).1.1 = 2000 → (g_tape g).2 = nI j → j + d = K → d < fuel → ∃ g', m_Log_feed_L35 fuel g v (nI K) (nI j) = some (nI K, g') := by
  intro d
  induction d with
  | zero =>
    intro fuel g K j hK hl ht hj hf
    obtain ⟨f, rfl, -⟩ := fu1 hf
    rw [m_Log_feed_L35, if_pos (nI_le (by omega) (by omega))]
    unfold m_Bytes_size
    rw [Option.bind_some, ht, show j = K by omega]
    exact ⟨_, rfl⟩
  | succ d ih =>
    intro fuel g K j hK hl ht hj hf
    obtain ⟨f, rfl, hf'⟩ := fu1 hf
    obtain ⟨x, h1, h2, h3⟩ := b_add1 (x := g_tape g) (by omega) ht (by omega) (jlushr v (8 * nI j))
    rw [m_Log_feed_L35, if_neg (nI_ge (by omega) (by omega)), bs h1, nI_1]
    exact ih f (s_tape g x) K (j + 1) hK (by show x.1.1 = 2000; omega) h3 (by omega) (by omega)
theorem r_feed (v : Int64) : ∀ (d fuel : Nat) (g : St_Ref) (K j : Nat), K ≤ 8 → (g_Rtape g).1 = 2000 → g_Rtaped g = nI j → j + d = K → d < fuel → ∃ g', m_RRef_feed_L31 fuel g v (nI K) (nI j) = some (nI K, g') := by
  intro d
  induction d with
  | zero =>
    intro fuel g K j hK hl ht hj hf
    obtain ⟨f, rfl, -⟩ := fu1 hf
    rw [m_RRef_feed_L31, if_pos (nI_le (by omega) (by omega)), ht, show j = K by omega]
    exact ⟨_, rfl⟩
  | succ d ih =>
    intro fuel g K j hK hl ht hj hf
    obtain ⟨f, rfl, hf'⟩ := fu1 hf
    rw [m_RRef_feed_L31, if_neg (nI_ge (by omega) (by omega)), ht, if_neg (nI_in (by omega) (by omega)), nI_1 j]
    exact ih f _ K (j + 1) hK hl rfl (by omega) (by omega)
theorem o_feed (h4 : 4 ≤ n) (v : Int64) (k : Int32) : ∃ a g r, m_Log_feed (G0 n) v k = some (a, g) ∧ m_RRef_feed (R0 n) v k = some (a, r) := by
  unfold m_Log_feed m_RRef_feed m_RRef_isIn
  by_cases h1 : k < 1
  · rw [if_pos h1, if_pos h1]; exact ⟨_, _, _, rfl, rfl⟩
  · rw [if_neg h1, if_neg h1]
    by_cases h2 : k ≤ 8
    · obtain ⟨K, hK, rfl⟩ := nI_of2 (x := k) (M := 8) (n := 8) (by decide +kernel) (fun h => h1 (Int32.lt_trans h (by decide))) h2
      rw [if_pos h2, if_neg (Int32.not_lt.mpr h2)]
      unfold m_Bytes_size
      obtain ⟨g', e1⟩ := g_feed h4 v K FU (G0 n) K 0 hK rfl n0 (by omega) (FU_lt (by omega))
      obtain ⟨r', e2⟩ := r_feed v K FU (R0 n) K 0 hK rfl n0 (by omega) (FU_lt (by omega))
      have hle : nI K ≤ 2000 := Int32.le_trans h2 (by decide)
      have hz : (0 : Int32) + nI K = nI K := by rw [n0, nI_add, Nat.zero_add]
      rw [Option.bind_some, Option.bind_some, if_neg e10, show (g_tape (G0 n)).2 + nI K = nI K from hz, if_pos hle, show g_Rtaped (R0 n) + nI K = nI K from hz, if_pos hle]
      exact ⟨_, _, _, e1, e2⟩
    · rw [if_neg h2, if_pos (Int32.not_le.mp h2)]; exact ⟨_, _, _, rfl, rfl⟩
theorem o_wipe : ∃ a g r, m_Log_wipe (G0 n) = some (a, g) ∧ m_RRef_wipe (R0 n) = some (a, r) := by
  unfold m_Log_wipe m_RRef_wipe m_Bytes_size
  obtain ⟨x, h1, -, -⟩ := b_clear (x := g_tape (G0 n)) (show 2000 < 1048576 by omega)
  rw [Option.bind_some, bs h1]
  exact ⟨_, _, _, rfl, rfl⟩
theorem o_cut (k : Int32) : ∃ a g r, m_Log_cut (G0 n) k = some (a, g) ∧ m_RRef_cut (R0 n) k = some (a, r) := by
  unfold m_Log_cut m_RRef_cut m_RRef_isIn m_Medium_setPower
  by_cases h1 : k < (-1)
  · rw [if_pos h1, if_pos h1]; exact ⟨_, _, _, rfl, rfl⟩
  · rw [if_neg h1, if_neg h1]
    by_cases h2 : k ≤ 20000
    · rw [if_pos h2, if_neg (Int32.not_lt.mpr h2)]; exact ⟨_, _, _, rfl, rfl⟩
    · rw [if_neg h2, if_pos (Int32.not_le.mp h2)]; exact ⟨_, _, _, rfl, rfl⟩
theorem o_close : ∃ a g r, m_Log_close (G0 n) = some (a, g) ∧ m_RRef_close (R0 n) = some (a, r) := by
  unfold m_Log_close m_RRef_close
  exact ⟨1, _, _, if_neg e11, if_neg e11⟩
theorem o_mark (k : Int32) : ∃ a g r, m_Log_mark (G0 n) k = some (a, g) ∧ m_RRef_mark (R0 n) k = some (a, r) := by
  unfold m_Log_mark m_RRef_mark m_RRef_isIn m_Parts_size
  rw [if_neg (show ¬ g_isOpen (G0 n) = 0 from e10), if_neg (show ¬ g_Ropen (R0 n) = 0 from e10)]
  by_cases h1 : k < 1
  · rw [if_pos h1, if_pos h1]; exact ⟨_, _, _, rfl, rfl⟩
  · rw [if_neg h1, if_neg h1]
    have h0 : ¬ k ≤ 0 := fun h => h1 (Int32.lt_of_le_of_lt h (by decide))
    by_cases h2 : k ≤ 12
    · rw [if_pos h2, if_neg (Int32.not_lt.mpr h2), Option.bind_some, Option.bind_some, if_neg (show ¬ k ≤ (g_parts (G0 n)).2.2.2.2.2 from h0), if_neg e10, if_neg (show ¬ k ≤ g_Rparts (R0 n) from h0)]
      exact ⟨_, _, _, rfl, rfl⟩
    · rw [if_neg h2, if_pos (Int32.not_le.mp h2)]; exact ⟨_, _, _, rfl, rfl⟩
theorem placeOf0 {x : AI} (hx : x.1 < 2 ^ 31) (v : Int32) : m_Log_placeOf x 0 v = some 0 := by
  unfold m_Log_placeOf
  obtain ⟨f, hf, -⟩ := fu1 (k := 1) (fuel := FU) (FU_lt (by omega))
  have hj : jmin 0 (nI x.1) = 0 := by
    unfold jmin
    rw [if_neg (nI_pos hx)]
  rw [hf, hj, m_Log_placeOf_L10, if_pos (by decide)]
theorem mfind0 {x : St_Marks} (hx : x.1.1 < 2 ^ 31) (hs : x.2.2.2.2.2 = 0) (v : Int32) : m_Marks_find x v = some (-1) := by
  unfold m_Marks_find m_Marks_numberAt m_Marks_has
  rw [hs, bs (placeOf0 hx v), if_neg (by decide), if_pos (by decide), Option.bind_some, if_pos (by decide), Option.bind_some]
  split
  · rw [if_pos (by decide)]
  · rfl
theorem pfind0 {x : St_Parts} (hx : x.1.1 < 2 ^ 31) (hs : x.2.2.2.2.2 = 0) (v : Int32) : m_Parts_find x v = some (-1) := by
  unfold m_Parts_find m_Parts_numberAt m_Parts_has
  rw [hs, bs (placeOf0 hx v), if_neg (by decide), if_pos (by decide), Option.bind_some, if_pos (by decide), Option.bind_some]
  split
  · rw [if_pos (by decide)]
  · rfl
theorem r_findPart0 {r : St_Ref} (h : g_Rparts r = 0) (v : Int32) : m_RRef_findPart r v = some (-1) := by
  unfold m_RRef_findPart
  obtain ⟨f, hf, -⟩ := fu1 (k := 1) (fuel := FU) (FU_lt (by omega))
  rw [hf, m_RRef_findPart_L2, h, if_pos (by decide)]
theorem r_findMark0 {r : St_Ref} (h : g_Rmarks r = 0) (v : Int32) : m_RRef_findMark r v = some (-1) := by
  unfold m_RRef_findMark
  obtain ⟨f, hf, -⟩ := fu1 (k := 1) (fuel := FU) (FU_lt (by omega))
  rw [hf, m_RRef_findMark_L2, h, if_pos (by decide)]
theorem fmd0 (v : Int32) : m_Marks_find (g_made (G0 n)) v = some (-1) := mfind0 (show 6 < 2 ^ 31 by omega) rfl v
theorem fk0 (h5 : n ≤ 512) (v : Int32) : m_Marks_find (g_kept (G0 n)) v = some (-1) := mfind0 (show n / 2 < 2 ^ 31 by omega) rfl v
theorem fp0 (h5 : n ≤ 512) (v : Int32) : m_Parts_find (g_parts (G0 n)) v = some (-1) := pfind0 (show n < 2 ^ 31 by omega) rfl v
theorem tb0 (h5 : n ≤ 512) (v : Int32) : m_Log_tableOf (G0 n) v = some 0 := by
  unfold m_Log_tableOf
  rw [bs (fk0 h5 v), if_pos rfl, bs (fmd0 v), if_pos rfl]
theorem o_keep (k : Int32) : ∃ a g r, m_Log_keep (G0 n) k = some (a, g) ∧ m_RRef_keep (R0 n) k = some (a, r) := by
  unfold m_Log_keep m_RRef_keep
  rw [if_neg (show ¬ g_isOpen (G0 n) = 0 from e10), if_neg (show ¬ g_Ropen (R0 n) = 0 from e10), bs (fmd0 k), if_pos rfl, bs (r_findMark0 rfl k), if_pos rfl]
  exact ⟨_, _, _, rfl, rfl⟩
theorem o_give (k : Int32) : ∃ a g r, m_Log_give (G0 n) k = some (a, g) ∧ m_RRef_give (R0 n) k = some (a, r) := by
  unfold m_Log_give m_RRef_give
  rw [if_neg (show ¬ g_isOpen (G0 n) = 0 from e10), if_neg (show ¬ g_Ropen (R0 n) = 0 from e10), bs (fmd0 k), if_pos rfl, bs (r_findMark0 rfl k), if_pos rfl]
  exact ⟨_, _, _, rfl, rfl⟩
theorem o_usable : ∃ a, m_Log_usable (G0 n) = some a ∧ m_RRef_usable (R0 n) = some a := by
  unfold m_Log_usable m_RRef_usable m_Marks_size
  obtain ⟨f, hf, -⟩ := fu1 (k := 1) (fuel := FU) (FU_lt (by omega))
  rw [if_neg (show ¬ g_isOpen (G0 n) = 0 from e10), if_neg (show ¬ g_Ropen (R0 n) = 0 from e10), Option.bind_some, hf, m_Log_usable_L20, m_RRef_usable_L14, if_pos (show (g_kept (G0 n)).2.2.2.2.2 - 1 < 0 by show (0 : Int32) - 1 < 0; decide), if_pos (show g_Rmarks (R0 n) ≤ 0 by show (0 : Int32) ≤ 0; decide)]
  exact ⟨_, rfl, rfl⟩
theorem o_whole (h5 : n ≤ 512) (k : Int32) : ∃ a, m_Log_whole (G0 n) k = some a ∧ m_RRef_whole (R0 n) k = some a := by
  unfold m_Log_whole m_RRef_whole
  rw [if_neg (show ¬ g_isOpen (G0 n) = 0 from e10), bs (tb0 h5 k), if_neg (by decide), if_neg (by decide), bs (r_findMark0 rfl k), if_neg (show ¬ g_Ropen (R0 n) = 0 from e10), if_pos rfl]
  exact ⟨_, rfl, rfl⟩
theorem cnt0 (v : Int32) : m_RRef_count (R0 n) v = some 0 := by
  unfold m_RRef_count
  obtain ⟨f, hf, -⟩ := fu1 (k := 1) (fuel := FU) (FU_lt (by omega))
  rw [hf, m_RRef_count_L4, if_pos (show g_Rmarks (R0 n) ≤ 0 by show (0 : Int32) ≤ 0; decide)]
theorem hask0 (h5 : n ≤ 512) (k : Int32) : m_Marks_has (g_kept (G0 n)) k = some 0 := by
  unfold m_Marks_has
  by_cases h : k < 0
  · rw [if_pos h]
  · rw [if_neg h, if_pos (show (g_kept (G0 n)).2.2.2.2.2 ≤ k from Int32.not_lt.mp h)]
end
