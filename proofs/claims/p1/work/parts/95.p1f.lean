section
variable {n : Nat}
theorem zr0 : Zr n (R0 n) := ⟨rfl, rfl, rfl⟩
theorem r_heads {g : St_Ref} (h : Zr n g) (hs : g_Rserial g = 0) (ho : (g_Rowners g).1 = 8) : ∃ o : AI, m_RRef_heads_L9 FU g (-1) 0 = some (s_Rowners g o) := by
  obtain ⟨f, hf, hf1⟩ := fu1 (k := 4) (fuel := FU) (FU_lt (by omega))
  obtain ⟨f2, hf2, hf3⟩ := fu1 (k := 3) (fuel := f) (by omega)
  obtain ⟨f4, hf4, -⟩ := fu1 (k := 2) (fuel := f2) (by omega)
  obtain ⟨o, h1⟩ := zr_heads65 8 FU g 0 ho (by omega) (FU_lt (by omega))
  have hz : (0 : Int32) ≤ g_Rserial g := by rw [hs]; decide
  rw [hf, m_RRef_heads_L9, if_neg (by decide), bs (show m_RRef_isGood g 0 = some 0 from zr_good h (row := 0) (by omega)), if_pos rfl, if_pos hz, hf2, m_RRef_heads_L9, if_neg (by decide), bs (show m_RRef_isGood g (0 + 1) = some 0 from zr_good h (row := 1) (by omega)), if_pos rfl, if_pos hz, hf4, m_RRef_heads_L9, if_pos (by decide)]
  exact ⟨o, h1⟩
theorem o_open (h4 : 4 ≤ n) (h5 : n ≤ 512) : ∃ a g r, m_Log_open_ (G0 n) = some (a, g) ∧ m_RRef_open_ (R0 n) = some (a, r) := by
  obtain ⟨g, hg⟩ := g_open h4 h5
  obtain ⟨o, h1⟩ := r_heads (n := n) (g := s_Rserial (s_RlastMark (s_RlastPart (s_Rmarks (s_Rparts (s_Ropen (R0 n) 1) 0) 0) 0) 0) 0) ⟨rfl, rfl, rfl⟩ rfl rfl
  have h2 := zr_open_L (n := n) (n - 2) FU (s_Rowners (s_Rserial (s_RlastMark (s_RlastPart (s_Rmarks (s_Rparts (s_Ropen (R0 n) 1) 0) 0) 0) 0) 0) o) 2 h5 ⟨rfl, rfl, rfl⟩ (by omega) (by omega) (FU_lt (by omega))
  refine ⟨0, g, s_Rowners (s_Rserial (s_RlastMark (s_RlastPart (s_Rmarks (s_Rparts (s_Ropen (R0 n) 1) 0) 0) 0) 0) 0) o, hg, ?_⟩
  unfold m_RRef_open_ m_RRef_heads
  rw [bs h1]
  exact h2
theorem z_clear_L {x : St_Medium} (h : Zm n x) {row : Nat} (hr : row < n) : ∀ (d fuel j : Nat), j + d = 32 → d < fuel → m_Medium_isClear_L2 x fuel (nI row) (nI j) = some 1 := by
  intro d
  induction d with
  | zero =>
    intro fuel j hj hf
    obtain ⟨f, rfl, -⟩ := fu1 hf
    rw [m_Medium_isClear_L2, n32, if_pos (nI_le (by omega) (by omega))]
  | succ d ih =>
    intro fuel j hj hf
    obtain ⟨f, rfl, hf'⟩ := fu1 hf
    rw [m_Medium_isClear_L2]
    rw [show (32 : Int32) = nI 32 from n32, if_neg (nI_ge (by omega) (by omega)), bs (z_at h hr (by omega)), if_pos rfl, nI_1]
    exact ih f (j + 1) (by omega) (by omega)
theorem z_clear {x : St_Medium} (h : Zm n x) {row : Nat} (hr : row < n) : m_Medium_isClear x (nI row) = some 1 := by
  unfold m_Medium_isClear
  rw [n0]
  exact z_clear_L h hr 32 FU 0 (by omega) (FU_lt (by omega))
theorem g_badAt (h4 : 4 ≤ n) (h5 : n ≤ 512) : m_Log_badAt (G0 n) = some (-1) := by
  unfold m_Log_badAt
  obtain ⟨f, hf, hf1⟩ := fu1 (k := 4) (fuel := FU) (FU_lt (by omega))
  obtain ⟨f2, hf2, hf3⟩ := fu1 (k := 3) (fuel := f) (by omega)
  obtain ⟨f4, hf4, -⟩ := fu1 (k := 2) (fuel := f2) (by omega)
  have hz : Zm n (g_medium (G0 n)) := ⟨med0 h4 h5, rfl⟩
  have hs1 : (g_parts (G0 n)).2.2.2.2.2 ≤ 0 := by show (0 : Int32) ≤ 0; decide
  have hs2 : (g_kept (G0 n)).2.2.2.2.2 ≤ 0 := by show (0 : Int32) ≤ 0; decide
  rw [if_neg (show ¬ g_isOpen (G0 n) = 0 from e10), hf, m_Log_badAt_L12, if_neg (by decide), bs (show m_Medium_isClear (g_medium (G0 n)) 0 = some 1 from z_clear hz (row := 0) (by omega)), if_neg e10, hf2, m_Log_badAt_L12, if_neg (by decide), bs (show m_Medium_isClear (g_medium (G0 n)) (0 + 1) = some 1 from z_clear hz (row := 1) (by omega)), if_neg e10, hf4, m_Log_badAt_L12, if_pos (by decide)]
  unfold m_Medium_rows
  rw [Option.bind_some, hf, m_Log_badAt_L54]
  unfold m_Parts_size
  rw [Option.bind_some, if_pos hs1, hf, m_Log_badAt_L102]
  unfold m_Marks_size m_Medium_rows
  rw [Option.bind_some, if_pos hs2, Option.bind_some, if_pos (Int32.le_refl _)]
theorem zr_clear {r : St_Ref} (h : Zr n r) {row : Nat} (hr : row < 512) (k : Int32 → Int32 → Int32 → Option Int32) (v1 : Int32) : ∀ (d fuel j : Nat), j + d = 32 → d < fuel → m_RRef_badAt_L143 r k fuel v1 (nI row) 1 (nI j) = k v1 (nI row) 1 := by
  intro d
  induction d with
  | zero =>
    intro fuel j hj hf
    obtain ⟨f, rfl, -⟩ := fu1 hf
    rw [m_RRef_badAt_L143, n32, if_pos (nI_le (by omega) (by omega))]
  | succ d ih =>
    intro fuel j hj hf
    obtain ⟨f, rfl, hf'⟩ := fu1 hf
    rw [m_RRef_badAt_L143]
    rw [show (32 : Int32) = nI 32 from n32, if_neg (nI_ge (by omega) (by omega)), if_neg e10, pk_mul, nI_add, if_neg (show ¬ (nI (32 * row + j) < 0 ∨ (g_Rmedium r).1 ≤ (nI (32 * row + j)).toNatClampNeg) by rw [h.1]; exact nI_in (by omega) (by omega)), if_pos (by rw [h.2.1]), nI_1]
    exact ih f (j + 1) (by omega) (by omega)
theorem r_badAt : m_RRef_badAt (R0 n) = some (-1) := by
  unfold m_RRef_badAt
  obtain ⟨f, hf, hf1⟩ := fu1 (k := 4) (fuel := FU) (FU_lt (by omega))
  obtain ⟨f2, hf2, hf3⟩ := fu1 (k := 3) (fuel := f) (by omega)
  obtain ⟨f4, hf4, -⟩ := fu1 (k := 2) (fuel := f2) (by omega)
  rw [if_neg (show ¬ g_Ropen (R0 n) = 0 from e10), hf, m_RRef_badAt_L14, if_pos (show g_Rmarks (R0 n) ≤ 0 by show (0 : Int32) ≤ 0; decide), hf, m_RRef_badAt_L84, if_pos (show g_Rparts (R0 n) ≤ 0 by show (0 : Int32) ≤ 0; decide), hf, m_RRef_badAt_L134, if_neg (by decide), show m_RRef_badAt_L143 (R0 n) _ FU (-1) 1 1 0 = _ from zr_clear zr0 (row := 1) (by omega) _ (-1) 32 FU 0 (by omega) (FU_lt (by omega)), if_neg e10, hf2, m_RRef_badAt_L134, if_neg (show ¬ nI 1 + (-1) < 0 by decide +kernel), show nI 1 + (-1) = nI 0 from pk_m1 0, show m_RRef_badAt_L143 (R0 n) _ FU (-1) (nI 0) 1 0 = _ from zr_clear zr0 (row := 0) (by omega) _ (-1) 32 FU 0 (by omega) (FU_lt (by omega)), if_neg e10, hf4, m_RRef_badAt_L134, if_pos (show nI 0 + (-1) < 0 by decide +kernel)]
theorem o_badAt (h4 : 4 ≤ n) (h5 : n ≤ 512) : ∃ a, m_Log_badAt (G0 n) = some a ∧ m_RRef_badAt (R0 n) = some a := ⟨_, g_badAt h4 h5, r_badAt⟩
-- which rows are used
def us0 (n : Nat) (r : St_Ref) : Prop := (g_Rused r).1 = 512 ∧ ∀ j, 2 ≤ j → j < n → (g_Rused r).2 j = 0
theorem r_used_L (h5 : n ≤ 512) (r0 : St_Ref) (hp : g_Rparts r0 = 0) (hm : g_Rmarks r0 = 0) (hr : g_Rrows r0 = nI n) : ∀ (d fuel : Nat) (u : AI) (j : Nat), u.1 = 512 → (∀ i, 2 ≤ i → i < n → i < j → u.2 i = 0) → j + d = 512 → d < fuel → ∃ u' : AI, m_RRef_marksUsed_L2 fuel (s_Rused r0 u) (nI j) = some (s_Rused r0 u') ∧ us0 n (s_Rused r0 u') := by
  intro d
  induction d with
  | zero =>
    intro fuel u j hu hz hj hf
    obtain ⟨f, rfl, -⟩ := fu1 hf
    obtain ⟨f2, hf2, -⟩ := fu1 (k := 1) (fuel := FU) (FU_lt (by omega))
    rw [m_RRef_marksUsed_L2, show (512 : Int32) = nI 512 by decide +kernel, if_pos (nI_le (by omega) (by omega)), hf2, m_RRef_marksUsed_L41, if_pos (show g_Rparts (s_Rused r0 u) ≤ 0 by show g_Rparts r0 ≤ 0; rw [hp]; decide), hf2, m_RRef_marksUsed_L92, if_pos (show g_Rmarks (s_Rused r0 u) ≤ 0 by show g_Rmarks r0 ≤ 0; rw [hm]; decide)]
    exact ⟨u, rfl, hu, fun i h1 h2 => hz i h1 h2 (by omega)⟩
  | succ d ih =>
    intro fuel u j hu hz hj hf
    obtain ⟨f, rfl, hf'⟩ := fu1 hf
    have hin : ¬ (nI j < 0 ∨ (g_Rused (s_Rused r0 u)).1 ≤ (nI j).toNatClampNeg) := by
      show ¬ (nI j < 0 ∨ u.1 ≤ (nI j).toNatClampNeg)
      rw [hu]; exact nI_in (by omega) (by omega)
    have step : ∀ b : Int32, (2 ≤ j → j < n → vp_nar .boolean b = 0) → ∃ u' : AI, m_RRef_marksUsed_L2 f (s_Rused (s_Rused r0 u) ((g_Rused (s_Rused r0 u)).1, upd (g_Rused (s_Rused r0 u)).2 (nI j).toNatClampNeg (vp_nar .boolean b))) (nI (j + 1)) = some (s_Rused r0 u') ∧ us0 n (s_Rused r0 u') := by
      intro b hb
      refine ih f (u.1, upd u.2 (nI j).toNatClampNeg (vp_nar .boolean b)) (j + 1) hu ?_ (by omega) (by omega)
      intro i h1 h2 h3
      show (if i = (nI j).toNatClampNeg then vp_nar .boolean b else u.2 i) = 0
      rw [nI_clamp (by omega)]
      split
      · rename_i he; subst he; exact hb h1 h2
      · exact hz i h1 h2 (by omega)
    rw [m_RRef_marksUsed_L2, show (512 : Int32) = nI 512 by decide +kernel, if_neg (nI_ge (by omega) (by omega)), n2, nI_1]
    by_cases h2 : j < 2
    · rw [if_pos (nI_lt h2 (by omega)), if_neg hin]
      exact step 1 (fun h => absurd h2 (by omega))
    · rw [if_neg (nI_nlt (by omega) (by omega)), show g_Rrows (s_Rused r0 u) = nI n from hr]
      by_cases h3 : j < n
      · rw [if_pos (nI_lt h3 (by omega)), if_neg hin]
        exact step 0 (fun _ _ => by decide +kernel)
      · rw [if_neg (nI_nlt (by omega) (by omega)), if_neg hin]
        exact step 1 (fun _ h => absurd h h3)
theorem r_used {r0 : St_Ref} (h5 : n ≤ 512) (hp : g_Rparts r0 = 0) (hm : g_Rmarks r0 = 0) (hr : g_Rrows r0 = nI n) (hu : (g_Rused r0).1 = 512) : ∃ u' : AI, m_RRef_marksUsed r0 = some (s_Rused r0 u') ∧ us0 n (s_Rused r0 u') := by
  unfold m_RRef_marksUsed
  rw [n0]
  exact r_used_L h5 r0 hp hm hr 512 FU (g_Rused r0) 0 hu (fun i h1 h2 h3 => absurd h3 (by omega)) (by omega) (FU_lt (by omega))
theorem g_free_L {x : St_Room} (hx : x.1 = n) (h5 : n ≤ 512) (hz : ∀ j, 2 ≤ j → j < n → x.2 j = 0) : ∀ (d fuel j c : Nat), 2 ≤ j → j + d = n → d < fuel → m_Room_countFree_L4 x fuel (nI c) (nI j) = some (nI (c + d)) := by
  intro d
  induction d with
  | zero =>
    intro fuel j c h2 hj hf
    obtain ⟨f, rfl, -⟩ := fu1 hf
    rw [m_Room_countFree_L4, hx, if_pos (nI_le (by omega) (by omega))]; rfl
  | succ d ih =>
    intro fuel j c h2 hj hf
    obtain ⟨f, rfl, hf'⟩ := fu1 hf
    rw [m_Room_countFree_L4, hx, if_neg (nI_ge (by omega) (by omega)), if_neg (nI_in (by omega) (by omega)), nI_clamp (by omega), if_pos (hz j h2 (by omega)), nI_1, nI_1, ih f (j + 1) (c + 1) (by omega) (by omega) (by omega)]
    rw [show c + 1 + d = c + (d + 1) by omega]
theorem r_free_L {r : St_Ref} (hr : g_Rrows r = nI n) (h5 : n ≤ 512) (hz : us0 n r) : ∀ (d fuel j c : Nat), 2 ≤ j → j + d = n → d < fuel → m_RRef_told_L76 fuel r (nI c) (nI j) = some (nI (c + d), r) := by
  intro d
  induction d with
  | zero =>
    intro fuel j c h2 hj hf
    obtain ⟨f, rfl, -⟩ := fu1 hf
    rw [m_RRef_told_L76, hr, if_pos (nI_le (by omega) (by omega))]; rfl
  | succ d ih =>
    intro fuel j c h2 hj hf
    obtain ⟨f, rfl, hf'⟩ := fu1 hf
    rw [m_RRef_told_L76, hr, if_neg (nI_ge (by omega) (by omega)), hz.1, if_neg (nI_in (by omega) (by omega)), nI_clamp (by omega), if_pos (hz.2 j h2 (by omega)), nI_1, nI_1, ih f (j + 1) (c + 1) (by omega) (by omega) (by omega)]
    rw [show c + 1 + d = c + (d + 1) by omega]
theorem told3 (h4 : 4 ≤ n) (h5 : n ≤ 512) : m_Room_countFree (g_room (G0 n)) = some (nI (n - 2)) ∧ ∃ r, (m_RRef_marksUsed (R0 n)).bind (fun q13 => m_RRef_told_L76 FU q13 0 2) = some (nI (n - 2), r) := by
  constructor
  · unfold m_Room_countFree
    have h := g_free_L (n := n) (x := g_room (G0 n)) rfl h5 (fun _ _ _ => rfl) (n - 2) FU 2 0 (by omega) (by omega) (FU_lt (by omega))
    rw [Nat.zero_add] at h
    exact h
  · obtain ⟨u, h1, h2⟩ := r_used (n := n) (r0 := R0 n) h5 rfl rfl rfl rfl
    have h := r_free_L (n := n) (r := s_Rused (R0 n) u) rfl h5 h2 (n - 2) FU 2 0 (by omega) (by omega) (FU_lt (by omega))
    rw [Nat.zero_add] at h
    rw [bs h1]
    exact ⟨_, h⟩
theorem o_told (h4 : 4 ≤ n) (h5 : n ≤ 512) (k : Int32) : ∃ a r, m_Log_told (G0 n) k = some a ∧ m_RRef_told (R0 n) k = some (a, r) := by
  rcases pk_ix k (n := 17) (by omega) with h | h | ⟨j, hj, rfl⟩
  · unfold m_Log_told m_RRef_told m_RRef_isIn
    rw [if_pos h, if_pos h]; exact ⟨_, _, rfl, rfl⟩
  · have h0 : ¬ k < 0 := fun h1 => Int32.lt_irrefl (Int32.lt_of_lt_of_le (Int32.lt_of_le_of_lt h h1) (nI_pos' (n := 17) (by omega)))
    unfold m_Log_told m_RRef_told m_RRef_isIn
    rw [if_neg h0, if_neg (show ¬ k < 17 from Int32.not_lt.mpr h), if_neg h0, if_pos (Int32.lt_of_lt_of_le (show (16 : Int32) < nI 17 by decide +kernel) h)]
    exact ⟨_, _, rfl, rfl⟩
  · obtain ⟨t1, r3, t2⟩ := told3 h4 h5
    by_cases h3 : j = 3
    · subst h3
      refine ⟨nI (n - 2), r3, ?_, ?_⟩
      · show (m_Log_toldOpen (G0 n) (nI 3)).bind _ = _
        have : m_Log_toldOpen (G0 n) (nI 3) = some (nI (n - 2)) := by
          show (m_Room_countFree (g_room (G0 n))).bind _ = _
          rw [bs t1]
        rw [bs this]
      · exact t2
    · rcases (show j = 0 ∨ j = 1 ∨ j = 2 ∨ j = 4 ∨ j = 5 ∨ j = 6 ∨ j = 7 ∨ j = 8 ∨ j = 9 ∨ j = 10 ∨ j = 11 ∨ j = 12 ∨ j = 13 ∨ j = 14 ∨ j = 15 ∨ j = 16 by omega) with rfl | rfl | rfl | rfl | rfl | rfl | rfl | rfl | rfl | rfl | rfl | rfl | rfl | rfl | rfl | rfl
      · exact ⟨_, _, rfl, rfl⟩
      · exact ⟨_, _, rfl, rfl⟩
      · exact ⟨_, _, rfl, rfl⟩
      · exact ⟨_, _, rfl, rfl⟩
      · exact ⟨_, _, rfl, rfl⟩
      · exact ⟨_, _, rfl, rfl⟩
      · exact ⟨_, _, rfl, rfl⟩
      · refine ⟨0, R0 n, rfl, ?_⟩
        show (m_RRef_count (R0 n) 0).bind _ = _
        rw [bs (cnt0 0)]
      · exact ⟨_, _, rfl, rfl⟩
      · exact ⟨_, _, rfl, rfl⟩
      · exact ⟨_, _, rfl, rfl⟩
      · exact ⟨_, _, rfl, rfl⟩
      · exact ⟨_, _, rfl, rfl⟩
      · exact ⟨_, _, rfl, rfl⟩
      · exact ⟨_, _, rfl, rfl⟩
      · exact ⟨_, _, rfl, rfl⟩
end
