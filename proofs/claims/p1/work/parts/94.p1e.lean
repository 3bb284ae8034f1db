section
variable {n : Nat}
/-- the class's medium is all 0 -/
def Zm (n : Nat) (x : St_Medium) : Prop := MedOk n x ∧ x.2.1.2 = fun _ => 0
theorem z_at {x : St_Medium} (h : Zm n x) {row i : Nat} (hr : row < n) (hi : i < 32) : m_Medium_at x (nI row) (nI i) = some 0 := by
  rw [c_at h.1 hr hi, h.2]
  show some ((0 : Int32) &&& 255) = some 0
  rw [show (0 : Int32) &&& 255 = 0 by decide]
theorem z_good {g : St_Log} (h : Zm n (g_medium g)) {row : Nat} (hr : row < n) : m_Log_isGoodHead g (nI row) = some 0 := by
  unfold m_Log_isGoodHead
  rw [bs (show m_Medium_at (g_medium g) (nI row) 0 = some 0 from z_at h hr (i := 0) (by omega)), if_neg (by decide)]
theorem z_learn {g : St_Log} (h : Zm n (g_medium g)) {row : Nat} (hr : row < n) : m_Log_learnRow g (nI row) = some (1, g) := by
  unfold m_Log_learnRow m_Log_isPartThere m_Log_isMarkThere
  have h0 : m_Medium_at (g_medium g) (nI row) 0 = some 0 := z_at h hr (i := 0) (by omega)
  rw [bs h0, if_neg (by decide), Option.bind_some, if_pos rfl, bs h0, if_neg (by decide), Option.bind_some, if_pos rfl]
theorem z_heads_L : ∀ (d fuel : Nat) (g : St_Log) (j : Nat), (g_owners g).1 = 8 → j + d = 8 → d < fuel → ∃ o : AI, m_Log_readHeads_L31 fuel g (-1) (nI j) = some (s_owners g o) := by
  intro d
  induction d with
  | zero =>
    intro fuel g j hg hj hf
    obtain ⟨f, rfl, -⟩ := fu1 hf
    rw [m_Log_readHeads_L31, n8, if_pos (nI_le (by omega) (by omega))]
    exact ⟨g_owners g, rfl⟩
  | succ d ih =>
    intro fuel g j hg hj hf
    obtain ⟨f, rfl, hf'⟩ := fu1 hf
    rw [m_Log_readHeads_L31]
    rw [show (8 : Int32) = nI 8 from n8, if_neg (nI_ge (by omega) (by omega)), if_pos rfl, if_neg (nI_in (by omega) (by omega)), nI_1]
    obtain ⟨o, ho⟩ := ih f (s_owners g ((g_owners g).1, upd (g_owners g).2 (nI j).toNatClampNeg 0)) (j + 1) hg (by omega) (by omega)
    exact ⟨o, ho⟩
theorem z_open_L {K : St_Marks} (hK : K.2.2.2.2.2 = 0) : ∀ (d fuel : Nat) (g : St_Log) (j : Nat), Zm n (g_medium g) → g_kept g = K → j + d = n → d < fuel → ∃ g', m_Log_open__L12 fuel g (nI j) = some (0, g') := by
  intro d
  induction d with
  | zero =>
    intro fuel g j h hk hj hf
    obtain ⟨f, rfl, -⟩ := fu1 hf
    have h5 := h.1.2.2.2
    rw [m_Log_open__L12]
    unfold m_Medium_rows m_Marks_size
    rw [Option.bind_some, h.1.1, if_pos (nI_le (by omega) (by omega)), Option.bind_some, hk, hK]
    exact ⟨_, rfl⟩
  | succ d ih =>
    intro fuel g j h hk hj hf
    obtain ⟨f, rfl, hf'⟩ := fu1 hf
    have h5 := h.1.2.2.2
    rw [m_Log_open__L12]
    unfold m_Medium_rows
    rw [Option.bind_some, h.1.1, if_neg (nI_ge (by omega) (by omega)), bs (z_learn h (by omega)), show jmax 1 1 = 1 by decide +kernel, nI_1]
    exact ih f g (j + 1) h hk (by omega) (by omega)
theorem g_open (h4 : 4 ≤ n) (h5 : n ≤ 512) : ∃ g, m_Log_open_ (G0 n) = some (0, g) := by
  unfold m_Log_open_ m_Log_forget
  obtain ⟨r, h1, -⟩ := c_free (x := g_room (G0 n)) (show n < 2 ^ 31 by omega) (p := 0) (q := nI n) 0 n n0 rfl (by omega)
  unfold m_Parts_shorten m_Marks_size m_Medium_rows m_Marks_removeFirst
  rw [Option.bind_some, Option.bind_some, if_neg (show ¬ 0 < (g_kept (G0 n)).2.2.2.2.2 by show ¬ (0 : Int32) < 0; decide), Option.bind_some, Option.bind_some, if_neg (show ¬ 0 < (g_made (G0 n)).2.2.2.2.2 by show ¬ (0 : Int32) < 0; decide), Option.bind_some, Option.bind_some, bs (show m_Room_free (g_room (G0 n)) 0 (g_medium (G0 n)).1 = some r from h1), Option.bind_some]
  generalize hg : s_greatestMark _ _ = g1
  have hm : g_medium g1 = g_medium (G0 n) := by rw [← hg]; simp only [q_medium]
  have hk : g_kept g1 = g_kept (G0 n) := by rw [← hg]; simp only [q_kept]
  have ho : g_owners g1 = g_owners (G0 n) := by rw [← hg]; simp only [q_owners]
  have hz : Zm n (g_medium g1) := by rw [hm]; exact ⟨med0 h4 h5, rfl⟩
  unfold m_Log_readHeads m_Log_headThatCounts
  obtain ⟨o, h2⟩ := z_heads_L 8 FU (s_serial g1 0) 0 (by show (g_owners g1).1 = 8; rw [ho]; rfl) (by omega) (FU_lt (by omega))
  obtain ⟨g', h3⟩ := z_open_L (n := n) (K := g_kept (G0 n)) rfl (n - 2) FU (s_owners (s_serial g1 0) o) 2 hz hk (by omega) (FU_lt (by omega))
  rw [bs (show m_Log_isGoodHead g1 0 = some 0 from z_good hz (row := 0) (by omega)), if_pos rfl, bs (show m_Log_isGoodHead g1 1 = some 0 from z_good hz (row := 1) (by omega)), if_pos rfl, Option.bind_some, if_pos rfl, bs (show m_Log_readHeads_L31 FU (s_serial g1 0) (-1) 0 = some _ from h2)]
  exact ⟨g', h3⟩
-- the reference opens over an empty medium
def Zr (n : Nat) (r : St_Ref) : Prop := (g_Rmedium r).1 = 16384 ∧ (g_Rmedium r).2 = (fun _ => 0) ∧ g_Rrows r = nI n
theorem zr_kind {r : St_Ref} (h : Zr n r) {row : Nat} (hr : row < 512) : m_RRef_kind r (nI row) = some 0 := by
  rw [r_kind h.1 hr, h.2.1]
  show some ((0 : Int32) &&& 255) = some 0
  rw [show (0 : Int32) &&& 255 = 0 by decide]
theorem zr_num {r : St_Ref} (h : Zr n r) {p q : Int32} (a k : Nat) (hp : p = nI a) (hq : q = nI k) (hk : a + k ≤ 16384) : ∃ v, m_RRef_number (g_Rmedium r) p q = some v := by
  subst hp hq
  exact ⟨_, r_number (by rw [h.1]; exact hk) (by rw [h.1]; omega) (by omega)⟩
theorem zr_good {r : St_Ref} (h : Zr n r) {row : Nat} (hr : row < 512) : m_RRef_isGood r (nI row) = some 0 := by
  unfold m_RRef_isGood
  obtain ⟨v, hv⟩ := zr_num h (p := 32 * nI row + 4) (q := 4) (32 * row + 4) 4 (by rw [n32, n4, pk_mul, nI_add]) n4 (by omega)
  rw [bs hv, bs (zr_kind h hr), if_neg (by decide)]
theorem zr_part {r : St_Ref} (h : Zr n r) {row : Nat} (hr : row < 512) : m_RRef_partAt r (nI row) = some 0 := by
  unfold m_RRef_partAt m_RRef_bodies
  obtain ⟨v, hv⟩ := zr_num h (p := 32 * nI row + 4) (q := 4) (32 * row + 4) 4 (by rw [n32, n4, pk_mul, nI_add]) n4 (by omega)
  obtain ⟨v2, hv2⟩ := zr_num h (p := 32 * nI row + 2) (q := 2) (32 * row + 2) 2 (by rw [n32, n2, pk_mul, nI_add]) n2 (by omega)
  rw [bs hv, bs hv2, bs (zr_kind h (by omega)), if_neg (by decide), Option.bind_some]
theorem zr_mark {r : St_Ref} (h : Zr n r) {row : Nat} (hr : row < 512) : m_RRef_markAt r (nI row) = some 0 := by
  unfold m_RRef_markAt m_RRef_entries
  obtain ⟨v, hv⟩ := zr_num h (p := 32 * nI row + 4) (q := 4) (32 * row + 4) 4 (by rw [n32, n4, pk_mul, nI_add]) n4 (by omega)
  obtain ⟨f, hf, -⟩ := fu1 (k := 1) (fuel := FU) (FU_lt (by omega))
  rw [bs hv, if_neg (show ¬ (32 * nI row + 1 < 0 ∨ (g_Rmedium r).1 ≤ (32 * nI row + 1).toNatClampNeg) by rw [n32, n1, pk_mul, nI_add, h.1]; exact nI_in (by omega) (by omega)), Option.bind_some, bs (zr_kind h (by omega)), if_neg (by decide), hf, m_RRef_markAt_L156]
  split
  · rw [if_pos rfl]
  · rw [if_pos rfl, if_pos rfl]
theorem zr_heads65 : ∀ (d fuel : Nat) (g : St_Ref) (j : Nat), (g_Rowners g).1 = 8 → j + d = 8 → d < fuel → ∃ o : AI, m_RRef_heads_L65 fuel g (-1) (nI j) = some (s_Rowners g o) := by
  intro d
  induction d with
  | zero =>
    intro fuel g j hg hj hf
    obtain ⟨f, rfl, -⟩ := fu1 hf
    rw [m_RRef_heads_L65, n8, if_pos (nI_le (by omega) (by omega))]
    exact ⟨g_Rowners g, rfl⟩
  | succ d ih =>
    intro fuel g j hg hj hf
    obtain ⟨f, rfl, hf'⟩ := fu1 hf
    rw [m_RRef_heads_L65]
    rw [show (8 : Int32) = nI 8 from n8, if_neg (nI_ge (by omega) (by omega)), if_pos rfl, if_neg (nI_in (by omega) (by omega)), nI_1]
    obtain ⟨o, ho⟩ := ih f (s_Rowners g ((g_Rowners g).1, upd (g_Rowners g).2 (nI j).toNatClampNeg 0)) (j + 1) hg (by omega) (by omega)
    exact ⟨o, ho⟩
theorem zr_open_L : ∀ (d fuel : Nat) (g : St_Ref) (j : Nat), n ≤ 512 → Zr n g → 2 ≤ j → j + d = n → d < fuel → m_RRef_open__L31 fuel g (nI j) = some (g_Rmarks g, g) := by
  intro d
  induction d with
  | zero =>
    intro fuel g j h5 h h2 hj hf
    obtain ⟨f, rfl, -⟩ := fu1 hf
    rw [m_RRef_open__L31, h.2.2, if_pos (nI_le (by omega) (by omega))]
  | succ d ih =>
    intro fuel g j h5 h h2 hj hf
    obtain ⟨f, rfl, hf'⟩ := fu1 hf
    rw [m_RRef_open__L31, h.2.2, if_neg (nI_ge (by omega) (by omega)), bs (zr_part h (by omega)), if_pos rfl, bs (zr_mark h (by omega)), if_pos (by decide), if_pos (by decide), if_pos (by decide), nI_1]
    exact ih f g (j + 1) h5 h (by omega) (by omega) (by omega)
end
