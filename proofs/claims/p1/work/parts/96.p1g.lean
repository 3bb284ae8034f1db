section
variable {n : Nat}
-- writing with the reference, power on
theorem r_clearD_L : ∀ (d fuel : Nat) (g : St_Ref) (j : Nat), (g_Rdraft g).1 = 256 → j + d = 256 → d < fuel → ∃ x : AI, m_RRef_clearDraft_L2 fuel g (nI j) = some (s_Rdraft g x) ∧ x.1 = 256 := by
  intro d
  induction d with
  | zero =>
    intro fuel g j hg hj hf
    obtain ⟨f, rfl, -⟩ := fu1 hf
    rw [m_RRef_clearDraft_L2, show (256 : Int32) = nI 256 by decide +kernel, if_pos (nI_le (by omega) (by omega))]
    exact ⟨g_Rdraft g, rfl, hg⟩
  | succ d ih =>
    intro fuel g j hg hj hf
    obtain ⟨f, rfl, hf'⟩ := fu1 hf
    rw [m_RRef_clearDraft_L2, show (256 : Int32) = nI 256 by decide +kernel, if_neg (nI_ge (by omega) (by omega)), if_neg (nI_in (by omega) (by omega)), nI_1]
    obtain ⟨x, h1, h2⟩ := ih f (s_Rdraft g ((g_Rdraft g).1, upd (g_Rdraft g).2 (nI j).toNatClampNeg (vp_nar .byte 0))) (j + 1) hg (by omega) (by omega)
    exact ⟨x, h1, h2⟩
theorem r_clearD {g : St_Ref} (hg : (g_Rdraft g).1 = 256) : ∃ x : AI, m_RRef_clearDraft g = some (s_Rdraft g x) ∧ x.1 = 256 := by
  unfold m_RRef_clearDraft
  rw [n0]
  exact r_clearD_L 256 FU g 0 hg (by omega) (FU_lt (by omega))
theorem r_put_L (a K : Nat) (v : Int64) : ∀ (d fuel : Nat) (x : AI) (j : Nat), a + K ≤ x.1 → x.1 < 2 ^ 31 → j + d = K → d < fuel → ∃ x' : AI, m_RRef_put_L3 fuel x (nI a) (nI K) v (nI j) = some x' ∧ x'.1 = x.1 := by
  intro d
  induction d with
  | zero =>
    intro fuel x j ha hx hj hf
    obtain ⟨f, rfl, -⟩ := fu1 hf
    rw [m_RRef_put_L3, if_pos (nI_le (by omega) (by omega))]
    exact ⟨x, rfl, rfl⟩
  | succ d ih =>
    intro fuel x j ha hx hj hf
    obtain ⟨f, rfl, hf'⟩ := fu1 hf
    rw [m_RRef_put_L3, if_neg (nI_ge (by omega) (by omega)), nI_add, if_neg (nI_in (by omega) hx), nI_1]
    exact ih f (x.1, _) (j + 1) ha hx (by omega) (by omega)
theorem r_put {x : AI} {p q : Int32} (a K : Nat) (v : Int64) (hp : p = nI a) (hq : q = nI K) (ha : a + K ≤ x.1) (hx : x.1 < 1048576) : ∃ x' : AI, m_RRef_put x p q v = some x' ∧ x'.1 = x.1 := by
  subst hp hq
  unfold m_RRef_put
  rw [n0]
  exact r_put_L a K v K FU x 0 ha (by omega) (by omega) (FU_lt (by omega))
theorem r_sumD {g : St_Ref} (hg : (g_Rdraft g).1 = 256) : ∃ x : AI, m_RRef_sumDraft g = some (s_Rdraft g x) ∧ x.1 = 256 := by
  unfold m_RRef_sumDraft
  have h1 : m_RRef_digest (g_Rdraft g) 0 24 = some _ := r_digest (x := g_Rdraft g) (a := 0) (K := 24) (by omega) (by omega) (by omega)
  obtain ⟨x, h2, h3⟩ := r_put (x := g_Rdraft g) (p := 24) (q := 8) 24 8 (digF (g_Rdraft g).2 0 24) n24 n8 (by omega) (by omega)
  rw [bs h1, bs h2]
  exact ⟨x, rfl, by omega⟩
theorem r_write_L {row : Nat} (hr : row < 512) (g0 : St_Ref) (hd : (g_Rdraft g0).1 = 256) : ∀ (d fuel : Nat) (m : AI) (w : Int32) (j : Nat), m.1 = 16384 → j + d = 32 → d < fuel → ∃ (m' : AI) (w' : Int32), m_RRef_write_L2 fuel (s_Rwritten (s_Rmedium (s_RcutIn g0 (-1)) m) w) (nI row) 0 (nI j) = some (1, s_Rwritten (s_Rmedium (s_RcutIn g0 (-1)) m') w') ∧ m'.1 = 16384 := by
  intro d
  induction d with
  | zero =>
    intro fuel m w j hm hj hf
    obtain ⟨f, rfl, -⟩ := fu1 hf
    rw [m_RRef_write_L2, n32, if_pos (nI_le (by omega) (by omega))]
    exact ⟨m, w, rfl, hm⟩
  | succ d ih =>
    intro fuel m w j hm hj hf
    obtain ⟨f, rfl, hf'⟩ := fu1 hf
    have hz : (0 : Int32) + nI j = nI j := by rw [n0, nI_add, Nat.zero_add]
    have i1 : ¬ (nI j < 0 ∨ (g_Rdraft (s_Rwritten (s_Rmedium (s_RcutIn g0 (-1)) m) w)).1 ≤ (nI j).toNatClampNeg) := by
      show ¬ (nI j < 0 ∨ (g_Rdraft g0).1 ≤ (nI j).toNatClampNeg)
      rw [hd]; exact nI_in (by omega) (by omega)
    have i2 : ¬ (nI (32 * row + j) < 0 ∨ (g_Rmedium (s_Rwritten (s_Rmedium (s_RcutIn g0 (-1)) m) w)).1 ≤ (nI (32 * row + j)).toNatClampNeg) := by
      show ¬ (nI (32 * row + j) < 0 ∨ m.1 ≤ (nI (32 * row + j)).toNatClampNeg)
      rw [hm]; exact nI_in (by omega) (by omega)
    rw [m_RRef_write_L2]
    rw [show (32 : Int32) = nI 32 from n32, if_neg (nI_ge (by omega) (by omega)), if_neg (show ¬ g_RcutIn (s_Rwritten (s_Rmedium (s_RcutIn g0 (-1)) m) w) = 0 by show ¬ (-1 : Int32) = 0; decide), if_pos (show g_RcutIn (s_Rwritten (s_Rmedium (s_RcutIn g0 (-1)) m) w) = (-1) from rfl), hz, if_neg i1, pk_mul, nI_add, if_neg i2, nI_1]
    obtain ⟨m', w', h1, h2⟩ := ih f (m.1, upd m.2 (nI (32 * row + j)).toNatClampNeg (vp_nar .byte ((g_Rdraft g0).2 (nI j).toNatClampNeg))) (w + 1) (j + 1) hm (by omega) (by omega)
    exact ⟨m', w', h1, h2⟩
theorem r_write {g : St_Ref} {p : Int32} (row : Nat) (hp : p = nI row) (hr : row < 512) (hd : (g_Rdraft g).1 = 256) (hm : (g_Rmedium g).1 = 16384) (hc : g_RcutIn g = (-1)) : ∃ (m' : AI) (w' : Int32), m_RRef_write g p 0 = some (1, s_Rwritten (s_Rmedium (s_RcutIn g (-1)) m') w') := by
  subst hp
  unfold m_RRef_write
  have he : g = s_Rwritten (s_Rmedium (s_RcutIn g (-1)) (g_Rmedium g)) (g_Rwritten g) := by rw [← hc]; rfl
  obtain ⟨m', w', h1, -⟩ := r_write_L hr g hd 32 FU (g_Rmedium g) (g_Rwritten g) 0 hm (by omega) (FU_lt (by omega))
  rw [← he] at h1
  exact ⟨m', w', h1⟩
theorem jrem12 : jrem (0 + 1) 2 = nI 1 := by decide +kernel
-- owner
theorem c_head_L : ∀ (d fuel : Nat) (g : St_Log) (j : Nat), (g_image g).1.1 = 224 → (g_owners g).1 = 8 → j + d = 8 → d < fuel → ∃ im : St_Bytes, m_Log_drawHead_L35 fuel g (nI j) = some (s_image g im) ∧ im.1.1 = 224 := by
  intro d
  induction d with
  | zero =>
    intro fuel g j hi ho hj hf
    obtain ⟨f, rfl, -⟩ := fu1 hf
    obtain ⟨im, h1, h2⟩ := c_drawSum hi
    rw [m_Log_drawHead_L35, n8, if_pos (nI_le (by omega) (by omega)), bs h1]
    exact ⟨im, rfl, h2⟩
  | succ d ih =>
    intro fuel g j hi ho hj hf
    obtain ⟨f, rfl, hf'⟩ := fu1 hf
    obtain ⟨im, h1, h2⟩ := b_put (x := g_image g) (by omega) (8 + 2 * nI j) (((g_owners g).2 (nI j).toNatClampNeg).toInt64) (k := 2) 2 n2 (by omega)
    obtain ⟨im2, h3, h4⟩ := ih f (s_image g im) (j + 1) (by show im.1.1 = 224; omega) ho (by omega) (by omega)
    rw [m_Log_drawHead_L35, if_neg (show ¬ (8 : Int32) ≤ nI j by rw [n8]; exact nI_ge (by omega) (by omega)), if_neg (nI_in (by omega) (by omega)), bs h1, nI_1, h3]
    exact ⟨im2, rfl, h4⟩
theorem c_drawHead {g : St_Log} (hi : (g_image g).1.1 = 224) (ho : (g_owners g).1 = 8) : ∃ im : St_Bytes, m_Log_drawHead g = some (s_image g im) ∧ im.1.1 = 224 := by
  unfold m_Log_drawHead
  obtain ⟨x1, h1, h2, -⟩ := b_clear (x := g_image g) (by omega)
  obtain ⟨x2, h3, h4⟩ := b_put (x := x1) (by omega) 0 4 (k := 1) 1 n1 (by omega)
  obtain ⟨x3, h5, h6⟩ := b_put (x := x2) (by omega) 4 ((g_serial g).toInt64) (k := 4) 4 n4 (by omega)
  obtain ⟨im, h7, h8⟩ := c_head_L 8 FU (s_image (s_image (s_image g x1) x2) x3) 0 (by show x3.1.1 = 224; omega) ho (by omega) (FU_lt (by omega))
  rw [bs h1, bs h3, bs h5]
  exact ⟨im, h7, h8⟩
theorem r_head_L {a : Nat} (ha : a < 8) : ∀ (d fuel : Nat) (g : St_Ref) (j : Nat), (g_Rdraft g).1 = 256 → (g_Rowners g).1 = 8 → (g_Rmedium g).1 = 16384 → g_RcutIn g = (-1) → g_Rserial g = 0 + 1 → j + d = 8 → d < fuel → ∃ r, m_RRef_owner_L93 fuel g (nI a) (nI j) = some ((g_Rowners g).2 a, r) := by
  intro d
  induction d with
  | zero =>
    intro fuel g j hd ho hm hc hs hj hf
    obtain ⟨f, rfl, -⟩ := fu1 hf
    obtain ⟨x, h1, h2⟩ := r_sumD hd
    obtain ⟨m', w', h3⟩ := r_write (g := s_Rdraft g x) (p := jrem (g_Rserial (s_Rdraft g x)) 2) 1 (by show jrem (g_Rserial g) 2 = nI 1; rw [hs]; exact jrem12) (by omega) h2 hm hc
    rw [m_RRef_owner_L93, n8, if_pos (nI_le (by omega) (by omega)), bs h1, bs h3, if_neg e10]
    simp only [qR_owners]
    rw [if_neg (show ¬ (nI a < 0 ∨ (g_Rowners g).1 ≤ (nI a).toNatClampNeg) by rw [ho]; exact nI_in ha (by omega)), nI_clamp (by omega)]
    exact ⟨_, rfl⟩
  | succ d ih =>
    intro fuel g j hd ho hm hc hs hj hf
    obtain ⟨f, rfl, hf'⟩ := fu1 hf
    obtain ⟨x, h1, h2⟩ := r_put (x := g_Rdraft g) (p := 8 + 2 * nI j) (q := 2) (8 + 2 * j) 2 (((g_Rowners g).2 (nI j).toNatClampNeg).toInt64) (by rw [n8, n2, pk_mul, nI_add]) n2 (by omega) (by omega)
    rw [m_RRef_owner_L93, if_neg (show ¬ (8 : Int32) ≤ nI j by rw [n8]; exact nI_ge (by omega) (by omega)), if_neg (nI_in (by omega) (by omega)), bs h1, nI_1]
    exact ih f (s_Rdraft g x) (j + 1) (by show x.1 = 256; omega) ho hm hc hs (by omega) (by omega)
theorem g_owner_core {g1 : St_Log} (h : MedOk n (g_medium g1)) (hp : (g_medium g1).2.2.1 = (-1)) (hop : g_isOpen g1 = 1) (hi : (g_image g1).1.1 = 224) (hr0 : (g_room g1).1 < 2 ^ 31) (ho : (g_owners g1).1 = 8) (hs : g_serial g1 = 0 + 1) {a : Nat} (ha : a < 8) : ∃ q, ((m_Log_drawHead g1).bind fun q9 => (m_Log_writeImage q9 (jrem (g_serial q9) 2) 1).bind fun q10 => if q10.1 = 0 then (some ((-5 : Int32), q10.2)) else (if nI a < 0 ∨ (g_owners q10.2).1 ≤ (nI a).toNatClampNeg then none else some (((g_owners q10.2).2 (nI a).toNatClampNeg), q10.2))) = some ((g_owners g1).2 a, q) := by
  have h4 := h.2.2.1
  obtain ⟨im, d1, d2⟩ := c_drawHead hi ho
  have hj : jrem (g_serial (s_image g1 im)) 2 = nI 1 := by show jrem (g_serial g1) 2 = nI 1; rw [hs]; exact jrem12
  obtain ⟨m, rm, w1⟩ := c_writeImage (n := n) (g := s_image g1 im) h hp hop (by show im.1.1 < 2 ^ 31; omega) hr0 1 hj (by omega)
  rw [bs d1, bs w1, if_neg e10, if_neg (show ¬ (nI a < 0 ∨ (g_owners (s_room (s_isOpen (s_medium (s_image g1 im) m) 1) rm)).1 ≤ (nI a).toNatClampNeg) by show ¬ (nI a < 0 ∨ (g_owners g1).1 ≤ (nI a).toNatClampNeg); rw [ho]; exact nI_in ha (by omega)), nI_clamp (by omega)]
  exact ⟨_, rfl⟩
theorem r_isIn7 {a : Nat} (ha : a < 8) : m_RRef_isIn (nI a) 0 7 = some 1 := by
  unfold m_RRef_isIn
  rw [if_neg (nI_pos (by omega)), if_neg (show ¬ (7 : Int32) < nI a by rw [show (7 : Int32) = nI 7 by decide +kernel]; exact nI_nlt (by omega) (by omega))]
theorem r_owner_core {r0 : St_Ref} (hop : g_Ropen r0 = 1) (hd : (g_Rdraft r0).1 = 256) (ho : (g_Rowners r0).1 = 8) (hm : (g_Rmedium r0).1 = 16384) (hc : g_RcutIn r0 = (-1)) (hs : g_Rserial r0 = 0) (ho2 : (g_Rowners r0).2 = fun _ => 0) {a : Nat} (ha : a < 8) : ∃ v r, m_RRef_owner r0 (nI a) = some (v, r) ∧ v = upd (g_Rowners r0).2 (nI a).toNatClampNeg ((g_Rowners r0).2 (nI a).toNatClampNeg + 1) a := by
  obtain ⟨x, c1, c2⟩ := r_clearD hd
  have i2 : ¬ (nI a < 0 ∨ (g_Rowners (s_Rdraft r0 x)).1 ≤ (nI a).toNatClampNeg) := by
    show ¬ (nI a < 0 ∨ (g_Rowners r0).1 ≤ (nI a).toNatClampNeg)
    rw [ho]; exact nI_in ha (by omega)
  have i3 : ¬ ((0 : Int32) < 0 ∨ (g_Rdraft (s_Rdraft r0 x)).1 ≤ (0 : Int32).toNatClampNeg) := by
    show ¬ ((0 : Int32) < 0 ∨ x.1 ≤ (0 : Int32).toNatClampNeg)
    rw [c2]; decide +kernel
  obtain ⟨x2, p1, p2⟩ := r_put (x := (x.1, upd x.2 (0 : Int32).toNatClampNeg (vp_nar .byte 4))) (p := 4) (q := 4) 4 4 ((g_Rserial r0 + 1).toInt64) n4 n4 (by show 4 + 4 ≤ x.1; omega) (by show x.1 < 1048576; omega)
  have key : ∀ r1 : St_Ref, (g_Rdraft r1).1 = 256 → (g_Rowners r1).1 = 8 → (g_Rmedium r1).1 = 16384 → g_RcutIn r1 = (-1) → g_Rserial r1 = 0 + 1 → ∃ r, m_RRef_owner_L93 FU r1 (nI a) 0 = some ((g_Rowners r1).2 a, r) := fun r1 k1 k2 k3 k4 k5 => r_head_L ha 8 FU r1 0 k1 k2 k3 k4 k5 (by omega) (FU_lt (by omega))
  have h1 : x2.1 = 256 := by rw [p2]; exact c2
  have h2 : g_Rserial r0 + 1 = 0 + 1 := by rw [hs]
  obtain ⟨B, hB⟩ : ∃ B : St_Ref, B = s_Rdraft (s_Rdraft (s_Rserial (s_Rowners (s_Rdraft r0 x) ((g_Rowners (s_Rdraft r0 x)).1, upd (g_Rowners (s_Rdraft r0 x)).2 (nI a).toNatClampNeg (((g_Rowners (s_Rdraft r0 x)).2 (nI a).toNatClampNeg) + 1))) ((g_Rserial (s_Rdraft r0 x)) + 1)) ((g_Rdraft (s_Rdraft r0 x)).1, upd (g_Rdraft (s_Rdraft r0 x)).2 (0 : Int32).toNatClampNeg (vp_nar .byte 4))) x2 := ⟨_, rfl⟩
  have b1 : (g_Rdraft B).1 = 256 := by rw [hB]; simp only [qR_draft]; exact h1
  have b2 : g_Rowners B = ((g_Rowners r0).1, upd (g_Rowners r0).2 (nI a).toNatClampNeg (((g_Rowners r0).2 (nI a).toNatClampNeg) + 1)) := by rw [hB]; simp only [qR_owners]
  have b3 : (g_Rmedium B).1 = 16384 := by rw [hB]; simp only [qR_medium]; exact hm
  have b4 : g_RcutIn B = (-1) := by rw [hB]; simp only [qR_cutIn]; exact hc
  have b5 : g_Rserial B = 0 + 1 := by rw [hB]; simp only [qR_serial]; exact h2
  obtain ⟨r, q1⟩ := key B b1 (by rw [b2]; exact ho) b3 b4 b5
  rw [b2] at q1
  have j0 : ¬ (nI a < 0 ∨ (g_Rowners r0).1 ≤ (nI a).toNatClampNeg) := i2
  refine ⟨_, r, ?_, rfl⟩
  unfold m_RRef_owner
  refine Eq.trans (if_neg (by rw [hop]; decide)) ?_
  refine Eq.trans (bs (r_isIn7 ha)) ?_
  refine Eq.trans (if_neg e10) ?_
  refine Eq.trans (if_neg j0) ?_
  refine Eq.trans (if_neg (by rw [ho2]; show ¬ (0 : Int32) = 65535; decide)) ?_
  refine Eq.trans (if_neg (by rw [hs]; decide)) ?_
  refine Eq.trans (bs c1) ?_
  refine Eq.trans (if_neg i2) ?_
  refine Eq.trans (if_neg i2) ?_
  refine Eq.trans (if_neg i3) ?_
  refine Eq.trans (bs (show m_RRef_put ((g_Rdraft (s_Rdraft r0 x)).1, upd (g_Rdraft (s_Rdraft r0 x)).2 (0 : Int32).toNatClampNeg (vp_nar .byte 4)) 4 4 ((g_Rserial (s_Rdraft r0 x) + 1).toInt64) = some x2 by simp only [qR_draft, qR_serial]; exact p1)) ?_
  rw [← hB]
  exact q1
theorem o_owner (h4 : 4 ≤ n) (h5 : n ≤ 512) (k : Int32) : ∃ a g r, m_Log_owner (G0 n) k = some (a, g) ∧ m_RRef_owner (R0 n) k = some (a, r) := by
  rcases pk_ix k (n := 8) (by omega) with h | h | ⟨a, ha, rfl⟩
  · unfold m_Log_owner m_RRef_owner m_Log_isGroup m_RRef_isIn
    rw [if_neg (show ¬ g_isOpen (G0 n) = 0 from e10), if_neg (show ¬ g_Ropen (R0 n) = 0 from e10)]
    rw [if_pos h, if_pos h]; exact ⟨_, _, _, rfl, rfl⟩
  · have h0 : ¬ k < 0 := fun h1 => Int32.lt_irrefl (Int32.lt_of_lt_of_le (Int32.lt_of_le_of_lt h h1) (nI_pos' (n := 8) (by omega)))
    unfold m_Log_owner m_RRef_owner m_Log_isGroup m_RRef_isIn
    rw [if_neg (show ¬ g_isOpen (G0 n) = 0 from e10), if_neg (show ¬ g_Ropen (R0 n) = 0 from e10)]
    rw [if_neg h0, if_pos (show (8 : Int32) ≤ k from h), if_neg h0, if_pos (Int32.lt_of_lt_of_le (show (7 : Int32) < nI 8 by decide +kernel) h)]
    exact ⟨_, _, _, rfl, rfl⟩
  · have g1 : ¬ nI a < 0 := nI_pos (by omega)
    have i1 : ¬ (nI a < 0 ∨ (g_owners (G0 n)).1 ≤ (nI a).toNatClampNeg) := nI_in (show a < 8 from ha) (by show 8 < 2 ^ 31; omega)
    obtain ⟨q, hq⟩ := g_owner_core (n := n) (g1 := s_serial (s_owners (G0 n) ((g_owners (G0 n)).1, upd (g_owners (G0 n)).2 (nI a).toNatClampNeg ((g_owners (G0 n)).2 (nI a).toNatClampNeg + 1))) (g_serial (G0 n) + 1)) (med0 h4 h5) rfl rfl rfl (show n < 2 ^ 31 by omega) rfl rfl ha
    obtain ⟨v, r, hr, hv⟩ := r_owner_core (r0 := R0 n) rfl rfl rfl rfl rfl rfl rfl ha
    refine ⟨v, q, r, ?_, hr⟩
    subst hv
    unfold m_Log_owner m_Log_isGroup
    refine Eq.trans (if_neg (show ¬ g_isOpen (G0 n) = 0 from e10)) ?_
    rw [if_neg g1, if_neg (show ¬ (8 : Int32) ≤ nI a by rw [n8]; exact nI_ge ha (by omega)), Option.bind_some, if_neg e10, if_neg i1, if_neg (show ¬ (65535 : Int32) ≤ (g_owners (G0 n)).2 (nI a).toNatClampNeg by show ¬ (65535 : Int32) ≤ 0; decide), if_pos (show g_serial (G0 n) < 1000000000 by show (0 : Int32) < 1000000000; decide), if_neg i1, if_neg i1]
    exact hq
end
