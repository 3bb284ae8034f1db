section
variable {n : Nat}
theorem rop0 : m_Log_rowsOfPart 0 = some 1 := by
  unfold m_Log_rowsOfPart m_Log_bodiesOf
  rw [Option.bind_some, show (1 : Int32) + (0 + 31 - 1) / 31 = 1 by decide +kernel]
theorem c_drawPart0 {g : St_Log} (hi : (g_image g).1.1 = 224) (num grp : Int32) (pos : Int64) : ∃ im : St_Bytes, m_Log_drawPart g num grp pos 0 0 = some (s_image g im) ∧ im.1.1 = 224 := by
  obtain ⟨f, hf, -⟩ := fu1 (k := 1) (fuel := FU) (FU_lt (by omega))
  obtain ⟨x1, h1, h2, -⟩ := b_clear (x := g_image g) (by omega)
  obtain ⟨y5, p5, l5⟩ := b_put (x := x1) (by omega) 0 1 (k := 1) 1 n1 (by omega)
  obtain ⟨y6, p6, l6⟩ := b_put (x := y5) (by omega) 1 (grp.toInt64) (k := 1) 1 n1 (by omega)
  obtain ⟨y7, p7, l7⟩ := b_put (x := y6) (by omega) 2 ((0 : Int32).toInt64) (k := 2) 2 n2 (by omega)
  obtain ⟨y8, p8, l8⟩ := b_put (x := y7) (by omega) 4 (num.toInt64) (k := 4) 4 n4 (by omega)
  obtain ⟨y9, p9, l9⟩ := b_put (x := y8) (by omega) 8 pos (k := 8) 8 n8 (by omega)
  obtain ⟨v, d1⟩ := b_dig (x := y9) (by omega) (p := 32) (q := 32 * 1) 32 32 n32 (by decide +kernel) (by omega) (by omega)
  obtain ⟨y12, p12, l12⟩ := b_put (x := y9) (by omega) 16 v (k := 8) 8 n8 (by omega)
  obtain ⟨im, s1, s2⟩ := c_drawSum (g := s_image g y12) (by simp only [q_image]; omega)
  refine ⟨im, ?_, s2⟩
  unfold m_Log_drawPart
  refine Eq.trans (bs h1) ?_
  rw [hf, m_Log_drawPart_L10]
  unfold m_Log_bodiesOf
  rw [Option.bind_some]
  refine Eq.trans (if_pos (by decide)) ?_
  rw [hf, m_Log_drawPart_L45]
  refine Eq.trans (if_pos (by decide)) ?_
  simp only [q_image, ss_image]
  refine Eq.trans (bs p5) ?_
  refine Eq.trans (bs p6) ?_
  refine Eq.trans (bs p7) ?_
  refine Eq.trans (bs p8) ?_
  refine Eq.trans (bs p9) ?_
  refine Eq.trans (bs rop0) ?_
  refine Eq.trans (bs d1) ?_
  refine Eq.trans (bs p12) ?_
  refine Eq.trans (bs s1) ?_
  rfl
theorem padd0 {x : St_Parts} (h0 : 0 < n) (hn : n < 2 ^ 31) (h1 : x.1.1 = n) (h2 : x.2.1.1 = n) (h3 : x.2.2.1.1 = n) (h4 : x.2.2.2.1.1 = n) (h5 : x.2.2.2.2.1.1 = n) (hs : x.2.2.2.2.2 = 0) (a b c d : Int32) (e : Int64) : ∃ x', m_Parts_add x a b c d e = some x' := by
  obtain ⟨f, hf, -⟩ := fu1 (k := 1) (fuel := FU) (FU_lt (by omega))
  have i0 : ∀ N, N = n → ¬ ((0 : Int32) < 0 ∨ N ≤ (0 : Int32).toNatClampNeg) := by
    intro N hN
    rw [hN, n0]
    exact nI_in h0 hn
  unfold m_Parts_add
  refine ⟨?w, ?h⟩
  rotate_left
  refine Eq.trans (if_pos (show x.2.2.2.2.2 < nI x.1.1 by rw [hs, h1, n0]; exact nI_lt h0 hn)) ?_
  refine Eq.trans (bs (show m_Log_placeOf x.1 x.2.2.2.2.2 a = some 0 by rw [hs]; exact placeOf0 (by omega) a)) ?_
  rw [hf, m_Parts_add_L45]
  refine Eq.trans (if_pos (show x.2.2.2.2.2 + 1 - 1 ≤ 0 by rw [hs]; decide)) ?_
  unfold m_Parts_has
  refine Eq.trans (bs (show (if (0 : Int32) < 0 then some 0 else if x.2.2.2.2.2 + 1 ≤ 0 then some 0 else if nI x.1.1 ≤ 0 then some 0 else some 1) = some (1 : Int32) by rw [hs, h1, if_neg (by decide), if_neg (by decide), n0, if_neg (nI_ge h0 hn)])) ?_
  refine Eq.trans (if_neg e10) ?_
  refine Eq.trans (if_neg (i0 _ h1)) ?_
  refine Eq.trans (if_neg (i0 _ h2)) ?_
  refine Eq.trans (if_neg (i0 _ h3)) ?_
  refine Eq.trans (if_neg (i0 _ h4)) ?_
  refine Eq.trans (if_neg (i0 _ h5)) ?_
  rfl
theorem c_writePart0 {g : St_Log} (h : MedOk n (g_medium g)) (hp : (g_medium g).2.2.1 = (-1)) (hop : g_isOpen g = 1) (hi : (g_image g).1.1 = 224) (hr0 : (g_room g).1 < 2 ^ 31) (hP : ∀ a b c d e, ∃ x', m_Parts_add (g_parts g) a b c d e = some x') (grp : Int32) (pos : Int64) : ∃ g', m_Log_writePart g 2 grp pos 0 0 = some (1, g') ∧ g_tape g' = g_tape g ∧ g_greatestPart g' = g_greatestPart g + 1 := by
  have h4 := h.2.2.1
  obtain ⟨im, d1, d2⟩ := c_drawPart0 hi (g_greatestPart g + 1) grp pos
  obtain ⟨m, rm, w1⟩ := c_writeImage (n := n) (g := s_image g im) (by simp only [q_medium]; exact h) (by simp only [q_medium]; exact hp) (by simp only [q_isOpen]; exact hop) (by simp only [q_image]; omega) (by simp only [q_room]; exact hr0) (p := 2) 2 n2 (by omega)
  obtain ⟨x', a1⟩ := hP (g_greatestPart g + 1) grp 0 2 pos
  refine ⟨s_greatestPart (s_parts (s_room (s_isOpen (s_medium (s_image g im) m) 1) rm) x') (g_greatestPart g + 1), ?_, by simp only [q_tape], by simp only [q_greatestPart]⟩
  unfold m_Log_writePart
  refine Eq.trans (bs d1) ?_
  refine Eq.trans (bs rop0) ?_
  refine Eq.trans (bs w1) ?_
  refine Eq.trans (if_neg e10) ?_
  refine Eq.trans (bs (show m_Parts_add (g_parts (s_room (s_isOpen (s_medium (s_image g im) m) 1) rm)) _ _ _ _ _ = some x' by simp only [q_parts]; exact a1)) ?_
  rfl
theorem run0 (h4 : 4 ≤ n) (h5 : n ≤ 512) {x : AI} (hx : x.1 = n) (hz : x.2 2 = 0) : m_Room_firstRun x 1 = some 2 := by
  obtain ⟨f, hf, -⟩ := fu1 (k := 1) (fuel := FU) (FU_lt (by omega))
  unfold m_Room_firstRun
  rw [hf, m_Room_firstRun_L4, hx, n2, if_neg (nI_ge (by omega) (by omega)), if_neg (nI_in (by omega) (by omega)), nI_clamp (by omega), if_pos hz, if_pos (by decide)]
  rw [show nI 2 - 1 + 1 = nI 2 by decide +kernel]
theorem g_part (h4 : 4 ≤ n) (h5 : n ≤ 512) {a : Nat} (ha : a < 8) (pos : Int64) : ∃ g, m_Log_part (G0 n) (nI a) pos = some (0 + 1, g) := by
  obtain ⟨g', w1, w2, w3⟩ := c_writePart0 (n := n) (g := G0 n) (med0 h4 h5) rfl rfl rfl (show n < 2 ^ 31 by omega) (fun a b c d e => padd0 (n := n) (by omega) (by omega) rfl rfl rfl rfl rfl rfl a b c d e) (nI a) pos
  obtain ⟨t, c1, -, -⟩ := b_clear (x := g_tape g') (by rw [w2]; show 2000 < 1048576; omega)
  have hw : m_Log_writeTape (G0 n) (nI a) pos = some (g_greatestPart g', g') := by
    unfold m_Log_writeTape m_Bytes_size m_Log_isGroup
    rw [Option.bind_some, if_neg (nI_pos (by omega)), n8, if_neg (nI_ge ha (by omega)), Option.bind_some]
    refine Eq.trans (if_neg e10) ?_
    refine Eq.trans (if_pos (show (g_tape (G0 n)).2 ≤ 155 by show (0 : Int32) ≤ 155; decide)) ?_
    refine Eq.trans (if_pos (show g_greatestPart (G0 n) < 1000000000 by show (0 : Int32) < 1000000000; decide)) ?_
    refine Eq.trans (bs (show m_Log_rowsOfPart (g_tape (G0 n)).2 = some 1 from rop0)) ?_
    refine Eq.trans (bs (show m_Room_firstRun (g_room (G0 n)) 1 = some 2 from run0 h4 h5 rfl rfl)) ?_
    refine Eq.trans (if_neg (by decide)) ?_
    refine Eq.trans (bs w1) ?_
    exact if_neg e10
  refine ⟨s_tape g' t, ?_⟩
  unfold m_Log_part
  refine Eq.trans (if_neg (show ¬ g_isOpen (G0 n) = 0 from e10)) ?_
  refine Eq.trans (bs hw) ?_
  refine Eq.trans (bs c1) ?_
  rw [w3]
  rfl
-- the reference's part
theorem bod0 : m_RRef_bodies 0 = some 0 := by
  unfold m_RRef_bodies
  rw [show ((0 : Int32) + 30) / 31 = 0 by decide +kernel]
theorem r_room1 (h4 : 4 ≤ n) (h5 : n ≤ 512) {r : St_Ref} (hr : g_Rrows r = nI n) (hu : us0 n r) : m_RRef_room r (1 + 0) = some 2 := by
  obtain ⟨f, hf, -⟩ := fu1 (k := 1) (fuel := FU) (FU_lt (by omega))
  unfold m_RRef_room
  rw [hf, m_RRef_room_L4, hr, n2, if_neg (nI_ge (by omega) (by omega)), hu.1, if_neg (nI_in (by omega) (by omega)), nI_clamp (by omega), if_pos (hu.2 2 (by omega) (by omega)), if_pos (by decide)]
  rw [show nI 2 - (1 + 0) + 1 = nI 2 by decide +kernel]
theorem r_writeAll1 {g : St_Ref} (hd : (g_Rdraft g).1 = 256) (hm : (g_Rmedium g).1 = 16384) (hc : g_RcutIn g = (-1)) : ∃ (m' : AI) (w' : Int32), m_RRef_writeAll g 2 (1 + 0) = some (1, s_Rwritten (s_Rmedium (s_RcutIn g (-1)) m') w') := by
  obtain ⟨f, hf, -⟩ := fu1 (k := 1) (fuel := FU) (FU_lt (by omega))
  obtain ⟨m', w', h1⟩ := r_write (g := g) (p := 2) 2 n2 (by omega) hd hm hc
  refine ⟨m', w', ?_⟩
  unfold m_RRef_writeAll
  rw [hf, m_RRef_writeAll_L5]
  refine Eq.trans (if_pos (by decide)) ?_
  refine Eq.trans (if_neg e10) ?_
  refine Eq.trans (bs h1) ?_
  exact if_neg e10
theorem r_writePart0 {g : St_Ref} (hd : (g_Rdraft g).1 = 256) (hm : (g_Rmedium g).1 = 16384) (hc : g_RcutIn g = (-1)) (hp : g_Rparts g = 0) (l1 : (g_RpNumber g).1 = 520) (l2 : (g_RpGroup g).1 = 520) (l3 : (g_RpPosition g).1 = 520) (l4 : (g_RpLength g).1 = 520) (l5 : (g_RpRow g).1 = 520) (grp : Int32) (pos : Int64) : ∃ v r, m_RRef_writePart_tape g grp pos 0 0 2 = some (v, r) ∧ v = g_RlastPart g + 1 := by
  obtain ⟨f, hf, -⟩ := fu1 (k := 1) (fuel := FU) (FU_lt (by omega))
  obtain ⟨x, c1, c2⟩ := r_clearD hd
  obtain ⟨y7, p7, k7⟩ := r_put (x := (x.1, upd (upd x.2 (0 : Int32).toNatClampNeg (vp_nar .byte 1)) (1 : Int32).toNatClampNeg (vp_nar .byte (grp.toInt8.toInt32)))) (p := 2) (q := 2) 2 2 ((0 : Int32).toInt64) n2 n2 (by show 2 + 2 ≤ x.1; omega) (by show x.1 < 1048576; omega)
  have k7 : y7.1 = 256 := k7.trans c2
  obtain ⟨y8, p8, k8⟩ := r_put (x := y7) (p := 4) (q := 4) 4 4 ((g_RlastPart g + 1).toInt64) n4 n4 (by omega) (by omega)
  obtain ⟨y9, p9, k9⟩ := r_put (x := y8) (p := 8) (q := 8) 8 8 pos n8 n8 (by omega) (by omega)
  have d1 : m_RRef_digest y9 32 (32 * 0) = some (digF y9.2 32 0) := by
    rw [show (32 : Int32) * 0 = nI 0 by decide +kernel, n32]
    exact r_digest (by omega) (by omega) (by omega)
  obtain ⟨y12, p12, k12⟩ := r_put (x := y9) (p := 16) (q := 8) 16 8 (digF y9.2 32 0) n16 n8 (by omega) (by omega)
  obtain ⟨y13, s1, s2⟩ := r_sumD (g := s_Rdraft g y12) (by simp only [qR_draft]; omega)
  obtain ⟨m', w', w1⟩ := r_writeAll1 (g := s_Rdraft g y13) (by simp only [qR_draft]; exact s2) (by simp only [qR_medium]; exact hm) (by simp only [qR_cutIn]; exact hc)
  have i0 : ∀ (N : Nat) (q : Int32), N = 520 → q = 0 → ¬ (q < 0 ∨ N ≤ q.toNatClampNeg) := by
    intro N q hN hq
    rw [hN, hq]; decide +kernel
  have G : ∀ G15 : St_Ref, G15 = s_Rwritten (s_Rmedium (s_RcutIn (s_Rdraft g y13) (-1)) m') w' → g_Rparts G15 = 0 ∧ (g_RpNumber G15).1 = 520 ∧ (g_RpGroup G15).1 = 520 ∧ (g_RpPosition G15).1 = 520 ∧ (g_RpLength G15).1 = 520 ∧ (g_RpRow G15).1 = 520 ∧ g_RlastPart G15 = g_RlastPart g := by
    intro G15 h
    subst h
    simp only [qR_parts, qR_pNumber, qR_pGroup, qR_pPosition, qR_pLength, qR_pRow, qR_lastPart]
    exact ⟨hp, l1, l2, l3, l4, l5, trivial⟩
  obtain ⟨G15, hG⟩ : ∃ G15 : St_Ref, G15 = s_Rwritten (s_Rmedium (s_RcutIn (s_Rdraft g y13) (-1)) m') w' := ⟨_, rfl⟩
  obtain ⟨z0, z1, z2, z3, z4, z5, z6⟩ := G G15 hG
  rw [← hG] at w1
  refine ⟨?v, ?r, ?h1, ?h2⟩
  case h1 =>
    unfold m_RRef_writePart_tape
    refine Eq.trans (bs c1) ?_
    rw [hf, m_RRef_writePart_tape_L7]
    refine Eq.trans (if_pos (by decide)) ?_
    rw [hf, m_RRef_writePart_tape_L54]
    refine Eq.trans (bs bod0) ?_
    refine Eq.trans (if_pos (by decide)) ?_
    simp only [qR_draft, sr_draft, qR_lastPart]
    refine Eq.trans (if_neg (show ¬ ((0 : Int32) < 0 ∨ x.1 ≤ (0 : Int32).toNatClampNeg) by rw [c2]; decide +kernel)) ?_
    refine Eq.trans (if_neg (show ¬ ((1 : Int32) < 0 ∨ x.1 ≤ (1 : Int32).toNatClampNeg) by rw [c2]; decide +kernel)) ?_
    refine Eq.trans (bs p7) ?_
    refine Eq.trans (bs p8) ?_
    refine Eq.trans (bs p9) ?_
    refine Eq.trans (bs bod0) ?_
    refine Eq.trans (bs d1) ?_
    refine Eq.trans (bs p12) ?_
    refine Eq.trans (bs s1) ?_
    refine Eq.trans (bs bod0) ?_
    simp only [sr_draft]
    refine Eq.trans (bs w1) ?_
    refine Eq.trans (if_neg e10) ?_
    refine Eq.trans (if_neg (i0 _ _ z1 z0)) ?_
    refine Eq.trans (if_neg (i0 _ _ z2 z0)) ?_
    refine Eq.trans (if_neg (i0 _ _ z3 z0)) ?_
    refine Eq.trans (if_neg (i0 _ _ z4 z0)) ?_
    refine Eq.trans (if_neg (i0 _ _ z5 z0)) ?_
    rfl
  case h2 => exact congrArg (fun t => t + 1) z6
theorem r_part (h4 : 4 ≤ n) (h5 : n ≤ 512) {a : Nat} (ha : a < 8) (pos : Int64) : ∃ r, m_RRef_part (R0 n) (nI a) pos = some (0 + 1, r) := by
  obtain ⟨u, h1, h2⟩ := r_used (n := n) (r0 := s_Rtaped (R0 n) 0) h5 rfl rfl rfl rfl
  obtain ⟨v, r, w1, w2⟩ := r_writePart0 (g := s_Rused (s_Rtaped (R0 n) 0) u) rfl rfl rfl rfl rfl rfl rfl rfl rfl (nI a) pos
  refine ⟨r, ?_⟩
  unfold m_RRef_part
  refine Eq.trans (if_neg (show ¬ g_Ropen (R0 n) = 0 from e10)) ?_
  refine Eq.trans (bs (r_isIn7 ha)) ?_
  refine Eq.trans (if_neg e10) ?_
  refine Eq.trans (if_pos (show g_Rtaped (R0 n) ≤ 155 by show (0 : Int32) ≤ 155; decide)) ?_
  refine Eq.trans (bs h1) ?_
  refine Eq.trans (bs (show m_RRef_bodies (g_Rtaped (R0 n)) = some 0 from bod0)) ?_
  refine Eq.trans (bs (r_room1 h4 h5 rfl h2)) ?_
  refine Eq.trans (if_neg (by decide)) ?_
  refine Eq.trans (if_neg (show ¬ g_RlastPart (s_Rused (s_Rtaped (R0 n) 0) u) = 1000000000 by show ¬ (0 : Int32) = 1000000000; decide)) ?_
  refine Eq.trans (bs (show m_RRef_writePart_tape (s_Rused (s_Rtaped (R0 n) 0) u) (nI a) pos 0 (g_Rtaped (R0 n)) 2 = some (v, r) from w1)) ?_
  rw [w2]
  rfl
theorem o_part (h4 : 4 ≤ n) (h5 : n ≤ 512) (k : Int32) (pos : Int64) : ∃ a g r, m_Log_part (G0 n) k pos = some (a, g) ∧ m_RRef_part (R0 n) k pos = some (a, r) := by
  obtain ⟨t, c1, -, -⟩ := b_clear (x := g_tape (G0 n)) (show 2000 < 1048576 by omega)
  rcases pk_ix k (n := 8) (by omega) with h | h | ⟨a, ha, rfl⟩
  · unfold m_Log_part m_Log_writeTape m_Log_isGroup m_Bytes_size m_RRef_part m_RRef_isIn
    rw [if_neg (show ¬ g_isOpen (G0 n) = 0 from e10), if_neg (show ¬ g_Ropen (R0 n) = 0 from e10), Option.bind_some, if_pos h, if_pos h, Option.bind_some, if_pos rfl, Option.bind_some, bs c1, Option.bind_some, if_pos rfl]
    exact ⟨_, _, _, rfl, rfl⟩
  · have h0 : ¬ k < 0 := fun h1 => Int32.lt_irrefl (Int32.lt_of_lt_of_le (Int32.lt_of_le_of_lt h h1) (nI_pos' (n := 8) (by omega)))
    unfold m_Log_part m_Log_writeTape m_Log_isGroup m_Bytes_size m_RRef_part m_RRef_isIn
    rw [if_neg (show ¬ g_isOpen (G0 n) = 0 from e10), if_neg (show ¬ g_Ropen (R0 n) = 0 from e10), Option.bind_some, if_neg h0, if_pos (show (8 : Int32) ≤ k from h), if_neg h0, if_pos (Int32.lt_of_lt_of_le (show (7 : Int32) < nI 8 by decide +kernel) h), Option.bind_some, if_pos rfl, Option.bind_some, bs c1, Option.bind_some, if_pos rfl]
    exact ⟨_, _, _, rfl, rfl⟩
  · obtain ⟨g, e1⟩ := g_part h4 h5 ha pos
    obtain ⟨r, e2⟩ := r_part h4 h5 ha pos
    exact ⟨_, _, _, e1, e2⟩
end
