-- A PART IS DRAWN, AND WRITTEN
theorem n31 : (31 : Int32) = nI 31 := by decide +kernel
theorem posn {i : Nat} (hi : i < 2 ^ 20) : (((32 * (1 + (nI i / 31))) + 1) + (jrem (nI i) 31)) = nI (32 * (1 + i / 31) + 1 + i % 31) := by
  unfold jrem
  rw [n31, pk_rem (by omega) (by omega) (by omega), pk_div (by omega) (by omega) (by omega), n1, nI_add, n32, pk_mul, nI_add, nI_add]
theorem bv5 : bv 5 = 5 := by decide +kernel
theorem C_dP_L {g : St_Log} {tape : St_Bytes} (ht : g_tape g = tape) (hT : BBe 2000 tape) (hby : ∀ j, By (tape.1.2 j)) {fr len B : Nat} (hl : len ≤ 155) (hfr : fr + len ≤ 2000) (num grp : Int32) (pos : Int64) : ∀ (d fuel : Nat) (im : St_Bytes) (i : Nat), BBe 224 im → im.1.2 = bodyF tape.1.2 fr i B → i + d = len → d < fuel → ∃ im', m_Log_drawPart_L45 fuel (s_image g im) num grp pos (nI fr) (nI len) (nI i) = some (s_image g im') ∧ im'.1.2 = partImg (bodyF tape.1.2 fr len B) len num grp pos ∧ BBe 224 im' := by
  intro d
  induction d with
  | zero =>
    intro fuel im i hI hc hj hf
    obtain ⟨fu, rfl, -⟩ := fu1 hf
    have hb6 : bod len ≤ 5 := by unfold bod; omega
    have hie : i = len := by omega
    subst hie
    obtain ⟨y5, p5, c5, b5⟩ := Be_put hI (by omega) (i := 0) (K := 1) (by omega) (by omega) 1
    obtain ⟨y6, p6, c6, b6⟩ := Be_put b5 (by omega) (i := 1) (K := 1) (by omega) (by omega) grp.toInt64
    obtain ⟨y7, p7, c7, b7⟩ := Be_put b6 (by omega) (i := 2) (K := 2) (by omega) (by omega) (nI i).toInt64
    obtain ⟨y8, p8, c8, b8⟩ := Be_put b7 (by omega) (i := 4) (K := 4) (by omega) (by omega) num.toInt64
    obtain ⟨y9, p9, c9, b9⟩ := Be_put b8 (by omega) (i := 8) (K := 8) (by omega) (by omega) pos
    have d1 : m_Bytes_digest y9 32 (32 * nI (1 + bod i)) = some (digF y9.1.2 32 (32 * bod i)) := by
      rw [n32, pk_mul]
      have h := Be_dig b9 (by omega) (a := 32) (b := 32 * (1 + bod i)) (by omega) (by omega)
      rw [show 32 * (1 + bod i) - 32 = 32 * bod i by omega] at h
      exact h
    obtain ⟨y12, p12, c12, b12⟩ := Be_put b9 (by omega) (i := 16) (K := 8) (by omega) (by omega) (digF y9.1.2 32 (32 * bod i))
    obtain ⟨im', s1, s2, s3⟩ := C_drawSum (g := s_image g y12) (im := y12) rfl b12
    refine ⟨im', ?_, ?_, s3⟩
    · rw [m_Log_drawPart_L45]
      refine Eq.trans (if_pos (nI_le (by omega) (by omega))) ?_
      simp only [q_image, ss_image]
      refine Eq.trans (bs p5) ?_
      refine Eq.trans (bs p6) ?_
      refine Eq.trans (bs p7) ?_
      refine Eq.trans (bs p8) ?_
      refine Eq.trans (bs p9) ?_
      refine Eq.trans (bs (C_rowsOfPart (by omega))) ?_
      refine Eq.trans (bs d1) ?_
      refine Eq.trans (bs p12) ?_
      refine Eq.trans (bs s1) ?_
      rfl
    · rw [s2, c12, c9, c8, c7, c6, c5, hc]; rfl
  | succ d ih =>
    intro fuel im i hI hc hj hf
    obtain ⟨fu, rfl, hf'⟩ := fu1 hf
    obtain ⟨x', h1, h2, h3⟩ := Be_put hI (by omega) (i := 32 * (1 + i / 31) + 1 + i % 31) (K := 1) (by omega) (by omega) ((tape.1.2 (fr + i) &&& 255).toInt64)
    rw [m_Log_drawPart_L45]
    simp only [q_image, q_tape, ss_image, ht]
    rw [posn (by omega), nI_add]
    rw [if_neg (nI_ge (show i < len by omega) (by omega)), bs (Be_at hT (by omega) (by omega)), bs (show m_Bytes_put im (nI (32 * (1 + i / 31) + 1 + i % 31)) ((tape.1.2 (fr + i) &&& 255).toInt64) 1 = some x' from h1), nI_1]
    exact ih fu x' (i + 1) h3 (by rw [h2, pF1, bv_255 (hby _), hc, bodyF_i]) (by omega) (by omega)
theorem C_dP_L2 {g : St_Log} {tape : St_Bytes} (ht : g_tape g = tape) (hT : BBe 2000 tape) (hby : ∀ j, By (tape.1.2 j)) {fr len : Nat} (hl : len ≤ 155) (hfr : fr + len ≤ 2000) (num grp : Int32) (pos : Int64) : ∀ (d fuel : Nat) (im : St_Bytes) (k : Nat), BBe 224 im → im.1.2 = bodyF tape.1.2 fr 0 k → 1 ≤ k → k + d = bod len + 1 → d < fuel → ∃ im', m_Log_drawPart_L10 fuel (s_image g im) num grp pos (nI fr) (nI len) (nI k) = some (s_image g im') ∧ im'.1.2 = partImg (bodyF tape.1.2 fr len (bod len + 1)) len num grp pos ∧ BBe 224 im' := by
  have hb6 : bod len ≤ 5 := by unfold bod; omega
  intro d
  induction d with
  | zero =>
    intro fuel im k hI hc hk hj hf
    obtain ⟨fu, rfl, -⟩ := fu1 hf
    obtain ⟨im', h1, h2, h3⟩ := C_dP_L ht hT hby hl hfr num grp pos len FU im 0 (B := bod len + 1) hI (by rw [hc, show k = bod len + 1 by omega]) (by omega) (FU_lt (by omega))
    refine ⟨im', ?_, h2, h3⟩
    rw [m_Log_drawPart_L10]
    refine Eq.trans (bs (C_bodiesOf (by omega))) ?_
    refine Eq.trans (if_pos (nI_lt (by omega) (by omega))) ?_
    exact h1
  | succ d ih =>
    intro fuel im k hI hc hk hj hf
    obtain ⟨fu, rfl, hf'⟩ := fu1 hf
    obtain ⟨x', h1, h2, h3⟩ := Be_put hI (by omega) (i := 32 * k) (K := 1) (by omega) (by omega) 5
    obtain ⟨im', i1, i2, i3⟩ := ih fu x' (k + 1) h3 (by rw [h2, pF1, bv5, hc, bodyF_b _ _ _ _ hk]) (by omega) (by omega) (by omega)
    refine ⟨im', ?_, i2, i3⟩
    rw [m_Log_drawPart_L10]
    refine Eq.trans (bs (C_bodiesOf (by omega))) ?_
    refine Eq.trans (if_neg (nI_nlt (by omega) (by omega))) ?_
    simp only [q_image, ss_image]
    rw [n32, pk_mul, Nat.mul_comm k 32]
    refine Eq.trans (bs (show m_Bytes_put im (nI (32 * k)) 5 1 = some x' from h1)) ?_
    rw [nI_1]
    exact i1
theorem C_drawPart {g : St_Log} {tape : St_Bytes} (ht : g_tape g = tape) (hT : BBe 2000 tape) (hby : ∀ j, By (tape.1.2 j)) (hI : BBe 224 (g_image g)) {fr len : Nat} (hl : len ≤ 155) (hfr : fr + len ≤ 2000) (num grp : Int32) (pos : Int64) : ∃ im', m_Log_drawPart g num grp pos (nI fr) (nI len) = some (s_image g im') ∧ im'.1.2 = partImg (bodyF tape.1.2 fr len (bod len + 1)) len num grp pos ∧ BBe 224 im' := by
  have hb6 : bod len ≤ 5 := by unfold bod; omega
  obtain ⟨e1, e2⟩ := Be_clear hI (by omega)
  obtain ⟨im', h1, h2, h3⟩ := C_dP_L2 ht hT hby hl hfr num grp pos (bod len) FU ((224, fun _ => 0), 0) 1 e2 (bodyF0 _ _) (by omega) (by omega) (FU_lt (by omega))
  refine ⟨im', ?_, h2, h3⟩
  unfold m_Log_drawPart
  refine Eq.trans (bs e1) ?_
  rw [n1]
  exact h1
theorem By_body {tp : Nat → Int32} (h : ∀ j, By (tp j)) (fr i b : Nat) : ∀ j, By (bodyF tp fr i b j) := by
  intro j
  unfold bodyF
  split
  · split
    · unfold By; decide
    · exact By0
  · split
    · exact h _
    · exact By0
theorem By_part {body : Nat → Int32} (h : ∀ j, By (body j)) (len : Nat) (num grp : Int32) (pos : Int64) : ∀ j, By (partImg body len num grp pos j) := by
  unfold partImg
  exact By_pF (By_pF (By_pF (By_pF (By_pF (By_pF (By_pF h _ _ _) _ _ _) _ _ _) _ _ _) _ _ _) _ _ _) _ _ _
theorem pF_hi {f : Nat → Int32} {i K : Nat} {v : Int64} {j : Nat} (h : i + K ≤ j) : pF f i K v j = f j := by
  unfold pF
  rw [if_neg (by omega)]
theorem part_hi (tp : Nat → Int32) (fr : Nat) {len : Nat} (hl : len ≤ 155) (num grp : Int32) (pos : Int64) {j : Nat} (hj : 224 ≤ j) : partImg (bodyF tp fr len (bod len + 1)) len num grp pos j = 0 := by
  have hb6 : bod len ≤ 5 := by unfold bod; omega
  unfold partImg
  rw [pF_hi (by omega), pF_hi (by omega), pF_hi (by omega), pF_hi (by omega), pF_hi (by omega), pF_hi (by omega), pF_hi (by omega)]
  unfold bodyF
  split
  · rw [if_neg (by omega)]
  · rw [if_neg (by unfold idx; omega)]
-- the reference
theorem R_bodies {len : Nat} (h : len < 2 ^ 30) : m_RRef_bodies (nI len) = some (nI (bod len)) := by
  unfold m_RRef_bodies bod
  rw [show (30 : Int32) = nI 30 by decide +kernel, n31, nI_add, pk_div (by omega) (by omega) (by omega)]
theorem R_sumDraft {g : St_Ref} {f : Nat → Int32} (hd : g_Rdraft g = (256, f)) : m_RRef_sumDraft g = some (s_Rdraft g (256, pF f 24 8 (digF f 0 24))) := by
  unfold m_RRef_sumDraft
  rw [hd]
  refine Eq.trans (bs (show m_RRef_digest (256, f) 0 24 = some (digF f 0 24) from r_digest (x := (256, f)) (a := 0) (K := 24) (by show 0 + 24 ≤ 256; omega) (by show 256 < 2 ^ 31; omega) (by omega))) ?_
  refine Eq.trans (bs (show m_RRef_put (256, f) 24 8 (digF f 0 24) = some (256, pF f 24 8 (digF f 0 24)) from R_put (x := (256, f)) (i := 24) (K := 8) (by show 256 < 2 ^ 31; omega) (by omega) (by show 24 + 8 ≤ 256; omega) _)) ?_
  rfl
/-- a PART more is known -/
def rpush (G : St_Ref) (grp : Int32) (pos : Int64) (len row : Int32) : St_Ref := s_Rparts (s_RpRow (s_RpLength (s_RpPosition (s_RpGroup (s_RpNumber (s_RlastPart G ((g_RlastPart G) + 1)) ((g_RpNumber G).1, upd (g_RpNumber G).2 ((g_Rparts G)).toNatClampNeg ((g_RlastPart G) + 1))) ((g_RpGroup G).1, upd (g_RpGroup G).2 ((g_Rparts G)).toNatClampNeg grp)) ((g_RpPosition G).1, vp_updL (g_RpPosition G).2 ((g_Rparts G)).toNatClampNeg pos)) ((g_RpLength G).1, upd (g_RpLength G).2 ((g_Rparts G)).toNatClampNeg len)) ((g_RpRow G).1, upd (g_RpRow G).2 ((g_Rparts G)).toNatClampNeg row)) ((g_Rparts G) + 1)
/-- room for one PART more in the reference's tables -/
def rroom (g : St_Ref) : Prop := ∃ P : Nat, g_Rparts g = nI P ∧ P < 520 ∧ (g_RpNumber g).1 = 520 ∧ (g_RpGroup g).1 = 520 ∧ (g_RpPosition g).1 = 520 ∧ (g_RpLength g).1 = 520 ∧ (g_RpRow g).1 = 520
theorem rroom_rout {g : St_Ref} {x : AI} (h : rroom g) (q : Int32 × T3) : rroom (rout (s_Rdraft g x) q) := by
  unfold rout
  split <;> exact h
theorem R_wP54 {g : St_Ref} (hroom : rroom g) (hm : (g_Rmedium g).1 = 16384) (hp : Pw (g_RcutIn g)) {tp : Nat → Int32} (hby : ∀ j, By (tp j)) {fr len row : Nat} (hl : len ≤ 155) (hr : row + 1 + bod len ≤ 512) (grp : Int32) (pos : Int64) : ∀ (d fuel : Nat) (k : Nat), 1 ≤ k → k + d = bod len + 1 → d < fuel → m_RRef_writePart_tape_L54 fuel (s_Rdraft g (256, bodyF tp fr len k)) grp pos (nI len) (nI row) (nI k) = some (if (wrM (partImg (bodyF tp fr len (bod len + 1)) len (g_RlastPart g + 1) grp pos) row (bod len) 1 (rtri g)).1 = 0 then ((-5), rout (s_Rdraft g (256, partImg (bodyF tp fr len (bod len + 1)) len (g_RlastPart g + 1) grp pos)) (wrM (partImg (bodyF tp fr len (bod len + 1)) len (g_RlastPart g + 1) grp pos) row (bod len) 1 (rtri g))) else (g_RlastPart g + 1, rpush (rout (s_Rdraft g (256, partImg (bodyF tp fr len (bod len + 1)) len (g_RlastPart g + 1) grp pos)) (wrM (partImg (bodyF tp fr len (bod len + 1)) len (g_RlastPart g + 1) grp pos) row (bod len) 1 (rtri g))) grp pos (nI len) (nI row))) := by
  have hb6 : bod len ≤ 5 := by unfold bod; omega
  intro d
  induction d with
  | zero =>
    intro fuel k hk hj hf
    obtain ⟨fu, rfl, -⟩ := fu1 hf
    have hke : k = bod len + 1 := by omega
    subst hke
    obtain ⟨F, hF⟩ : ∃ F, F = bodyF tp fr len (bod len + 1) := ⟨_, rfl⟩
    rw [← hF]
    have hFb : ∀ j, By (F j) := by rw [hF]; exact By_body hby _ _ _
    have hw := R_writeAll (g := s_Rdraft g (256, partImg F len (g_RlastPart g + 1) grp pos)) hm rfl (By_part hFb _ _ _ _) (row := row) (count := 1 + bod len) (by omega) (by omega) hp
    obtain ⟨q, hq⟩ : ∃ q, q = wrM (partImg F len (g_RlastPart g + 1) grp pos) row (bod len) 1 (rtri g) := ⟨_, rfl⟩
    have hw2 : m_RRef_writeAll (s_Rdraft g (256, partImg F len (g_RlastPart g + 1) grp pos)) (nI row) (nI (1 + bod len)) = some (q.1, rout (s_Rdraft g (256, partImg F len (g_RlastPart g + 1) grp pos)) q) := by
      rw [hq]
      rw [show 1 + bod len - 1 = bod len by omega] at hw
      exact hw
    rw [← hq]
    obtain ⟨f5, hf5⟩ : ∃ f5, f5 = pF (pF (pF (pF (pF F 0 1 1) 1 1 grp.toInt64) 2 2 (nI len).toInt64) 4 4 (g_RlastPart g + 1).toInt64) 8 8 pos := ⟨_, rfl⟩
    have u0 : upd (upd F (0 : Int32).toNatClampNeg (vp_nar .byte 1)) (1 : Int32).toNatClampNeg (vp_nar .byte (grp.toInt8.toInt32)) = pF (pF F 0 1 1) 1 1 grp.toInt64 := by
      rw [pF1, pF1, bv_i]; rfl
    have d1 : m_RRef_digest (256, f5) 32 (32 * nI (bod len)) = some (digF f5 32 (32 * bod len)) := by
      rw [n32, pk_mul]
      exact r_digest (x := (256, f5)) (by show 32 + 32 * bod len ≤ 256; omega) (by show 256 < 2 ^ 31; omega) (by omega)
    have s1 := R_sumDraft (g := s_Rdraft g (256, pF f5 16 8 (digF f5 32 (32 * bod len)))) rfl
    rw [m_RRef_writePart_tape_L54]
    refine Eq.trans (bs (R_bodies (by omega))) ?_
    refine Eq.trans (if_pos (nI_lt (by omega) (by omega))) ?_
    simp only [qR_draft, sr_draft, qR_lastPart]
    rw [u0]
    refine Eq.trans (if_neg (by decide)) ?_
    refine Eq.trans (if_neg (by decide)) ?_
    refine Eq.trans (bs (show m_RRef_put (256, pF (pF F 0 1 1) 1 1 grp.toInt64) 2 2 (nI len).toInt64 = _ from R_put (x := (256, pF (pF F 0 1 1) 1 1 grp.toInt64)) (i := 2) (K := 2) (by show 256 < 2 ^ 31; omega) (by omega) (by show 2 + 2 ≤ 256; omega) _)) ?_
    refine Eq.trans (bs (show m_RRef_put (256, pF (pF (pF F 0 1 1) 1 1 grp.toInt64) 2 2 (nI len).toInt64) 4 4 (g_RlastPart g + 1).toInt64 = _ from R_put (x := (256, pF (pF (pF F 0 1 1) 1 1 grp.toInt64) 2 2 (nI len).toInt64)) (i := 4) (K := 4) (by show 256 < 2 ^ 31; omega) (by omega) (by show 4 + 4 ≤ 256; omega) _)) ?_
    refine Eq.trans (bs (show m_RRef_put (256, pF (pF (pF (pF F 0 1 1) 1 1 grp.toInt64) 2 2 (nI len).toInt64) 4 4 (g_RlastPart g + 1).toInt64) 8 8 pos = _ from R_put (x := (256, pF (pF (pF (pF F 0 1 1) 1 1 grp.toInt64) 2 2 (nI len).toInt64) 4 4 (g_RlastPart g + 1).toInt64)) (i := 8) (K := 8) (by show 256 < 2 ^ 31; omega) (by omega) (by show 8 + 8 ≤ 256; omega) _)) ?_
    simp only
    rw [← hf5]
    refine Eq.trans (bs (R_bodies (by omega))) ?_
    refine Eq.trans (bs d1) ?_
    refine Eq.trans (bs (show m_RRef_put (256, f5) 16 8 (digF f5 32 (32 * bod len)) = _ from R_put (x := (256, f5)) (i := 16) (K := 8) (by show 256 < 2 ^ 31; omega) (by omega) (by show 16 + 8 ≤ 256; omega) _)) ?_
    simp only [sr_draft]
    refine Eq.trans (bs s1) ?_
    refine Eq.trans (bs (R_bodies (by omega))) ?_
    rw [n1, nI_add]
    simp only [sr_draft]
    have hP : pF (pF f5 16 8 (digF f5 32 (32 * bod len))) 24 8 (digF (pF f5 16 8 (digF f5 32 (32 * bod len))) 0 24) = partImg F len (g_RlastPart g + nI 1) grp pos := by
      rw [hf5]; rfl
    rw [hP]
    rw [n1] at hw2
    refine Eq.trans (bs hw2) ?_
    obtain ⟨G, hG⟩ : ∃ G, G = rout (s_Rdraft g (256, partImg F len (g_RlastPart g + nI 1) grp pos)) q := ⟨_, rfl⟩
    have hGl : g_RlastPart G = g_RlastPart g := by
      rw [hG]
      unfold rout
      split <;> rfl
    have hGr : rroom G := by rw [hG]; exact rroom_rout hroom q
    simp only
    rw [← hG]
    by_cases h0 : q.1 = 0
    · rw [if_pos h0, if_pos h0]
    · rw [if_neg h0, if_neg h0]
      obtain ⟨P, z0, z1, z2, z3, z4, z5, z6⟩ := hGr
      have i0 : ∀ N : Nat, N = 520 → ¬ (g_Rparts G < 0 ∨ N ≤ (g_Rparts G).toNatClampNeg) := by
        intro N hN
        rw [hN, z0]; exact nI_in z1 (by omega)
      refine Eq.trans (if_neg (i0 _ z2)) ?_
      refine Eq.trans (if_neg (i0 _ z3)) ?_
      refine Eq.trans (if_neg (i0 _ z4)) ?_
      refine Eq.trans (if_neg (i0 _ z5)) ?_
      refine Eq.trans (if_neg (i0 _ z6)) ?_
      rw [← hGl]
      rfl
  | succ d ih =>
    intro fuel k hk hj hf
    obtain ⟨fu, rfl, hf'⟩ := fu1 hf
    rw [m_RRef_writePart_tape_L54]
    refine Eq.trans (bs (R_bodies (by omega))) ?_
    refine Eq.trans (if_neg (nI_nlt (by omega) (by omega))) ?_
    simp only [qR_draft, sr_draft]
    rw [n32, pk_mul]
    refine Eq.trans (if_neg (nI_in (show 32 * k < 256 by omega) (by omega))) ?_
    rw [nI_1, nI_clamp (by omega), show vp_nar .byte 5 = 5 by decide +kernel, bodyF_b _ _ _ _ hk]
    exact ih fu (k + 1) (by omega) (by omega) (by omega)
theorem R_wP7 {g : St_Ref} (hroom : rroom g) (hm : (g_Rmedium g).1 = 16384) (hp : Pw (g_RcutIn g)) {tp : Nat → Int32} (ht : g_Rtape g = (2000, tp)) (hby : ∀ j, By (tp j)) {fr len row : Nat} (hl : len ≤ 155) (hfr : fr + len ≤ 2000) (hr : row + 1 + bod len ≤ 512) (grp : Int32) (pos : Int64) : ∀ (d fuel : Nat) (i : Nat), i + d = len → d < fuel → m_RRef_writePart_tape_L7 fuel (s_Rdraft g (256, bodyF tp fr i 1)) grp pos (nI fr) (nI len) (nI row) (nI i) = some (if (wrM (partImg (bodyF tp fr len (bod len + 1)) len (g_RlastPart g + 1) grp pos) row (bod len) 1 (rtri g)).1 = 0 then ((-5), rout (s_Rdraft g (256, partImg (bodyF tp fr len (bod len + 1)) len (g_RlastPart g + 1) grp pos)) (wrM (partImg (bodyF tp fr len (bod len + 1)) len (g_RlastPart g + 1) grp pos) row (bod len) 1 (rtri g))) else (g_RlastPart g + 1, rpush (rout (s_Rdraft g (256, partImg (bodyF tp fr len (bod len + 1)) len (g_RlastPart g + 1) grp pos)) (wrM (partImg (bodyF tp fr len (bod len + 1)) len (g_RlastPart g + 1) grp pos) row (bod len) 1 (rtri g))) grp pos (nI len) (nI row))) := by
  have hb6 : bod len ≤ 5 := by unfold bod; omega
  intro d
  induction d with
  | zero =>
    intro fuel i hj hf
    obtain ⟨fu, rfl, -⟩ := fu1 hf
    have hie : i = len := by omega
    subst hie
    rw [m_RRef_writePart_tape_L7]
    refine Eq.trans (if_pos (nI_le (by omega) (by omega))) ?_
    rw [n1]
    exact R_wP54 hroom hm hp hby hl hr grp pos (bod i) FU 1 (by omega) (by omega) (FU_lt (by omega))
  | succ d ih =>
    intro fuel i hj hf
    obtain ⟨fu, rfl, hf'⟩ := fu1 hf
    rw [m_RRef_writePart_tape_L7]
    refine Eq.trans (if_neg (nI_ge (by omega) (by omega))) ?_
    simp only [qR_draft, sr_draft, qR_tape, ht]
    rw [posn (by omega), nI_add]
    refine Eq.trans (if_neg (nI_in (show fr + i < 2000 by omega) (by omega))) ?_
    refine Eq.trans (if_neg (nI_in (show 32 * (1 + i / 31) + 1 + i % 31 < 256 by omega) (by omega))) ?_
    rw [nI_1, nI_clamp (show fr + i < 2 ^ 31 by omega), nI_clamp (show 32 * (1 + i / 31) + 1 + i % 31 < 2 ^ 31 by omega), By.nar (hby _), bodyF_i]
    exact ih fu (i + 1) (by omega) (by omega)
theorem R_writePart {g : St_Ref} (hD : DR g) (hroom : rroom g) (hm : (g_Rmedium g).1 = 16384) (hp : Pw (g_RcutIn g)) {tp : Nat → Int32} (ht : g_Rtape g = (2000, tp)) (hby : ∀ j, By (tp j)) {fr len row : Nat} (hl : len ≤ 155) (hfr : fr + len ≤ 2000) (hr : row + 1 + bod len ≤ 512) (grp : Int32) (pos : Int64) : m_RRef_writePart_tape g grp pos (nI fr) (nI len) (nI row) = some (if (wrM (partImg (bodyF tp fr len (bod len + 1)) len (g_RlastPart g + 1) grp pos) row (bod len) 1 (rtri g)).1 = 0 then ((-5), rout (s_Rdraft g (256, partImg (bodyF tp fr len (bod len + 1)) len (g_RlastPart g + 1) grp pos)) (wrM (partImg (bodyF tp fr len (bod len + 1)) len (g_RlastPart g + 1) grp pos) row (bod len) 1 (rtri g))) else (g_RlastPart g + 1, rpush (rout (s_Rdraft g (256, partImg (bodyF tp fr len (bod len + 1)) len (g_RlastPart g + 1) grp pos)) (wrM (partImg (bodyF tp fr len (bod len + 1)) len (g_RlastPart g + 1) grp pos) row (bod len) 1 (rtri g))) grp pos (nI len) (nI row))) := by
  unfold m_RRef_writePart_tape
  refine Eq.trans (bs (R_clear hD)) ?_
  rw [bodyF0 tp fr]
  exact R_wP7 hroom hm hp ht hby hl hfr hr grp pos len FU 0 (by omega) (FU_lt (by omega))
theorem C_writePart {n : Nat} {g : St_Log} {t : T3} {tape : St_Bytes} (hm : g_medium g = mk3 n t) (ho : g_isOpen g = 1) (h4 : 4 ≤ n) (h5 : n ≤ 512) (hp : Pw t.2.1) (ht : g_tape g = tape) (hT : BBe 2000 tape) (hby : ∀ j, By (tape.1.2 j)) (hI : BBe 224 (g_image g)) {fr len row : Nat} (hl : len ≤ 155) (hfr : fr + len ≤ 2000) (hr : row + 1 + bod len ≤ n) (grp : Int32) (pos : Int64) {rm : St_Room} (hT2 : m_Room_take (g_room g) (nI row) (nI (1 + bod len)) = some rm) {x' : St_Parts} (hA : m_Parts_add (g_parts g) (g_greatestPart g + 1) grp (nI len) (nI row) pos = some x') : ∃ im, BBe 224 im ∧ m_Log_writePart g (nI row) grp pos (nI fr) (nI len) = some (if (wrM (partImg (bodyF tape.1.2 fr len (bod len + 1)) len (g_greatestPart g + 1) grp pos) row (bod len) 1 t).1 = 0 then (0, s_room (wi n (s_image g im) (wrM (partImg (bodyF tape.1.2 fr len (bod len + 1)) len (g_greatestPart g + 1) grp pos) row (bod len) 1 t)) rm) else (1, s_greatestPart (s_parts (s_room (wi n (s_image g im) (wrM (partImg (bodyF tape.1.2 fr len (bod len + 1)) len (g_greatestPart g + 1) grp pos) row (bod len) 1 t)) rm) x') (g_greatestPart g + 1))) := by
  have hb6 : bod len ≤ 5 := by unfold bod; omega
  obtain ⟨im, d1, d2, d3⟩ := C_drawPart ht hT hby hI hl hfr (g_greatestPart g + 1) grp pos
  obtain ⟨s, hs⟩ := id d3
  have hbi : ∀ j, By (im.1.2 j) := by rw [d2]; exact By_part (By_body hby _ _ _) _ _ _ _
  have hw := C_writeImage (n := n) (g := s_image g im) (t := t) (im := im) (by simp only [q_medium]; exact hm) (by simp only [q_isOpen]; exact ho) rfl hs hbi h4 h5 (row := row) (count := 1 + bod len) (by omega) (by omega) (by simp only [q_room]; exact hT2) hp
  rw [show 1 + bod len - 1 = bod len by omega, d2] at hw
  refine ⟨im, d3, ?_⟩
  obtain ⟨q, hq⟩ : ∃ q, q = wrM (partImg (bodyF tape.1.2 fr len (bod len + 1)) len (g_greatestPart g + 1) grp pos) row (bod len) 1 t := ⟨_, rfl⟩
  rw [← hq] at hw ⊢
  unfold m_Log_writePart
  refine Eq.trans (bs d1) ?_
  refine Eq.trans (bs (C_rowsOfPart (by omega))) ?_
  refine Eq.trans (bs hw) ?_
  by_cases h0 : q.1 = 0
  · rw [if_pos h0, if_pos h0]
  · rw [if_neg h0, if_neg h0]
    refine Eq.trans (bs (show m_Parts_add (g_parts (s_room (wi n (s_image g im) q) rm)) (g_greatestPart g + 1) grp (nI len) (nI row) pos = some x' from hA)) ?_
    rfl
