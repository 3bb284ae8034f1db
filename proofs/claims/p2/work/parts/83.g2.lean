-- WRITING ROWS
theorem nar_b (x : Int32) : vp_nar .byte x = x.toInt8.toInt32 := rfl
theorem i8_255 (c : Int32) : (c &&& 255).toInt8 = c.toInt8 := by
  rw [Int32.toInt8_and, show (255 : Int32).toInt8 = -1 by decide +kernel]
  exact Int8.and_neg_one
/-- a byte, as an array of bytes keeps it -/
def By (c : Int32) : Prop := c.toInt8.toInt32 = c
theorem By.nar {c : Int32} (h : By c) : vp_nar .byte c = c := h
theorem By.back {c : Int32} (h : By c) : vp_nar .byte ((c &&& 255).toInt8.toInt32) = c := by
  rw [nar_b, i8_255, Int8.toInt8_toInt32]; exact h
theorem By_nar (x : Int32) : By (vp_nar .byte x) := by
  unfold By
  rw [nar_b, Int8.toInt8_toInt32]
theorem By_bv (v : Int64) : By (bv v) := By_nar _
theorem By0 : By 0 := by unfold By; decide
theorem By_pF {f : Nat → Int32} (h : ∀ j, By (f j)) (i K : Nat) (v : Int64) : ∀ j, By (pF f i K v j) := by
  intro j
  unfold pF
  split
  · exact By_bv _
  · exact h j
theorem By_upd {f : Nat → Int32} (h : ∀ j, By (f j)) (i : Nat) {x : Int32} (hx : By x) : ∀ j, By (upd f i x j) := by
  intro j
  unfold upd
  split
  · exact hx
  · exact h j
/-- power: none is set, or so many bytes more -/
def Pw (p : Int32) : Prop := p = (-1) ∨ ∃ c : Nat, c ≤ 20000 ∧ p = nI c
def pwn (p : Int32) : Int32 := if p = (-1) then (-1) else p - 1
theorem Pw_n {p : Int32} (h : Pw p) (h0 : ¬ p = 0) : Pw (pwn p) ∧ (if p ≤ 0 then p else p - 1) = pwn p := by
  unfold pwn
  rcases h with rfl | ⟨c, hc, rfl⟩
  · exact ⟨Or.inl rfl, rfl⟩
  · have hc0 : 0 < c := Nat.pos_of_ne_zero (fun e => h0 (by rw [e]; rfl))
    have h1 : ¬ nI c = (-1) := fun e => by
      have := congrArg Int32.toInt e
      rw [nI_toInt (by omega)] at this
      have h2 : Int32.toInt (-1) = -1 := by decide
      rw [h2] at this
      omega
    rw [if_neg h1, if_neg (nI_nle hc0 (by omega)), n1, pk_sub (by omega)]
    exact ⟨Or.inr ⟨c - 1, by omega, rfl⟩, rfl⟩
/-- d bytes more of a row that begins at base, j are written: (whether power stayed, bytes, power, bytes written) -/
def wrS (src : Nat → Int32) (base : Nat) : Nat → Nat → (Nat → Int32) × Int32 × Int32 → Int32 × (Nat → Int32) × Int32 × Int32
  | 0, _, s => (1, s)
  | d + 1, j, s => if s.2.1 = 0 then (0, s.1, (-1), s.2.2) else wrS src base d (j + 1) (upd s.1 (base + j) (src j), pwn s.2.1, s.2.2 + 1)
theorem wrS_ok (src : Nat → Int32) (base : Nat) : ∀ (d j : Nat) (s : (Nat → Int32) × Int32 × Int32), (wrS src base d j s).1 = 0 ∨ (wrS src base d j s).1 = 1 := by
  intro d
  induction d with
  | zero => intro j s; exact Or.inr rfl
  | succ d ih =>
    intro j s
    rw [wrS]
    split
    · exact Or.inl rfl
    · exact ih _ _
theorem wrS_pw (src : Nat → Int32) (base : Nat) : ∀ (d j : Nat) (s : (Nat → Int32) × Int32 × Int32), Pw s.2.1 → Pw (wrS src base d j s).2.2.1 := by
  intro d
  induction d with
  | zero => intro j s h; exact h
  | succ d ih =>
    intro j s h
    rw [wrS]
    split
    · exact Or.inl rfl
    · rename_i h0
      exact ih _ _ (Pw_n h h0).1
theorem wrS_by (src : Nat → Int32) (hs : ∀ j, By (src j)) (base : Nat) : ∀ (d j : Nat) (s : (Nat → Int32) × Int32 × Int32), (∀ j, By (s.1 j)) → ∀ j', By ((wrS src base d j s).2.1 j') := by
  intro d
  induction d with
  | zero => intro j s h; exact h
  | succ d ih =>
    intro j s h
    rw [wrS]
    split
    · exact h
    · exact ih _ _ (By_upd h _ (hs j))
/-- the class's medium as a triple -/
def tri (x : St_Medium) : (Nat → Int32) × Int32 × Int32 := (x.2.1.2, x.2.2.1, x.2.2.2)
def mk3 (n : Nat) (t : (Nat → Int32) × Int32 × Int32) : St_Medium := (nI n, (32 * n, t.1), t.2.1, t.2.2)
theorem mk3_ok {n : Nat} (h4 : 4 ≤ n) (h5 : n ≤ 512) (t : (Nat → Int32) × Int32 × Int32) : MedOk n (mk3 n t) := ⟨rfl, rfl, h4, h5⟩
theorem mk3_of {n : Nat} {x : St_Medium} (h : MedOk n x) : x = mk3 n (tri x) := by
  obtain ⟨a, ⟨b, c⟩, d, e⟩ := x
  obtain ⟨h1, h2, h3, h4⟩ := h
  unfold mk3 tri
  simp only at h1 h2 ⊢
  rw [h1, h2]
theorem M_wb {n : Nat} (h4 : 4 ≤ n) (h5 : n ≤ 512) {t : (Nat → Int32) × Int32 × Int32} (hp : Pw t.2.1) {row i : Nat} (hr : row < n) (hi : i < 32) {v c : Int32} (hv : vp_nar .byte (v.toInt8.toInt32) = c) : m_Medium_writeByte (mk3 n t) (nI row) (nI i) v = some (if t.2.1 = 0 then (0, mk3 n (t.1, (-1), t.2.2)) else (1, mk3 n (upd t.1 (32 * row + i) c, pwn t.2.1, t.2.2 + 1))) := by
  obtain ⟨f, p, w⟩ := t
  unfold m_Medium_writeByte
  by_cases h0 : p = 0
  · rw [if_pos (show (mk3 n (f, p, w)).2.2.1 = 0 from h0), if_pos (show (f, p, w).2.1 = 0 from h0)]; rfl
  · rw [if_neg (show ¬ (mk3 n (f, p, w)).2.2.1 = 0 from h0), if_neg (show ¬ (f, p, w).2.1 = 0 from h0)]
    have hq := (Pw_n hp h0).2
    have hin : ¬ (nI (row * 32 + i) < 0 ∨ 32 * n ≤ (nI (row * 32 + i)).toNatClampNeg) := nI_in (by omega) (by omega)
    have hc : (nI (row * 32 + i)).toNatClampNeg = 32 * row + i := by rw [nI_clamp (by omega)]; omega
    by_cases hle : p ≤ 0
    · rw [if_pos hle] at hq
      refine Eq.trans (if_pos (show (mk3 n (f, p, w)).2.2.1 ≤ 0 from hle)) ?_
      refine Eq.trans (bs (c_has (mk3_ok h4 h5 _) hr hi)) ?_
      refine Eq.trans (if_neg e10) ?_
      rw [n32, pk_mul, nI_add]
      refine Eq.trans (if_neg hin) ?_
      rw [hc, hv]
      show some ((1 : Int32), (nI n, (32 * n, upd f (32 * row + i) c), p, w + 1)) = some (1, (nI n, (32 * n, upd f (32 * row + i) c), pwn p, w + 1))
      rw [show pwn p = p from hq.symm]
    · rw [if_neg hle] at hq
      refine Eq.trans (if_neg (show ¬ (mk3 n (f, p, w)).2.2.1 ≤ 0 from hle)) ?_
      refine Eq.trans (bs (show m_Medium_has (nI n, (32 * n, f), p - 1, w) (nI row) (nI i) = some 1 from c_has (n := n) ⟨rfl, rfl, h4, h5⟩ hr hi)) ?_
      refine Eq.trans (if_neg e10) ?_
      rw [n32, pk_mul, nI_add]
      refine Eq.trans (if_neg hin) ?_
      rw [hc, hv]
      show some ((1 : Int32), (nI n, (32 * n, upd f (32 * row + i) c), p - 1, w + 1)) = some (1, (nI n, (32 * n, upd f (32 * row + i) c), pwn p, w + 1))
      rw [show pwn p = p - 1 from hq.symm]
theorem M_write_L {n N s : Nat} {y : St_Bytes} (hy : BB N y s) (hN : N < 2 ^ 31) (hb : ∀ j, By (y.1.2 j)) (h4 : 4 ≤ n) (h5 : n ≤ 512) {row fr : Nat} (hr : row < n) (hfr : fr + 32 ≤ N) : ∀ (d fuel : Nat) (t : (Nat → Int32) × Int32 × Int32) (j : Nat), Pw t.2.1 → j + d = 32 → d < fuel → m_Medium_write_L3 y fuel (mk3 n t) (nI row) (nI fr) (nI j) = some ((wrS (fun k => y.1.2 (fr + k)) (32 * row) d j t).1, mk3 n (wrS (fun k => y.1.2 (fr + k)) (32 * row) d j t).2) := by
  intro d
  induction d with
  | zero =>
    intro fuel t j hp hj hf
    obtain ⟨fu, rfl, -⟩ := fu1 hf
    rw [m_Medium_write_L3, n32, if_pos (nI_le (by omega) (by omega))]; rfl
  | succ d ih =>
    intro fuel t j hp hj hf
    obtain ⟨fu, rfl, hf'⟩ := fu1 hf
    rw [m_Medium_write_L3, wrS]
    refine Eq.trans (if_neg (show ¬ (32 : Int32) ≤ nI j by rw [n32]; exact nI_ge (by omega) (by omega))) ?_
    rw [nI_add]
    refine Eq.trans (bs (B_at hy hN (by omega))) ?_
    refine Eq.trans (bs (M_wb h4 h5 hp hr (by omega) (By.back (hb (fr + j))))) ?_
    by_cases h0 : t.2.1 = 0
    · simp only [if_pos h0]
      exact if_pos trivial
    · simp only [if_neg h0]
      refine Eq.trans (if_neg e10) ?_
      rw [nI_1]
      exact ih fu _ (j + 1) (Pw_n hp h0).1 (by omega) (by omega)
theorem M_write {n N s : Nat} {y : St_Bytes} (hy : BB N y s) (hN : N < 2 ^ 31) (hb : ∀ j, By (y.1.2 j)) (h4 : 4 ≤ n) (h5 : n ≤ 512) {row fr : Nat} (hr : row < n) (hfr : fr + 32 ≤ N) {t : (Nat → Int32) × Int32 × Int32} (hp : Pw t.2.1) : m_Medium_write (mk3 n t) y (nI row) (nI fr) = some ((wrS (fun k => y.1.2 (fr + k)) (32 * row) 32 0 t).1, mk3 n (wrS (fun k => y.1.2 (fr + k)) (32 * row) 32 0 t).2) := by
  unfold m_Medium_write
  rw [n0]
  exact M_write_L hy hN hb h4 h5 hr hfr 32 FU t 0 hp (by omega) (FU_lt (by omega))
theorem M_erase_L {n : Nat} (h4 : 4 ≤ n) (h5 : n ≤ 512) {row : Nat} (hr : row < n) : ∀ (d fuel : Nat) (t : (Nat → Int32) × Int32 × Int32) (j : Nat), Pw t.2.1 → j + d = 32 → d < fuel → m_Medium_erase_L2 fuel (mk3 n t) (nI row) (nI j) = some ((wrS (fun _ => 0) (32 * row) d j t).1, mk3 n (wrS (fun _ => 0) (32 * row) d j t).2) := by
  intro d
  induction d with
  | zero =>
    intro fuel t j hp hj hf
    obtain ⟨fu, rfl, -⟩ := fu1 hf
    rw [m_Medium_erase_L2, n32, if_pos (nI_le (by omega) (by omega))]; rfl
  | succ d ih =>
    intro fuel t j hp hj hf
    obtain ⟨fu, rfl, hf'⟩ := fu1 hf
    rw [m_Medium_erase_L2, wrS]
    refine Eq.trans (if_neg (show ¬ (32 : Int32) ≤ nI j by rw [n32]; exact nI_ge (by omega) (by omega))) ?_
    refine Eq.trans (bs (M_wb h4 h5 hp hr (by omega) (show vp_nar .byte ((0 : Int32).toInt8.toInt32) = 0 by decide +kernel))) ?_
    by_cases h0 : t.2.1 = 0
    · simp only [if_pos h0]
      exact if_pos trivial
    · simp only [if_neg h0]
      refine Eq.trans (if_neg e10) ?_
      rw [nI_1]
      exact ih fu _ (j + 1) (Pw_n hp h0).1 (by omega) (by omega)
theorem M_erase {n : Nat} (h4 : 4 ≤ n) (h5 : n ≤ 512) {row : Nat} (hr : row < n) {t : (Nat → Int32) × Int32 × Int32} (hp : Pw t.2.1) : m_Medium_erase (mk3 n t) (nI row) = some ((wrS (fun _ => 0) (32 * row) 32 0 t).1, mk3 n (wrS (fun _ => 0) (32 * row) 32 0 t).2) := by
  unfold m_Medium_erase
  rw [n0]
  exact M_erase_L h4 h5 hr 32 FU t 0 hp (by omega) (FU_lt (by omega))
-- the reference's row: the same triple
def rtri (g : St_Ref) : (Nat → Int32) × Int32 × Int32 := ((g_Rmedium g).2, g_RcutIn g, g_Rwritten g)
def rmk (g : St_Ref) (t : (Nat → Int32) × Int32 × Int32) : St_Ref := s_Rwritten (s_Rmedium (s_RcutIn g t.2.1) (16384, t.1)) t.2.2
/-- behind a write: bytes, power, count; closed if power went -/
def rout (g : St_Ref) (q : Int32 × (Nat → Int32) × Int32 × Int32) : St_Ref := if q.1 = 0 then s_Ropen (rmk g q.2) 0 else rmk g q.2
theorem rmk_of {g : St_Ref} (h : (g_Rmedium g).1 = 16384) : g = rmk g (rtri g) := by
  unfold rmk rtri
  simp only
  rw [← h]
  rfl
theorem rmk_s (g : St_Ref) (t u : (Nat → Int32) × Int32 × Int32) : rmk (rmk g t) u = rmk g u := rfl
theorem R_write_L {row fr : Nat} (hr : row < 512) (g : St_Ref) (hd : (g_Rdraft g).1 = 256) (hfr : fr + 32 ≤ 256) (hb : ∀ j, By ((g_Rdraft g).2 j)) : ∀ (d fuel : Nat) (t : (Nat → Int32) × Int32 × Int32) (j : Nat), Pw t.2.1 → j + d = 32 → d < fuel → m_RRef_write_L2 fuel (rmk g t) (nI row) (nI fr) (nI j) = some ((wrS (fun k => (g_Rdraft g).2 (fr + k)) (32 * row) d j t).1, rout g (wrS (fun k => (g_Rdraft g).2 (fr + k)) (32 * row) d j t)) := by
  intro d
  induction d with
  | zero =>
    intro fuel t j hp hj hf
    obtain ⟨fu, rfl, -⟩ := fu1 hf
    rw [m_RRef_write_L2, n32, if_pos (nI_le (by omega) (by omega))]; rfl
  | succ d ih =>
    intro fuel t j hp hj hf
    obtain ⟨fu, rfl, hf'⟩ := fu1 hf
    obtain ⟨f, p, w⟩ := t
    have g1 : g_RcutIn (rmk g (f, p, w)) = p := by unfold rmk; simp only [qR_cutIn]
    have g2 : g_Rdraft (rmk g (f, p, w)) = g_Rdraft g := by unfold rmk; simp only [qR_draft]
    have g3 : g_Rmedium (rmk g (f, p, w)) = (16384, f) := by unfold rmk; simp only [qR_medium]
    have g4 : g_Rwritten (rmk g (f, p, w)) = w := by unfold rmk; simp only [qR_written]
    have i1 : ¬ (nI (fr + j) < 0 ∨ (g_Rdraft g).1 ≤ (nI (fr + j)).toNatClampNeg) := by rw [hd]; exact nI_in (by omega) (by omega)
    have i2 : ¬ (nI (32 * row + j) < 0 ∨ 16384 ≤ (nI (32 * row + j)).toNatClampNeg) := nI_in (by omega) (by omega)
    rw [m_RRef_write_L2, g1, g2, g3, g4]
    refine Eq.trans (if_neg (show ¬ (32 : Int32) ≤ nI j by rw [n32]; exact nI_ge (by omega) (by omega))) ?_
    by_cases h0 : p = 0
    · rw [show wrS (fun k => (g_Rdraft g).2 (fr + k)) (32 * row) (d + 1) j (f, p, w) = (0, f, (-1), w) from if_pos h0]
      refine Eq.trans (if_pos h0) ?_
      rfl
    · rw [show wrS (fun k => (g_Rdraft g).2 (fr + k)) (32 * row) (d + 1) j (f, p, w) = wrS (fun k => (g_Rdraft g).2 (fr + k)) (32 * row) d (j + 1) (upd f (32 * row + j) ((g_Rdraft g).2 (fr + j)), pwn p, w + 1) from if_neg h0]
      refine Eq.trans (if_neg h0) ?_
      have hn := (Pw_n hp h0).1
      rw [nI_add, n32, pk_mul, nI_add]
      by_cases hm : p = (-1)
      · refine Eq.trans (if_pos hm) ?_
        refine Eq.trans (if_neg i1) ?_
        refine Eq.trans (if_neg i2) ?_
        rw [nI_1, nI_clamp (show fr + j < 2 ^ 31 by omega), nI_clamp (show 32 * row + j < 2 ^ 31 by omega), By.nar (hb (fr + j))]
        have e : pwn p = (-1) := by unfold pwn; rw [if_pos hm]
        have := ih fu (upd f (32 * row + j) ((g_Rdraft g).2 (fr + j)), pwn p, w + 1) (j + 1) hn (by omega) (by omega)
        rw [e] at this
        rw [e]
        exact this
      · refine Eq.trans (if_neg hm) ?_
        refine Eq.trans (if_neg i1) ?_
        refine Eq.trans (if_neg i2) ?_
        rw [nI_1, nI_clamp (show fr + j < 2 ^ 31 by omega), nI_clamp (show 32 * row + j < 2 ^ 31 by omega), By.nar (hb (fr + j))]
        have e : pwn p = p - 1 := by unfold pwn; rw [if_neg hm]
        have := ih fu (upd f (32 * row + j) ((g_Rdraft g).2 (fr + j)), pwn p, w + 1) (j + 1) hn (by omega) (by omega)
        rw [e] at this
        rw [e]
        exact this
theorem R_write {g : St_Ref} {row fr : Nat} (hr : row < 512) (hm : (g_Rmedium g).1 = 16384) (hd : (g_Rdraft g).1 = 256) (hfr : fr + 32 ≤ 256) (hb : ∀ j, By ((g_Rdraft g).2 j)) (hp : Pw (g_RcutIn g)) : m_RRef_write g (nI row) (nI fr) = some ((wrS (fun k => (g_Rdraft g).2 (fr + k)) (32 * row) 32 0 (rtri g)).1, rout g (wrS (fun k => (g_Rdraft g).2 (fr + k)) (32 * row) 32 0 (rtri g))) := by
  have h := R_write_L (fr := fr) hr g hd hfr hb 32 FU (rtri g) 0 hp (by omega) (FU_lt (by omega))
  rw [← rmk_of hm] at h
  unfold m_RRef_write
  rw [n0]
  exact h
