-- THE REFERENCE'S DRAFT, cleared; rows taken back
def DR (g : St_Ref) : Prop := (g_Rdraft g).1 = 256 ∧ ∀ j, 256 ≤ j → (g_Rdraft g).2 j = 0
theorem n256 : (256 : Int32) = nI 256 := by decide +kernel
theorem R_clear_L (g : St_Ref) : ∀ (d fuel : Nat) (x : AI) (j : Nat), x.1 = 256 → (∀ t, 256 ≤ t ∨ t < j → x.2 t = 0) → j + d = 256 → d < fuel → m_RRef_clearDraft_L2 fuel (s_Rdraft g x) (nI j) = some (s_Rdraft g (256, fun _ => 0)) := by
  intro d
  induction d with
  | zero =>
    intro fuel x j hx hz hj hf
    obtain ⟨fu, rfl, -⟩ := fu1 hf
    rw [m_RRef_clearDraft_L2, n256, if_pos (nI_le (by omega) (by omega))]
    have : x = (256, fun _ => 0) := Prod.ext hx (funext fun t => hz t (by omega))
    rw [this]
  | succ d ih =>
    intro fuel x j hx hz hj hf
    obtain ⟨fu, rfl, hf'⟩ := fu1 hf
    rw [m_RRef_clearDraft_L2, n256]
    refine Eq.trans (if_neg (nI_ge (by omega) (by omega))) ?_
    have i1 : ¬ (nI j < 0 ∨ (g_Rdraft (s_Rdraft g x)).1 ≤ (nI j).toNatClampNeg) := by
      show ¬ (nI j < 0 ∨ x.1 ≤ (nI j).toNatClampNeg)
      rw [hx]; exact nI_in (by omega) (by omega)
    refine Eq.trans (if_neg i1) ?_
    rw [nI_1, nI_clamp (by omega)]
    refine ih fu (x.1, upd x.2 j (vp_nar .byte 0)) (j + 1) hx (fun t ht => ?_) (by omega) (by omega)
    show (if t = j then vp_nar .byte 0 else x.2 t) = 0
    split
    · decide +kernel
    · exact hz t (by omega)
theorem R_clear {g : St_Ref} (h : DR g) : m_RRef_clearDraft g = some (s_Rdraft g (256, fun _ => 0)) := by
  unfold m_RRef_clearDraft
  rw [n0]
  exact R_clear_L g 256 FU (g_Rdraft g) 0 h.1 (fun t ht => h.2 t (by omega)) (by omega) (FU_lt (by omega))
theorem R_tB_L {g : St_Ref} (hd : g_Rdraft g = (256, fun _ => 0)) {row count : Nat} (hr : row + count ≤ 512) : ∀ (d fuel : Nat) (t : T3) (k : Nat), Pw t.2.1 → k + d = count → d < fuel → m_RRef_takeBack_L9 fuel (rmk g t) (nI row) (nI count) 1 (nI k) = some ((wrZ row d k t).1, rout g (wrZ row d k t)) := by
  intro d
  induction d with
  | zero =>
    intro fuel t k hp hj hf
    obtain ⟨fu, rfl, -⟩ := fu1 hf
    rw [m_RRef_takeBack_L9]
    refine Eq.trans (if_pos (nI_le (by omega) (by omega))) ?_
    exact if_neg e11
  | succ d ih =>
    intro fuel t k hp hj hf
    obtain ⟨fu, rfl, hf'⟩ := fu1 hf
    have hw : m_RRef_write (rmk g t) (nI (row + k)) (nI 0) = _ := R_write (g := rmk g t) (row := row + k) (fr := 0) (by omega) rfl (by show (g_Rdraft g).1 = 256; rw [hd]) (by omega) (by intro j; show By ((g_Rdraft g).2 j); rw [hd]; exact By0) hp
    have hs : (fun j => (g_Rdraft (rmk g t)).2 (0 + j)) = fun _ => (0 : Int32) := by
      funext j
      show (g_Rdraft g).2 (0 + j) = 0
      rw [hd]
    rw [hs] at hw
    have ho := wrS_ok (fun _ => 0) (32 * (row + k)) 32 0 t
    have hpw := wrS_pw (fun _ => 0) (32 * (row + k)) 32 0 t hp
    rw [m_RRef_takeBack_L9, wrZ]
    refine Eq.trans (if_neg (nI_ge (by omega) (by omega))) ?_
    refine Eq.trans (if_neg e10) ?_
    rw [nI_add]
    refine Eq.trans (bs hw) ?_
    rw [nI_1]
    obtain ⟨q, hq⟩ : ∃ q, q = wrS (fun _ => 0) (32 * (row + k)) 32 0 t := ⟨_, rfl⟩
    show m_RRef_takeBack_L9 fu (rout g (wrS (fun _ => 0) (32 * (row + k)) 32 0 t)) (nI row) (nI count) (wrS (fun _ => 0) (32 * (row + k)) 32 0 t).1 (nI (k + 1)) = _
    rw [← hq] at ho hpw ⊢
    rcases ho with h0 | h1
    · rw [if_pos h0]
      obtain ⟨fu2, rfl, -⟩ := fu1 (k := 0) (fuel := fu) (by omega)
      rw [m_RRef_takeBack_L9]
      by_cases hc2 : nI count ≤ nI (k + 1)
      · refine Eq.trans (if_pos hc2) ?_
        exact if_neg (ok01 (Or.inl h0))
      · refine Eq.trans (if_neg hc2) ?_
        refine Eq.trans (if_pos h0) ?_
        exact if_neg (ok01 (Or.inl h0))
    · rw [if_neg (by rw [h1]; decide), rout1 h1, h1]
      exact ih fu q.2 (k + 1) hpw (by omega) (by omega)
theorem R_takeBack {g : St_Ref} (h : DR g) (hm : (g_Rmedium g).1 = 16384) {row count : Nat} (hr : row + count ≤ 512) (hp : Pw (g_RcutIn g)) : m_RRef_takeBack g (nI row) (nI count) = some ((wrZ row count 0 (rtri g)).1, rout (s_Rdraft g (256, fun _ => 0)) (wrZ row count 0 (rtri g))) := by
  have k := R_tB_L (g := s_Rdraft g (256, fun _ => 0)) rfl hr count FU (rtri g) 0 hp (by omega) (FU_lt (by omega))
  have e : rmk (s_Rdraft g (256, fun _ => 0)) (rtri g) = s_Rdraft g (256, fun _ => 0) := (rmk_of (g := s_Rdraft g (256, fun _ => 0)) hm).symm
  rw [e] at k
  unfold m_RRef_takeBack
  refine Eq.trans (bs (R_clear h)) ?_
  rw [n0]
  exact k
-- WHAT IS DRAWN
def BBe (N : Nat) (x : St_Bytes) : Prop := ∃ s, BB N x s
theorem Be_at {N : Nat} {x : St_Bytes} (h : BBe N x) (hN : N < 2 ^ 31) {i : Nat} (hi : i < N) : m_Bytes_at x (nI i) = some (x.1.2 i &&& 255) := by
  obtain ⟨s, h⟩ := h
  exact B_at h hN hi
theorem Be_put {N i K : Nat} {x : St_Bytes} (h : BBe N x) (hN : N < 2 ^ 31) (hK : 1 ≤ K ∧ K ≤ 8) (hi : i + K ≤ N) (v : Int64) : ∃ x', m_Bytes_put x (nI i) v (nI K) = some x' ∧ x'.1.2 = pF x.1.2 i K v ∧ BBe N x' := by
  obtain ⟨s, h⟩ := h
  obtain ⟨x', h1, h2, h3⟩ := B_put h hN hK hi v
  exact ⟨x', h1, h2, _, h3⟩
theorem Be_clear {N : Nat} {x : St_Bytes} (h : BBe N x) (hN : N < 1048576) : m_Bytes_clear x = some ((N, fun _ => 0), 0) ∧ BBe N ((N, fun _ => 0), 0) := by
  obtain ⟨s, h⟩ := h
  exact ⟨B_clear h hN, 0, rfl, rfl, by omega, fun _ _ => rfl⟩
theorem Be_dig {N : Nat} {x : St_Bytes} (h : BBe N x) (hN : N < 1048576) {a b : Nat} (hab : a ≤ b) (hb : b ≤ N) : m_Bytes_digest x (nI a) (nI b) = some (digF x.1.2 a (b - a)) := by
  obtain ⟨s, h⟩ := h
  exact B_dig h hN hab hb
theorem ush0 (v : Int64) : jlushr v (nI 0) = v := by
  have h := (jr8 v 0 (by omega)).2
  rw [Nat.mul_zero] at h
  apply Int64.toBitVec_inj.mp
  rw [h]
  simp
theorem pF1 (f : Nat → Int32) (i : Nat) (v : Int64) : pF f i 1 v = upd f i (bv v) := by
  funext t
  unfold pF upd
  by_cases h : t = i
  · subst h
    rw [if_pos (by omega), if_pos rfl, show 8 * (1 - 1 - (t - t)) = 0 by omega, ush0]
  · rw [if_neg (by omega), if_neg h]
theorem bv_i (x : Int32) : bv x.toInt64 = vp_nar .byte (x.toInt8.toInt32) := by
  unfold bv
  rw [Int32.toInt32_toInt64]
theorem bv_255 {c : Int32} (h : By c) : bv ((c &&& 255).toInt64) = c := by
  rw [bv_i]; exact h.back
def bod (len : Nat) : Nat := (len + 30) / 31
def idx (j : Nat) : Nat := 31 * (j / 32 - 1) + (j % 32 - 1)
/-- i bytes of a PART in their BODIES, the rows 1 .. b - 1 begun -/
def bodyF (tp : Nat → Int32) (fr i b : Nat) : Nat → Int32 := fun j => if j % 32 = 0 then (if 1 ≤ j / 32 ∧ j / 32 < b then 5 else 0) else if 32 ≤ j ∧ idx j < i then tp (fr + idx j) else 0
theorem bodyF_b (tp : Nat → Int32) (fr i b : Nat) (hb : 1 ≤ b) : upd (bodyF tp fr i b) (32 * b) 5 = bodyF tp fr i (b + 1) := by
  funext j
  unfold upd bodyF
  by_cases h : j = 32 * b
  · subst h
    rw [if_pos rfl, if_pos (by omega), if_pos (by omega)]
  · rw [if_neg h]
    by_cases h2 : j % 32 = 0
    · rw [if_pos h2, if_pos h2]
      by_cases h3 : 1 ≤ j / 32 ∧ j / 32 < b
      · rw [if_pos h3, if_pos (by omega)]
      · rw [if_neg h3, if_neg (by omega)]
    · rw [if_neg h2, if_neg h2]
theorem bodyF_i (tp : Nat → Int32) (fr i b : Nat) : upd (bodyF tp fr i b) (32 * (1 + i / 31) + 1 + i % 31) (tp (fr + i)) = bodyF tp fr (i + 1) b := by
  funext j
  unfold upd bodyF
  by_cases h : j = 32 * (1 + i / 31) + 1 + i % 31
  · have hi : idx j = i := by unfold idx; omega
    rw [if_pos h, if_neg (by omega), if_pos (by omega), hi]
  · rw [if_neg h]
    by_cases h2 : j % 32 = 0
    · rw [if_pos h2, if_pos h2]
    · rw [if_neg h2, if_neg h2]
      by_cases h3 : 32 ≤ j ∧ idx j < i
      · rw [if_pos h3, if_pos (by omega)]
      · have h4 : ¬ (32 ≤ j ∧ idx j < i + 1) := by
          unfold idx at h3 ⊢
          omega
        rw [if_neg h3, if_neg h4]
theorem bodyF0 (tp : Nat → Int32) (fr : Nat) : (fun _ => (0 : Int32)) = bodyF tp fr 0 1 := by
  funext j
  unfold bodyF
  by_cases h2 : j % 32 = 0
  · rw [if_pos h2, if_neg (by omega)]
  · rw [if_neg h2, if_neg (by omega)]
/-- a PART's rows, as they are written -/
def partImg (body : Nat → Int32) (len : Nat) (num grp : Int32) (pos : Int64) : Nat → Int32 :=
  pF (pF (pF (pF (pF (pF (pF body 0 1 1) 1 1 grp.toInt64) 2 2 (nI len).toInt64) 4 4 num.toInt64) 8 8 pos) 16 8 (digF (pF (pF (pF (pF (pF body 0 1 1) 1 1 grp.toInt64) 2 2 (nI len).toInt64) 4 4 num.toInt64) 8 8 pos) 32 (32 * bod len))) 24 8 (digF (pF (pF (pF (pF (pF (pF body 0 1 1) 1 1 grp.toInt64) 2 2 (nI len).toInt64) 4 4 num.toInt64) 8 8 pos) 16 8 (digF (pF (pF (pF (pF (pF body 0 1 1) 1 1 grp.toInt64) 2 2 (nI len).toInt64) 4 4 num.toInt64) 8 8 pos) 32 (32 * bod len))) 0 24)
theorem C_drawSum {g : St_Log} {im : St_Bytes} (him : g_image g = im) (h : BBe 224 im) : ∃ im', m_Log_drawSum g = some (s_image g im') ∧ im'.1.2 = pF im.1.2 24 8 (digF im.1.2 0 24) ∧ BBe 224 im' := by
  obtain ⟨x', h1, h2, h3⟩ := Be_put h (by omega) (i := 24) (K := 8) (by omega) (by omega) (digF im.1.2 0 24)
  refine ⟨x', ?_, h2, h3⟩
  unfold m_Log_drawSum
  rw [him]
  refine Eq.trans (bs (show m_Bytes_digest im 0 24 = some (digF im.1.2 0 24) from Be_dig h (by omega) (a := 0) (b := 24) (by omega) (by omega))) ?_
  refine Eq.trans (bs (show m_Bytes_put im 24 (digF im.1.2 0 24) 8 = some x' from h1)) ?_
  rfl
theorem C_bodiesOf {len : Nat} (h : len < 2 ^ 30) : m_Log_bodiesOf (nI len) = some (nI (bod len)) := by
  unfold m_Log_bodiesOf bod
  rw [show (31 : Int32) = nI 31 by decide +kernel, nI_add, n1, pk_sub (by omega), pk_div (by omega) (by omega) (by omega), show len + 31 - 1 = len + 30 by omega]
theorem C_rowsOfPart {len : Nat} (h : len < 2 ^ 30) : m_Log_rowsOfPart (nI len) = some (nI (1 + bod len)) := by
  unfold m_Log_rowsOfPart
  rw [bs (C_bodiesOf h), n1, nI_add]
