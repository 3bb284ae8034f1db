-- SEVERAL ROWS
abbrev T3 : Type := (Nat → Int32) × Int32 × Int32
/-- rows k .. behind the first, then the first one -/
def wrM (src : Nat → Int32) (row : Nat) : Nat → Nat → T3 → Int32 × T3
  | 0, _, s => wrS (fun j => src (0 + j)) (32 * row) 32 0 s
  | d + 1, k, s => if (wrS (fun j => src (32 * k + j)) (32 * (row + k)) 32 0 s).1 = 0 then wrS (fun j => src (32 * k + j)) (32 * (row + k)) 32 0 s else wrM src row d (k + 1) (wrS (fun j => src (32 * k + j)) (32 * (row + k)) 32 0 s).2
/-- rows that become 0, from the first on -/
def wrZ (row : Nat) : Nat → Nat → T3 → Int32 × T3
  | 0, _, s => (1, s)
  | d + 1, k, s => if (wrS (fun _ => 0) (32 * (row + k)) 32 0 s).1 = 0 then wrS (fun _ => 0) (32 * (row + k)) 32 0 s else wrZ row d (k + 1) (wrS (fun _ => 0) (32 * (row + k)) 32 0 s).2
theorem wrM_ok (src : Nat → Int32) (row : Nat) : ∀ (d k : Nat) (s : T3), (wrM src row d k s).1 = 0 ∨ (wrM src row d k s).1 = 1 := by
  intro d
  induction d with
  | zero => intro k s; exact wrS_ok _ _ _ _ _
  | succ d ih =>
    intro k s
    rw [wrM]
    split
    · exact wrS_ok _ _ _ _ _
    · exact ih _ _
theorem wrZ_ok (row : Nat) : ∀ (d k : Nat) (s : T3), (wrZ row d k s).1 = 0 ∨ (wrZ row d k s).1 = 1 := by
  intro d
  induction d with
  | zero => intro k s; exact Or.inr rfl
  | succ d ih =>
    intro k s
    rw [wrZ]
    split
    · exact wrS_ok _ _ _ _ _
    · exact ih _ _
theorem wrM_pw (src : Nat → Int32) (row : Nat) : ∀ (d k : Nat) (s : T3), Pw s.2.1 → Pw (wrM src row d k s).2.2.1 := by
  intro d
  induction d with
  | zero => intro k s h; exact wrS_pw _ _ _ _ _ h
  | succ d ih =>
    intro k s h
    rw [wrM]
    split
    · exact wrS_pw _ _ _ _ _ h
    · exact ih _ _ (wrS_pw _ _ _ _ _ h)
theorem wrZ_pw (row : Nat) : ∀ (d k : Nat) (s : T3), Pw s.2.1 → Pw (wrZ row d k s).2.2.1 := by
  intro d
  induction d with
  | zero => intro k s h; exact h
  | succ d ih =>
    intro k s h
    rw [wrZ]
    split
    · exact wrS_pw _ _ _ _ _ h
    · exact ih _ _ (wrS_pw _ _ _ _ _ h)
theorem wrM_by (src : Nat → Int32) (hs : ∀ j, By (src j)) (row : Nat) : ∀ (d k : Nat) (s : T3), (∀ j, By (s.1 j)) → ∀ j, By ((wrM src row d k s).2.1 j) := by
  intro d
  induction d with
  | zero => intro k s h; exact wrS_by _ (fun j => hs _) _ _ _ _ h
  | succ d ih =>
    intro k s h
    rw [wrM]
    split
    · exact wrS_by _ (fun j => hs _) _ _ _ _ h
    · exact ih _ _ (wrS_by _ (fun j => hs _) _ _ _ _ h)
theorem wrZ_by (row : Nat) : ∀ (d k : Nat) (s : T3), (∀ j, By (s.1 j)) → ∀ j, By ((wrZ row d k s).2.1 j) := by
  intro d
  induction d with
  | zero => intro k s h; exact h
  | succ d ih =>
    intro k s h
    rw [wrZ]
    split
    · exact wrS_by _ (fun j => By0) _ _ _ _ h
    · exact ih _ _ (wrS_by _ (fun j => By0) _ _ _ _ h)
/-- the class with this medium, open or not -/
def wi (n : Nat) (g : St_Log) (q : Int32 × T3) : St_Log := s_isOpen (s_medium g (mk3 n q.2)) q.1
theorem wi_wi (n : Nat) (g : St_Log) (q u : Int32 × T3) : s_isOpen (s_medium (wi n g q) (mk3 n u.2)) u.1 = wi n g u := rfl
theorem wi_medium (n : Nat) (g : St_Log) (q : Int32 × T3) : g_medium (wi n g q) = mk3 n q.2 := rfl
theorem wi_isOpen (n : Nat) (g : St_Log) (q : Int32 × T3) : g_isOpen (wi n g q) = q.1 := rfl
theorem wi_room (n : Nat) (g : St_Log) (q : Int32 × T3) : g_room (wi n g q) = g_room g := rfl
theorem wi_image (n : Nat) (g : St_Log) (q : Int32 × T3) : g_image (wi n g q) = g_image g := rfl
theorem e01 : ¬ ¬ ((0 : Int32) = 0 ∨ (0 : Int32) = 1) := by decide
theorem ok01 {v : Int32} (h : v = 0 ∨ v = 1) : ¬ ¬ (v = 0 ∨ v = 1) := fun k => k h
theorem C_wI_L {n s : Nat} {g : St_Log} {im : St_Bytes} (him : g_image g = im) (hy : BB 224 im s) (hb : ∀ j, By (im.1.2 j)) (h4 : 4 ≤ n) (h5 : n ≤ 512) {row count : Nat} (hc : 1 ≤ count ∧ count ≤ 7) (hr : row + count ≤ n) {rm : St_Room} (hT : m_Room_take (g_room g) (nI row) (nI count) = some rm) : ∀ (d fuel : Nat) (t : T3) (k : Nat), Pw t.2.1 → 1 ≤ k → k + d = count → d < fuel → m_Log_writeImage_L2 fuel (wi n g (1, t)) (nI row) (nI count) (nI k) = some ((wrM im.1.2 row d k t).1, s_room (wi n g (wrM im.1.2 row d k t)) rm) := by
  intro d
  induction d with
  | zero =>
    intro fuel t k hp hk hj hf
    obtain ⟨fu, rfl, -⟩ := fu1 hf
    have hw := M_write hy (by omega) hb h4 h5 (row := row) (fr := 0) (by omega) (by omega) hp
    have ho := wrS_ok (fun j => im.1.2 (0 + j)) (32 * row) 32 0 t
    rw [m_Log_writeImage_L2]
    refine Eq.trans (if_pos (nI_le (by omega) (by omega))) ?_
    refine Eq.trans (if_neg e10) ?_
    rw [wi_medium, wi_image, him]
    refine Eq.trans (bs hw) ?_
    refine Eq.trans (if_neg (ok01 ho)) ?_
    rw [wi_room]
    refine Eq.trans (bs hT) ?_
    exact if_neg (ok01 ho)
  | succ d ih =>
    intro fuel t k hp hk hj hf
    obtain ⟨fu, rfl, hf'⟩ := fu1 hf
    have hw := M_write hy (by omega) hb h4 h5 (row := row + k) (fr := 32 * k) (by omega) (by omega) hp
    have ho := wrS_ok (fun j => im.1.2 (32 * k + j)) (32 * (row + k)) 32 0 t
    have hpw := wrS_pw (fun j => im.1.2 (32 * k + j)) (32 * (row + k)) 32 0 t hp
    rw [m_Log_writeImage_L2, wrM]
    refine Eq.trans (if_neg (nI_ge (by omega) (by omega))) ?_
    refine Eq.trans (if_neg e10) ?_
    rw [wi_medium, wi_image, him, nI_add, n32, pk_mul, Nat.mul_comm k 32]
    refine Eq.trans (bs hw) ?_
    refine Eq.trans (if_neg (ok01 ho)) ?_
    rw [nI_1]
    obtain ⟨q, hq⟩ : ∃ q, q = wrS (fun j => im.1.2 (32 * k + j)) (32 * (row + k)) 32 0 t := ⟨_, rfl⟩
    rw [← hq] at ho hpw ⊢
    show m_Log_writeImage_L2 fu (wi n g q) (nI row) (nI count) (nI (k + 1)) = _
    rcases ho with h0 | h1
    · rw [if_pos h0]
      obtain ⟨fu2, rfl, -⟩ := fu1 (k := 0) (fuel := fu) (by omega)
      have h6 : g_isOpen (wi n g q) = 0 := h0
      have fin : ((m_Room_take (g_room (wi n g q)) (nI row) (nI count)).bind fun q3 => if ¬ ((g_isOpen (wi n g q)) = 0 ∨ (g_isOpen (wi n g q)) = 1) then none else some ((g_isOpen (wi n g q)), (s_room (wi n g q) q3))) = some (q.1, s_room (wi n g q) rm) := by
        rw [wi_room]
        refine Eq.trans (bs hT) ?_
        exact if_neg (ok01 (Or.inl h6))
      rw [m_Log_writeImage_L2]
      by_cases hc2 : nI count ≤ nI (k + 1)
      · refine Eq.trans (if_pos hc2) ?_
        refine Eq.trans (if_pos h6) ?_
        exact fin
      · refine Eq.trans (if_neg hc2) ?_
        refine Eq.trans (if_pos h6) ?_
        refine Eq.trans (if_pos h6) ?_
        exact fin
    · rw [if_neg (by rw [h1]; decide)]
      have : wi n g q = wi n g (1, q.2) := by unfold wi; rw [h1]
      rw [this]
      exact ih fu q.2 (k + 1) hpw (by omega) (by omega) (by omega)
theorem C_writeImage {n s : Nat} {g : St_Log} {t : T3} {im : St_Bytes} (hm : g_medium g = mk3 n t) (ho : g_isOpen g = 1) (him : g_image g = im) (hy : BB 224 im s) (hb : ∀ j, By (im.1.2 j)) (h4 : 4 ≤ n) (h5 : n ≤ 512) {row count : Nat} (hc : 1 ≤ count ∧ count ≤ 7) (hr : row + count ≤ n) {rm : St_Room} (hT : m_Room_take (g_room g) (nI row) (nI count) = some rm) (hp : Pw t.2.1) : m_Log_writeImage g (nI row) (nI count) = some ((wrM im.1.2 row (count - 1) 1 t).1, s_room (wi n g (wrM im.1.2 row (count - 1) 1 t)) rm) := by
  have hg : g = wi n g (1, t) := by
    unfold wi
    rw [← hm, ← ho]
    rfl
  have h := C_wI_L him hy hb h4 h5 hc hr hT (count - 1) FU t 1 hp (by omega) (by omega) (FU_lt (by omega))
  rw [← hg] at h
  unfold m_Log_writeImage
  rw [n1]
  exact h
theorem C_tB_L {n : Nat} {g : St_Log} (h4 : 4 ≤ n) (h5 : n ≤ 512) {row count : Nat} (hr : row + count ≤ n) {rm : St_Room} (hT : m_Room_free (g_room g) (nI row) (nI count) = some rm) : ∀ (d fuel : Nat) (t : T3) (k : Nat), Pw t.2.1 → k + d = count → d < fuel → m_Log_takeBack_L2 fuel (wi n g (1, t)) (nI row) (nI count) (nI k) = some ((wrZ row d k t).1, s_room (wi n g (wrZ row d k t)) rm) := by
  intro d
  induction d with
  | zero =>
    intro fuel t k hp hj hf
    obtain ⟨fu, rfl, -⟩ := fu1 hf
    rw [m_Log_takeBack_L2]
    refine Eq.trans (if_pos (nI_le (by omega) (by omega))) ?_
    rw [wi_room]
    refine Eq.trans (bs hT) ?_
    exact if_neg e11
  | succ d ih =>
    intro fuel t k hp hj hf
    obtain ⟨fu, rfl, hf'⟩ := fu1 hf
    have hw := M_erase h4 h5 (row := row + k) (by omega) hp
    have ho := wrS_ok (fun _ => 0) (32 * (row + k)) 32 0 t
    have hpw := wrS_pw (fun _ => 0) (32 * (row + k)) 32 0 t hp
    rw [m_Log_takeBack_L2, wrZ]
    refine Eq.trans (if_neg (nI_ge (by omega) (by omega))) ?_
    refine Eq.trans (if_neg e10) ?_
    rw [wi_medium, nI_add]
    refine Eq.trans (bs hw) ?_
    refine Eq.trans (if_neg (ok01 ho)) ?_
    rw [nI_1]
    obtain ⟨q, hq⟩ : ∃ q, q = wrS (fun _ => 0) (32 * (row + k)) 32 0 t := ⟨_, rfl⟩
    rw [← hq] at ho hpw ⊢
    show m_Log_takeBack_L2 fu (wi n g q) (nI row) (nI count) (nI (k + 1)) = _
    rcases ho with h0 | h1
    · rw [if_pos h0]
      obtain ⟨fu2, rfl, -⟩ := fu1 (k := 0) (fuel := fu) (by omega)
      have h6 : g_isOpen (wi n g q) = 0 := h0
      have fin : ((m_Room_free (g_room (wi n g q)) (nI row) (nI count)).bind fun q3 => if ¬ ((g_isOpen (wi n g q)) = 0 ∨ (g_isOpen (wi n g q)) = 1) then none else some ((g_isOpen (wi n g q)), (s_room (wi n g q) q3))) = some (q.1, s_room (wi n g q) rm) := by
        rw [wi_room]
        refine Eq.trans (bs hT) ?_
        exact if_neg (ok01 (Or.inl h6))
      rw [m_Log_takeBack_L2]
      by_cases hc2 : nI count ≤ nI (k + 1)
      · refine Eq.trans (if_pos hc2) ?_
        exact fin
      · refine Eq.trans (if_neg hc2) ?_
        refine Eq.trans (if_pos h6) ?_
        exact fin
    · rw [if_neg (by rw [h1]; decide)]
      have : wi n g q = wi n g (1, q.2) := by unfold wi; rw [h1]
      rw [this]
      exact ih fu q.2 (k + 1) hpw (by omega) (by omega)
theorem C_takeBack {n : Nat} {g : St_Log} {t : T3} (hm : g_medium g = mk3 n t) (ho : g_isOpen g = 1) (h4 : 4 ≤ n) (h5 : n ≤ 512) {row count : Nat} (hr : row + count ≤ n) {rm : St_Room} (hT : m_Room_free (g_room g) (nI row) (nI count) = some rm) (hp : Pw t.2.1) : m_Log_takeBack g (nI row) (nI count) = some ((wrZ row count 0 t).1, s_room (wi n g (wrZ row count 0 t)) rm) := by
  have hg : g = wi n g (1, t) := by
    unfold wi
    rw [← hm, ← ho]
    rfl
  have h := C_tB_L h4 h5 hr hT count FU t 0 hp (by omega) (FU_lt (by omega))
  rw [← hg] at h
  unfold m_Log_takeBack
  rw [n0]
  exact h
-- the reference
theorem rout_draft (g : St_Ref) (q : Int32 × T3) : g_Rdraft (rout g q) = g_Rdraft g := by
  unfold rout
  split <;> rfl
theorem rout_medium (g : St_Ref) (q : Int32 × T3) : g_Rmedium (rout g q) = (16384, q.2.1) := by
  unfold rout
  split <;> rfl
theorem rout_tri (g : St_Ref) (q : Int32 × T3) : rtri (rout g q) = q.2 := by
  unfold rout
  split <;> rfl
theorem rout_cut (g : St_Ref) (q : Int32 × T3) : g_RcutIn (rout g q) = q.2.2.1 := by
  unfold rout
  split <;> rfl
theorem rout1 {g : St_Ref} {q : Int32 × T3} (h : q.1 = 1) : rout g q = rmk g q.2 := by
  unfold rout
  rw [h, if_neg e10]
theorem rout_rmk (g : St_Ref) (t : T3) (q : Int32 × T3) : rout (rmk g t) q = rout g q := rfl
theorem R_wA_L {g : St_Ref} (hd : (g_Rdraft g).1 = 256) (hb : ∀ j, By ((g_Rdraft g).2 j)) {row count : Nat} (hc : 1 ≤ count ∧ count ≤ 7) (hr : row + count ≤ 512) : ∀ (d fuel : Nat) (t : T3) (k : Nat), Pw t.2.1 → 1 ≤ k → k + d = count → d < fuel → m_RRef_writeAll_L5 fuel (rmk g t) (nI row) (nI count) 1 (nI k) = some ((wrM (g_Rdraft g).2 row d k t).1, rout g (wrM (g_Rdraft g).2 row d k t)) := by
  intro d
  induction d with
  | zero =>
    intro fuel t k hp hk hj hf
    obtain ⟨fu, rfl, -⟩ := fu1 hf
    have hw : m_RRef_write (rmk g t) (nI row) (nI 0) = _ := R_write (g := rmk g t) (row := row) (fr := 0) (by omega) rfl hd (by omega) hb hp
    have ho := wrS_ok (fun j => (g_Rdraft g).2 (0 + j)) (32 * row) 32 0 t
    rw [m_RRef_writeAll_L5]
    refine Eq.trans (if_pos (nI_le (by omega) (by omega))) ?_
    refine Eq.trans (if_neg e10) ?_
    refine Eq.trans (bs hw) ?_
    show (if (wrS (fun j => (g_Rdraft g).2 (0 + j)) (32 * row) 32 0 t).1 = 0 then some (0, rout g (wrS (fun j => (g_Rdraft g).2 (0 + j)) (32 * row) 32 0 t)) else some (1, rout g (wrS (fun j => (g_Rdraft g).2 (0 + j)) (32 * row) 32 0 t))) = _
    rw [wrM]
    rcases ho with h0 | h1
    · rw [if_pos h0, h0]
    · rw [if_neg (by rw [h1]; decide), h1]
  | succ d ih =>
    intro fuel t k hp hk hj hf
    obtain ⟨fu, rfl, hf'⟩ := fu1 hf
    have hw : m_RRef_write (rmk g t) (nI (row + k)) (nI (32 * k)) = _ := R_write (g := rmk g t) (row := row + k) (fr := 32 * k) (by omega) rfl hd (by omega) hb hp
    have ho := wrS_ok (fun j => (g_Rdraft g).2 (32 * k + j)) (32 * (row + k)) 32 0 t
    have hpw := wrS_pw (fun j => (g_Rdraft g).2 (32 * k + j)) (32 * (row + k)) 32 0 t hp
    rw [m_RRef_writeAll_L5, wrM]
    refine Eq.trans (if_neg (nI_ge (by omega) (by omega))) ?_
    refine Eq.trans (if_neg e10) ?_
    rw [nI_add, n32, pk_mul]
    refine Eq.trans (bs hw) ?_
    rw [nI_1]
    obtain ⟨q, hq⟩ : ∃ q, q = wrS (fun j => (g_Rdraft g).2 (32 * k + j)) (32 * (row + k)) 32 0 t := ⟨_, rfl⟩
    show m_RRef_writeAll_L5 fu (rout g (wrS (fun j => (g_Rdraft g).2 (32 * k + j)) (32 * (row + k)) 32 0 t)) (nI row) (nI count) (wrS (fun j => (g_Rdraft g).2 (32 * k + j)) (32 * (row + k)) 32 0 t).1 (nI (k + 1)) = _
    rw [← hq] at ho hpw ⊢
    rcases ho with h0 | h1
    · rw [if_pos h0]
      obtain ⟨fu2, rfl, -⟩ := fu1 (k := 0) (fuel := fu) (by omega)
      rw [m_RRef_writeAll_L5]
      by_cases hc2 : nI count ≤ nI (k + 1)
      · refine Eq.trans (if_pos hc2) ?_
        refine Eq.trans (if_pos h0) ?_
        rw [h0]
      · refine Eq.trans (if_neg hc2) ?_
        refine Eq.trans (if_pos h0) ?_
        refine Eq.trans (if_pos h0) ?_
        rw [h0]
    · rw [if_neg (by rw [h1]; decide), rout1 h1, h1]
      exact ih fu q.2 (k + 1) hpw (by omega) (by omega) (by omega)
theorem R_writeAll {g : St_Ref} (hm : (g_Rmedium g).1 = 16384) (hd : (g_Rdraft g).1 = 256) (hb : ∀ j, By ((g_Rdraft g).2 j)) {row count : Nat} (hc : 1 ≤ count ∧ count ≤ 7) (hr : row + count ≤ 512) (hp : Pw (g_RcutIn g)) : m_RRef_writeAll g (nI row) (nI count) = some ((wrM (g_Rdraft g).2 row (count - 1) 1 (rtri g)).1, rout g (wrM (g_Rdraft g).2 row (count - 1) 1 (rtri g))) := by
  have h := R_wA_L hd hb hc hr (count - 1) FU (rtri g) 1 hp (by omega) (by omega) (FU_lt (by omega))
  rw [← rmk_of hm] at h
  unfold m_RRef_writeAll
  rw [n1]
  exact h
