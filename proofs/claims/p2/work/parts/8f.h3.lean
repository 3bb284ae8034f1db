-- ROOM: free rows
def pIv (q : PQ) : Nat × Nat := (q.2.2.2.1.toNatClampNeg, 1 + bod q.2.2.1.toNatClampNeg)
def ent (c : Nat) : Nat := (c + 1) / 2
def mIv (m : MKQ) : Nat × Nat := (m.2.2.1.toNatClampNeg, 1 + ent m.2.1.toNatClampNeg)
/-- a PART that fits a medium of n rows -/
def FitP (n : Nat) (q : PQ) : Prop := ∃ a b l w : Nat, q.1 = nI a ∧ 1 ≤ a ∧ a ≤ 1000000000 ∧ q.2.1 = nI b ∧ b < 8 ∧ q.2.2.1 = nI l ∧ l ≤ 155 ∧ q.2.2.2.1 = nI w ∧ 2 ≤ w ∧ w + 1 + bod l ≤ n
/-- a kept MARK that fits -/
def FitK (n : Nat) (m : MKQ) : Prop := ∃ a c w : Nat, m.1 = nI a ∧ 1 ≤ a ∧ a ≤ 1000000000 ∧ m.2.1 = nI c ∧ 1 ≤ c ∧ c ≤ 12 ∧ m.2.2.1 = nI w ∧ 2 ≤ w ∧ w + 1 + ent c ≤ n
/-- a MARK that is not kept -/
def FitM (m : MKQ) : Prop := ∃ a c : Nat, m.1 = nI a ∧ 1 ≤ a ∧ a ≤ 1000000000 ∧ m.2.1 = nI c ∧ 1 ≤ c ∧ c ≤ 12 ∧ m.2.2.1 = (-1) ∧ m.2.2.2.1 = 0
theorem nI_m1 {w : Nat} (h : w < 2 ^ 31) : nI w ≠ (-1) := by
  intro e
  have := congrArg Int32.toInt e
  rw [nI_toInt h] at this
  have h2 : Int32.toInt (-1) = -1 := by decide
  rw [h2] at this
  omega
theorem m1_nI {w : Nat} (h : w < 2 ^ 31) : (-1 : Int32) ≠ nI w := fun e => nI_m1 h e.symm
theorem R_entries {c : Nat} (h : c < 2 ^ 30) : m_RRef_entries (nI c) = some (nI (ent c)) := by
  unfold m_RRef_entries ent
  rw [n1, n2, nI_add, pk_div (by omega) (by omega) (by omega)]
theorem C_entriesOf {c : Nat} (h : c < 2 ^ 30) : m_Log_entriesOf (nI c) = some (nI (ent c)) := by
  unfold m_Log_entriesOf ent
  rw [n2, nI_add, n1, pk_sub (by omega), pk_div (by omega) (by omega) (by omega), show c + 2 - 1 = c + 1 by omega]
theorem C_rowsOfMark {c : Nat} (h : c < 2 ^ 30) : m_Log_rowsOfMark (nI c) = some (nI (1 + ent c)) := by
  unfold m_Log_rowsOfMark
  rw [bs (C_entriesOf h), n1, nI_add]
/-- the first run of c free rows: d rows from r on, run of them before r are free -/
def runF (b : Nat → Int32) (c : Nat) : Nat → Nat → Nat → Option Nat
  | 0, _, _ => none
  | d + 1, run, r => if b r = 0 then (if run + 1 = c then some (r + 1 - c) else runF b c d (run + 1) (r + 1)) else runF b c d 0 (r + 1)
def rv : Option Nat → Int32
  | none => (-1)
  | some w => nI w
theorem runF_congr {b b' : Nat → Int32} (c : Nat) : ∀ (d run r : Nat), (∀ j, r ≤ j → j < r + d → (b j = 0 ↔ b' j = 0)) → runF b c d run r = runF b' c d run r := by
  intro d
  induction d with
  | zero => intro run r h; rfl
  | succ d ih =>
    intro run r h
    rw [runF, runF, ih (run + 1) (r + 1) (fun j h1 h2 => h j (by omega) (by omega)), ih 0 (r + 1) (fun j h1 h2 => h j (by omega) (by omega))]
    by_cases h0 : b r = 0
    · rw [if_pos h0, if_pos ((h r (by omega) (by omega)).mp h0)]
    · rw [if_neg h0, if_neg (fun e => h0 ((h r (by omega) (by omega)).mpr e))]
theorem runF_spec {b : Nat → Int32} {c : Nat} : ∀ (d run r : Nat) (w : Nat), run ≤ r → (∀ j, r ≤ j + run → j < r → b j = 0) → runF b c d run r = some w → r ≤ w + run ∧ w + c ≤ r + d ∧ ∀ j, w ≤ j → j < w + c → b j = 0 := by
  intro d
  induction d with
  | zero => intro run r w _ _ h; cases h
  | succ d ih =>
    intro run r w hr hb h
    rw [runF] at h
    by_cases h0 : b r = 0
    · rw [if_pos h0] at h
      by_cases h1 : run + 1 = c
      · rw [if_pos h1] at h
        have hw : r + 1 - c = w := Option.some.inj h
        refine ⟨by omega, by omega, fun j j1 j2 => ?_⟩
        by_cases hj : j = r
        · rw [hj]; exact h0
        · exact hb j (by omega) (by omega)
      · rw [if_neg h1] at h
        obtain ⟨a1, a2, a3⟩ := ih (run + 1) (r + 1) w (by omega) (fun j j1 j2 => by
          by_cases hj : j = r
          · rw [hj]; exact h0
          · exact hb j (by omega) (by omega)) h
        exact ⟨by omega, by omega, a3⟩
    · rw [if_neg h0] at h
      obtain ⟨a1, a2, a3⟩ := ih 0 (r + 1) w (by omega) (fun j j1 j2 => absurd j2 (by omega)) h
      exact ⟨by omega, by omega, a3⟩
theorem C_fR_L {n : Nat} {x : St_Room} (hx : x.1 = n) (hn : n ≤ 512) {c : Nat} (hc : 1 ≤ c ∧ c ≤ 1000) : ∀ (d fuel run r : Nat), r + d = n → run + 2 ≤ r → d < fuel → m_Room_firstRun_L4 x fuel (nI c) (nI run) (nI r) = some (rv (runF x.2 c d run r)) := by
  intro d
  induction d with
  | zero =>
    intro fuel run r hr h2 hf
    obtain ⟨fu, rfl, -⟩ := fu1 hf
    rw [m_Room_firstRun_L4, hx, if_pos (nI_le (by omega) (by omega))]; rfl
  | succ d ih =>
    intro fuel run r hr h2 hf
    obtain ⟨fu, rfl, hf'⟩ := fu1 hf
    rw [m_Room_firstRun_L4, hx, if_neg (nI_ge (by omega) (by omega)), if_neg (nI_in (by omega) (by omega)), nI_clamp (by omega), runF, nI_1, nI_1]
    by_cases h0 : x.2 r = 0
    · rw [if_pos h0, if_pos h0]
      by_cases h1 : run + 1 = c
      · rw [if_pos h1, if_pos (show nI (run + 1) = nI c by rw [h1]), pk_sub (by omega), nI_1, show r - c + 1 = r + 1 - c by omega]; rfl
      · rw [if_neg h1, if_neg (fun e => h1 ((nI_eq (by omega) (by omega)).mp e))]
        exact ih fu (run + 1) (r + 1) (by omega) (by omega) (by omega)
    · rw [if_neg h0, if_neg h0, n0, if_neg (fun e => absurd ((nI_eq (by omega) (by omega)).mp e) (by omega))]
      exact ih fu 0 (r + 1) (by omega) (by omega) (by omega)
theorem C_firstRun {n : Nat} {x : St_Room} (hx : x.1 = n) (hn : 4 ≤ n ∧ n ≤ 512) {c : Nat} (hc : 1 ≤ c ∧ c ≤ 1000) : m_Room_firstRun x (nI c) = some (rv (runF x.2 c (n - 2) 0 2)) := by
  unfold m_Room_firstRun
  rw [n0, n2]
  exact C_fR_L hx hn.2 hc (n - 2) FU 0 2 (by omega) (by omega) (FU_lt (by omega))
theorem R_fR_L {n : Nat} {g : St_Ref} {f : Nat → Int32} (hu : g_Rused g = (512, f)) (hr0 : g_Rrows g = nI n) (hn : n ≤ 512) {c : Nat} (hc : 1 ≤ c ∧ c ≤ 1000) : ∀ (d fuel run r : Nat), r + d = n → run + 2 ≤ r → d < fuel → m_RRef_room_L4 g fuel (nI c) (nI run) (nI r) = some (rv (runF f c d run r)) := by
  intro d
  induction d with
  | zero =>
    intro fuel run r hr h2 hf
    obtain ⟨fu, rfl, -⟩ := fu1 hf
    rw [m_RRef_room_L4, hr0, if_pos (nI_le (by omega) (by omega))]; rfl
  | succ d ih =>
    intro fuel run r hr h2 hf
    obtain ⟨fu, rfl, hf'⟩ := fu1 hf
    rw [m_RRef_room_L4, hr0, if_neg (nI_ge (by omega) (by omega)), hu, if_neg (nI_in (show r < 512 by omega) (by omega)), nI_clamp (by omega), runF, nI_1, nI_1]
    by_cases h0 : f r = 0
    · rw [if_pos h0, if_pos h0]
      by_cases h1 : run + 1 = c
      · rw [if_pos h1, if_pos (show nI (run + 1) = nI c by rw [h1]), pk_sub (by omega), nI_1, show r - c + 1 = r + 1 - c by omega]; rfl
      · rw [if_neg h1, if_neg (fun e => h1 ((nI_eq (by omega) (by omega)).mp e))]
        exact ih fu (run + 1) (r + 1) (by omega) (by omega) (by omega)
    · rw [if_neg h0, if_neg h0, n0, if_neg (fun e => absurd ((nI_eq (by omega) (by omega)).mp e) (by omega))]
      exact ih fu 0 (r + 1) (by omega) (by omega) (by omega)
theorem R_room {n : Nat} {g : St_Ref} {f : Nat → Int32} (hu : g_Rused g = (512, f)) (hr0 : g_Rrows g = nI n) (hn : 4 ≤ n ∧ n ≤ 512) {c : Nat} (hc : 1 ≤ c ∧ c ≤ 1000) : m_RRef_room g (nI c) = some (rv (runF f c (n - 2) 0 2)) := by
  unfold m_RRef_room
  rw [n0, n2]
  exact R_fR_L hu hr0 hn.2 hc (n - 2) FU 0 2 (by omega) (by omega) (FU_lt (by omega))
/-- how many of d rows from r on are free -/
def freeF (b : Nat → Int32) : Nat → Nat → Nat
  | 0, _ => 0
  | d + 1, r => (if b r = 0 then 1 else 0) + freeF b d (r + 1)
theorem freeF_congr {b b' : Nat → Int32} : ∀ (d r : Nat), (∀ j, r ≤ j → j < r + d → (b j = 0 ↔ b' j = 0)) → freeF b d r = freeF b' d r := by
  intro d
  induction d with
  | zero => intro r h; rfl
  | succ d ih =>
    intro r h
    rw [freeF, freeF, ih (r + 1) (fun j h1 h2 => h j (by omega) (by omega))]
    by_cases h0 : b r = 0
    · rw [if_pos h0, if_pos ((h r (by omega) (by omega)).mp h0)]
    · rw [if_neg h0, if_neg (fun e => h0 ((h r (by omega) (by omega)).mpr e))]
theorem C_cF_L {n : Nat} {x : St_Room} (hx : x.1 = n) (hn : n ≤ 512) : ∀ (d fuel a r : Nat), r + d = n → d < fuel → m_Room_countFree_L4 x fuel (nI a) (nI r) = some (nI (a + freeF x.2 d r)) := by
  intro d
  induction d with
  | zero =>
    intro fuel a r hr hf
    obtain ⟨fu, rfl, -⟩ := fu1 hf
    rw [m_Room_countFree_L4, hx, if_pos (nI_le (by omega) (by omega))]; rfl
  | succ d ih =>
    intro fuel a r hr hf
    obtain ⟨fu, rfl, hf'⟩ := fu1 hf
    rw [m_Room_countFree_L4, hx, if_neg (nI_ge (by omega) (by omega)), if_neg (nI_in (by omega) (by omega)), nI_clamp (by omega), freeF, nI_1 a, nI_1 r]
    by_cases h0 : x.2 r = 0
    · rw [if_pos h0, if_pos h0, ih fu (a + 1) (r + 1) (by omega) (by omega), ← Nat.add_assoc]
    · rw [if_neg h0, if_neg h0, ih fu a (r + 1) (by omega) (by omega), Nat.zero_add]
theorem C_countFree {n : Nat} {x : St_Room} (hx : x.1 = n) (hn : 4 ≤ n ∧ n ≤ 512) : m_Room_countFree x = some (nI (freeF x.2 (n - 2) 2)) := by
  unfold m_Room_countFree
  have h := C_cF_L hx hn.2 (n - 2) FU 0 2 (by omega) (FU_lt (by omega))
  rw [Nat.zero_add] at h
  exact h
theorem R_cF_L {n : Nat} {g : St_Ref} {f : Nat → Int32} (hu : g_Rused g = (512, f)) (hr0 : g_Rrows g = nI n) (hn : n ≤ 512) : ∀ (d fuel a r : Nat), r + d = n → d < fuel → m_RRef_told_L76 fuel g (nI a) (nI r) = some (nI (a + freeF f d r), g) := by
  intro d
  induction d with
  | zero =>
    intro fuel a r hr hf
    obtain ⟨fu, rfl, -⟩ := fu1 hf
    rw [m_RRef_told_L76, hr0, if_pos (nI_le (by omega) (by omega))]; rfl
  | succ d ih =>
    intro fuel a r hr hf
    obtain ⟨fu, rfl, hf'⟩ := fu1 hf
    rw [m_RRef_told_L76, hr0, if_neg (nI_ge (by omega) (by omega)), hu, if_neg (nI_in (show r < 512 by omega) (by omega)), nI_clamp (by omega), freeF, nI_1 a, nI_1 r]
    by_cases h0 : f r = 0
    · rw [if_pos h0, if_pos h0, ih fu (a + 1) (r + 1) (by omega) (by omega), ← Nat.add_assoc]
    · rw [if_neg h0, if_neg h0, n0, nI_add, Nat.add_zero, ih fu a (r + 1) (by omega) (by omega), Nat.zero_add]
/-- rows a .. a + c - 1 become v -/
def setF (f : Nat → Int32) (a c : Nat) (v : Int32) : Nat → Int32 := fun j => if a ≤ j ∧ j < a + c then v else f j
theorem kRm_set {n : Nat} {f : Nat → Int32} {a c : Nat} {v : Int32} (h : ∀ j, f j = 0 ∨ f j = 1) (hv : v = 0 ∨ v = 1) : kRm n (n, setF f a c v) := by
  refine ⟨rfl, fun j => ?_⟩
  show (if a ≤ j ∧ j < a + c then v else f j) = 0 ∨ (if a ≤ j ∧ j < a + c then v else f j) = 1
  by_cases hj : a ≤ j ∧ j < a + c
  · rw [if_pos hj]; exact hv
  · rw [if_neg hj]; exact h j
theorem C_set_L {n a c : Nat} (hn : n ≤ 512) (hac : a + c ≤ n) (v : Int32) : ∀ (d fuel i : Nat) (f : Nat → Int32), i + d = c → d < fuel → m_Room_set_L3 fuel (n, f) (nI a) (nI c) v (nI i) = some (n, setF f (a + i) d (vp_nar .boolean v)) := by
  intro d
  induction d with
  | zero =>
    intro fuel i f hi hf
    obtain ⟨fu, rfl, -⟩ := fu1 hf
    rw [m_Room_set_L3, if_pos (nI_le (by omega) (by omega))]
    have : setF f (a + i) 0 (vp_nar .boolean v) = f := by
      funext j
      unfold setF
      rw [if_neg (by omega)]
    rw [this]
  | succ d ih =>
    intro fuel i f hi hf
    obtain ⟨fu, rfl, hf'⟩ := fu1 hf
    rw [m_Room_set_L3, if_neg (nI_ge (by omega) (by omega)), nI_add, if_neg (nI_pos (by omega))]
    rw [if_neg (show ¬ nI (n, f).1 ≤ nI (a + i) from nI_ge (show a + i < n by omega) (by omega)), if_neg (show ¬ (nI (a + i) < 0 ∨ (n, f).1 ≤ (nI (a + i)).toNatClampNeg) from nI_in (show a + i < n by omega) (by omega)), nI_clamp (by omega), nI_1]
    refine Eq.trans (ih fu (i + 1) (upd f (a + i) (vp_nar .boolean v)) (by omega) (by omega)) ?_
    congr 2
    funext j
    unfold setF upd
    by_cases h1 : j = a + i
    · rw [if_neg (by omega), if_pos h1, if_pos (by omega)]
    · by_cases h2 : a + (i + 1) ≤ j ∧ j < a + (i + 1) + d
      · rw [if_pos h2, if_pos (by omega)]
      · rw [if_neg h2, if_neg h1, if_neg (by omega)]
theorem C_take {n a c : Nat} {x : St_Room} (hx : x.1 = n) (hn : n ≤ 512) (hac : a + c ≤ n) : m_Room_take x (nI a) (nI c) = some (n, setF x.2 a c 1) := by
  have h := C_set_L hn hac 1 c FU 0 x.2 (by omega) (FU_lt (by omega))
  have hx2 : x = (n, x.2) := Prod.ext hx rfl
  have h2 : m_Room_set x (nI a) (nI c) 1 = some (n, setF x.2 a c 1) := by
    unfold m_Room_set
    rw [n0]
    rw [hx2]
    exact h
  unfold m_Room_take
  rw [bs h2]
theorem C_free {n a c : Nat} {x : St_Room} (hx : x.1 = n) (hn : n ≤ 512) (hac : a + c ≤ n) : m_Room_free x (nI a) (nI c) = some (n, setF x.2 a c 0) := by
  have h := C_set_L hn hac 0 c FU 0 x.2 (by omega) (FU_lt (by omega))
  have hx2 : x = (n, x.2) := Prod.ext hx rfl
  have h2 : m_Room_set x (nI a) (nI c) 0 = some (n, setF x.2 a c 0) := by
    unfold m_Room_set
    rw [n0]
    rw [hx2]
    exact h
  unfold m_Room_free
  rw [bs h2]
