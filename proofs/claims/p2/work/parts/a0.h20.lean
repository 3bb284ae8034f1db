-- HEADS
def goodH (f : Nat → Int32) (w : Nat) : Int32 := if f (32 * w) &&& 255 = 4 then (if sumOk f w = 0 then 0 else (if lg_cmp (numF f (32 * w + 4) 4) 1 < 0 then 0 else (if 0 < lg_cmp (numF f (32 * w + 4) 4) 1000000000 then 0 else 1))) else 0
theorem C_isNumber (v : Int64) : m_Log_isNumber v = some (if lg_cmp v 1 < 0 then 0 else (if 0 < lg_cmp v 1000000000 then 0 else 1)) := by
  unfold m_Log_isNumber
  split
  · rfl
  · split <;> rfl
theorem C_isGoodHead {n : Nat} {g : St_Log} {t : T3} (hm : g_medium g = mk3 n t) (hn : 4 ≤ n ∧ n ≤ 512) {w : Nat} (hw : w < n) : m_Log_isGoodHead g (nI w) = some (goodH t.1 w) := by
  have hk := mk3_ok hn.1 hn.2 t
  have a3 : m_Medium_at (mk3 n t) (nI w) 0 = some (t.1 (32 * w) &&& 255) := c_at hk (row := w) (i := 0) (by omega) (by omega)
  have a4 : m_Medium_isSumRight (mk3 n t) (nI w) = some (sumOk t.1 w) := c_sum hk (by omega)
  have a5 : m_Medium_number (mk3 n t) (nI w) 4 4 = some (numF t.1 (32 * w + 4) 4) := c_number hk (by omega) (i := 4) (K := 4) (by omega)
  unfold m_Log_isGoodHead goodH
  rw [hm, bs a3]
  by_cases c1 : t.1 (32 * w) &&& 255 = 4
  · rw [if_pos c1, if_pos c1, bs a4]
    by_cases c2 : sumOk t.1 w = 0
    · rw [if_pos c2, if_pos c2]
    · rw [if_neg c2, if_neg c2, bs a5, bs (C_isNumber _)]
      by_cases c3 : lg_cmp (numF t.1 (32 * w + 4) 4) 1 < 0
      · rw [if_pos c3, if_pos rfl]
      · rw [if_neg c3]
        by_cases c4 : 0 < lg_cmp (numF t.1 (32 * w + 4) 4) 1000000000
        · rw [if_pos c4, if_pos rfl]
        · rw [if_neg c4, if_neg e10]
  · rw [if_neg c1, if_neg c1]
theorem R_isGood {n : Nat} {r : St_Ref} {f : Nat → Int32} (hR : RI n r) (hf : (g_Rmedium r).2 = f) {w : Nat} (hw : w < 512) : m_RRef_isGood r (nI w) = some (goodH f w) := by
  have l1 : (g_Rmedium r).1 = 16384 := (ri_medium hR).1
  have a3 : m_RRef_kind r (nI w) = some (f (32 * w) &&& 255) := by rw [← hf]; exact r_kind l1 (by omega)
  have a4 : m_RRef_isSummed r (nI w) = some (sumOk f w) := by rw [← hf]; exact r_sum l1 (by omega)
  have a5 : m_RRef_number (g_Rmedium r) (32 * nI w + 4) 4 = some (numF f (32 * w + 4) 4) := by
    rw [n32, pk_mul, n4, nI_add, ← hf]
    exact r_number (by rw [l1]; omega) (by rw [l1]; omega) (by omega)
  unfold m_RRef_isGood goodH
  rw [bs a5, bs a3]
  by_cases c1 : f (32 * w) &&& 255 = 4
  · rw [if_pos c1, if_pos c1, bs a4]
    by_cases c2 : sumOk f w = 0
    · rw [if_pos c2, if_pos c2]
    · rw [if_neg c2, if_neg c2]
      split
      · rfl
      · split <;> rfl
  · rw [if_neg c1, if_neg c1]
def clrS (f : Nat → Int32) : Nat → Nat → Bool
  | 0, _ => true
  | d + 1, j => if f j = 0 then clrS f d (j + 1) else false
theorem By_z {c : Int32} (h : By c) : c &&& 255 = 0 ↔ c = 0 := by
  constructor
  · intro e
    have := h.back
    rw [e] at this
    rw [← this]
    decide +kernel
  · intro e
    rw [e]; decide
theorem C_isClear_L {n : Nat} {x : St_Medium} (h : MedOk n x) (hb : ∀ j, By (x.2.1.2 j)) {w : Nat} (hw : w < n) : ∀ (d fuel j : Nat), j + d = 32 → d < fuel → m_Medium_isClear_L2 x fuel (nI w) (nI j) = some (if clrS x.2.1.2 d (32 * w + j) then 1 else 0) := by
  intro d
  induction d with
  | zero =>
    intro fuel j hj hf
    obtain ⟨fu, rfl, -⟩ := fu1 hf
    rw [m_Medium_isClear_L2, n32, if_pos (nI_le (by omega) (by omega))]; rfl
  | succ d ih =>
    intro fuel j hj hf
    obtain ⟨fu, rfl, hf'⟩ := fu1 hf
    rw [m_Medium_isClear_L2, if_neg (show ¬ (32 : Int32) ≤ nI j by rw [n32]; exact nI_ge (by omega) (by omega)), bs (c_at h hw (by omega)), clrS, nI_1]
    by_cases z : x.2.1.2 (32 * w + j) = 0
    · rw [if_pos ((By_z (hb _)).mpr z), if_pos z, ih fu (j + 1) (by omega) (by omega)]; rfl
    · rw [if_neg (fun e => z ((By_z (hb _)).mp e)), if_neg z]; rfl
theorem C_isClear {n : Nat} {x : St_Medium} (h : MedOk n x) (hb : ∀ j, By (x.2.1.2 j)) {w : Nat} (hw : w < n) : m_Medium_isClear x (nI w) = some (if clrS x.2.1.2 32 (32 * w) then 1 else 0) := C_isClear_L h hb hw 32 FU 0 (by omega) (FU_lt (by omega))
theorem R_b143 {n : Nat} {r : St_Ref} (hR : RI n r) (kk : Int32 → Int32 → Int32 → Option Int32) (v1 : Int32) {w : Nat} (hw : w < 512) : ∀ (d fuel j : Nat) (b : Bool), j + d = 32 → d < fuel → m_RRef_badAt_L143 r kk fuel v1 (nI w) (if b then 1 else 0) (nI j) = kk v1 (nI w) (if b && clrS (g_Rmedium r).2 d (32 * w + j) then 1 else 0) := by
  have l1 : (g_Rmedium r).1 = 16384 := (ri_medium hR).1
  intro d
  induction d with
  | zero =>
    intro fuel j b hj hf
    obtain ⟨fu, rfl, -⟩ := fu1 hf
    rw [m_RRef_badAt_L143, if_pos (show (32 : Int32) ≤ nI j by rw [n32]; exact nI_le (by omega) (by omega))]
    cases b <;> rfl
  | succ d ih =>
    intro fuel j b hj hf
    obtain ⟨fu, rfl, hf'⟩ := fu1 hf
    rw [m_RRef_badAt_L143, if_neg (show ¬ (32 : Int32) ≤ nI j by rw [n32]; exact nI_ge (by omega) (by omega)), clrS, nI_1]
    cases b with
    | false =>
      refine Eq.trans (if_pos (show (if false = true then (1 : Int32) else 0) = 0 from rfl)) ?_
      exact ih fu (j + 1) false (by omega) (by omega)
    | true =>
      rw [if_neg (by decide), n32, pk_mul, nI_add, l1, if_neg (nI_in (by omega) (by omega)), nI_clamp (by omega)]
      by_cases z : (g_Rmedium r).2 (32 * w + j) = 0
      · rw [if_pos z, if_pos z]
        exact ih fu (j + 1) true (by omega) (by omega)
      · rw [if_neg z, if_neg z]
        exact ih fu (j + 1) false (by omega) (by omega)
/-- a HEAD that is neither clear nor good -/
def badH (f : Nat → Int32) (w : Nat) : Bool := !clrS f 32 (32 * w) && decide (goodH f w = 0)
theorem R_b134s {n : Nat} {r : St_Ref} {f : Nat → Int32} (hR : RI n r) (hf : (g_Rmedium r).2 = f) (fu : Nat) (v : Int32) {w : Nat} (hw : w < 512) : m_RRef_badAt_L134 r (fu + 1) v (nI w) = m_RRef_badAt_L134 r fu (if badH f w then nI w else v) (nI w + (-1)) := by
  rw [m_RRef_badAt_L134, if_neg (nI_pos (by omega))]
  have k := R_b143 hR (fun (v1_9 : Int32) (v2_10 : Int32) (v3_11 : Int32) => if v3_11 = 0 then ((m_RRef_isGood r v2_10).bind fun q13 => if q13 = 0 then (m_RRef_badAt_L134 r fu v2_10 (v2_10 + (-1))) else (m_RRef_badAt_L134 r fu v1_9 (v2_10 + (-1)))) else (m_RRef_badAt_L134 r fu v1_9 (v2_10 + (-1)))) v (w := w) hw 32 FU 0 true (by omega) (FU_lt (by omega))
  refine Eq.trans k ?_
  rw [hf]
  show (if (if (true && clrS f 32 (32 * w)) = true then (1 : Int32) else 0) = 0 then _ else _) = _
  unfold badH
  cases hc : clrS f 32 (32 * w) with
  | true => rfl
  | false =>
    show ((m_RRef_isGood r (nI w)).bind fun q13 => if q13 = 0 then (m_RRef_badAt_L134 r fu (nI w) (nI w + (-1))) else (m_RRef_badAt_L134 r fu v (nI w + (-1)))) = _
    rw [bs (R_isGood hR hf hw)]
    by_cases z : goodH f w = 0
    · rw [if_pos z, if_pos (show (!false && decide (goodH f w = 0)) = true by rw [decide_eq_true z]; rfl)]
    · rw [if_neg z, if_neg (show ¬ (!false && decide (goodH f w = 0)) = true by rw [decide_eq_false z]; decide)]
theorem R_b134 {n : Nat} {r : St_Ref} {f : Nat → Int32} (hR : RI n r) (hf : (g_Rmedium r).2 = f) (v : Int32) : m_RRef_badAt_L134 r FU v 1 = some (if badH f 0 then 0 else (if badH f 1 then 1 else v)) := by
  obtain ⟨f1, e1, -⟩ := fu1 (k := 3) (fuel := FU) (FU_lt (by omega))
  obtain ⟨f2, e2, -⟩ := fu1 (k := 1) (fuel := f1) (by have := FU_ge; omega)
  obtain ⟨f3, e3, -⟩ := fu1 (k := 0) (fuel := f2) (by have := FU_ge; omega)
  rw [e1]
  refine Eq.trans (R_b134s hR hf f1 v (w := 1) (by omega)) ?_
  rw [e2]
  refine Eq.trans (show m_RRef_badAt_L134 r (f2 + 1) (if badH f 1 then nI 1 else v) (nI 0) = _ from R_b134s hR hf f2 _ (w := 0) (by omega)) ?_
  rw [e3, m_RRef_badAt_L134, if_pos (by decide)]
  rfl
-- badAt
def badP (f : Nat → Int32) (q : PQ) : Bool := decide (wholeP f q.1 q.2.2.1.toNatClampNeg q.2.2.2.1.toNatClampNeg = 0)
def badM (f : Nat → Int32) (m : MKQ) : Bool := decide (foundK f m.1 m.2.1.toNatClampNeg m.2.2.1.toNatClampNeg m.2.2.2.1 = 0)
def rowP (q : PQ) : Nat := q.2.2.2.1.toNatClampNeg
def rowM (m : MKQ) : Nat := m.2.2.1.toNatClampNeg
/-- m' is the least of m and the rows of the bad ones -/
def Lst {α : Type} (bad : α → Bool) (row : α → Nat) (l : List α) (m m' : Nat) : Prop := m' ≤ m ∧ (m' = m ∨ ∃ z, z ∈ l ∧ bad z = true ∧ row z = m') ∧ ∀ z, z ∈ l → bad z = true → m' ≤ row z
theorem Lst_nil {α : Type} (bad : α → Bool) (row : α → Nat) (m : Nat) : Lst bad row [] m m := ⟨Nat.le_refl _, Or.inl rfl, fun z hz => by cases hz⟩
theorem Lst_cons {α : Type} {bad : α → Bool} {row : α → Nat} {a : α} {l : List α} {m m1 m' : Nat} (h1 : m1 = if bad a = true ∧ row a < m then row a else m) (h : Lst bad row l m1 m') : Lst bad row (a :: l) m m' := by
  obtain ⟨a1, a2, a3⟩ := h
  have hle : m1 ≤ m := by
    rw [h1]
    split
    · rename_i h; omega
    · exact Nat.le_refl _
  refine ⟨by omega, ?_, fun z hz hb => ?_⟩
  · rcases a2 with e | ⟨z, hz, hb, e⟩
    · rw [e, h1]
      split
      · rename_i h
        exact Or.inr ⟨a, List.mem_cons_self, h.1, rfl⟩
      · exact Or.inl rfl
    · exact Or.inr ⟨z, List.mem_cons_of_mem _ hz, hb, e⟩
  · rcases List.mem_cons.mp hz with e | hz
    · rw [e] at hb ⊢
      by_cases hc : row a < m
      · rw [if_pos ⟨hb, hc⟩] at h1
        omega
      · omega
    · exact a3 z hz hb
theorem C_b102 {n : Nat} {g : St_Log} {t : T3} {lk : List MKQ} (hm : g_medium g = mk3 n t) (hn : 4 ≤ n ∧ n ≤ 512) (hK : MC (n / 2) (g_kept g) lk) (hfit : ∀ m, m ∈ lk → FitK n m) : ∀ (d fuel k m : Nat), k + d = lk.length → d < fuel → m ≤ n → ∃ m', m_Log_badAt_L102 g fuel (nI m) (nI k) = some (if n ≤ m' then (-1) else nI m') ∧ Lst (badM t.1) rowM (lst (fun j => mrow (g_kept g) (k + j)) d) m m' := by
  have hP := hK.1.1.2.2.1
  have hsz : m_Marks_size (g_kept g) = some (nI lk.length) := by unfold m_Marks_size; rw [hK.1.1.2.1]
  have hrw : m_Medium_rows (g_medium g) = some (nI n) := by rw [hm]; rfl
  intro d
  induction d with
  | zero =>
    intro fuel k m hk hf hmn
    obtain ⟨fu, rfl, -⟩ := fu1 hf
    refine ⟨m, ?_, Lst_nil _ _ _⟩
    rw [m_Log_badAt_L102, bs hsz, if_pos (nI_le (by omega) (by omega)), bs hrw]
    by_cases z : n ≤ m
    · rw [if_pos z, if_pos (nI_le z (by omega))]
    · rw [if_neg z, if_neg (nI_ge (by omega) (by omega))]
  | succ d ih =>
    intro fuel k m hk hf hmn
    obtain ⟨fu, rfl, hf'⟩ := fu1 hf
    have hkl : k < lk.length := by omega
    obtain ⟨_, c, w, _, _, _, p4, p5, p6, p7, p8, p9⟩ := hfit _ (MC_mem hK hkl)
    have a1 : m_Marks_rowAt (g_kept g) (nI k) = some (nI w) := by rw [M_rowAt hK.1.1 hkl]; exact congrArg some p7
    have a2 := C_isKeptAsFound hm hn hK hkl p4 p6 p7 p9
    have hrow : rowM (mrow (g_kept g) k) = w := by unfold rowM; rw [p7, nI_clamp (by omega)]
    have hbd : badM t.1 (mrow (g_kept g) k) = true ↔ foundK t.1 (mrow (g_kept g) k).1 c w (mrow (g_kept g) k).2.2.2.1 = 0 := by
      unfold badM
      rw [p4, p7, nI_clamp (by omega), nI_clamp (by omega), decide_eq_true_eq]
    have e : (fun j => mrow (g_kept g) (k + (j + 1))) = fun j => mrow (g_kept g) (k + 1 + j) := funext fun j => by rw [show k + (j + 1) = k + 1 + j by omega]
    rw [m_Log_badAt_L102, bs hsz, if_neg (nI_ge (by omega) (by omega)), bs a1, lst_cons, e, nI_1]
    show ∃ m', _ ∧ Lst (badM t.1) rowM (mrow (g_kept g) k :: _) m m'
    by_cases z1 : m ≤ w
    · obtain ⟨m', b1, b2⟩ := ih fu (k + 1) m (by omega) (by omega) hmn
      refine ⟨m', by rw [if_pos (nI_le z1 (by omega))]; exact b1, Lst_cons ?_ b2⟩
      rw [hrow, if_neg (fun z => absurd z.2 (by omega))]
    · rw [if_neg (nI_ge (by omega) (by omega)), bs a2]
      by_cases z2 : foundK t.1 (mrow (g_kept g) k).1 c w (mrow (g_kept g) k).2.2.2.1 = 0
      · obtain ⟨m', b1, b2⟩ := ih fu (k + 1) w (by omega) (by omega) (by omega)
        refine ⟨m', by rw [if_pos z2, bs a1]; exact b1, Lst_cons ?_ b2⟩
        rw [hrow, if_pos ⟨hbd.mpr z2, by omega⟩]
      · obtain ⟨m', b1, b2⟩ := ih fu (k + 1) m (by omega) (by omega) hmn
        refine ⟨m', by rw [if_neg z2]; exact b1, Lst_cons ?_ b2⟩
        rw [if_neg (fun z => z2 (hbd.mp z.1))]
theorem C_b54 {n : Nat} {g : St_Log} {t : T3} {lp : List PQ} (hm : g_medium g = mk3 n t) (hn : 4 ≤ n ∧ n ≤ 512) (hP : PC n (g_parts g) lp) (hfit : ∀ q, q ∈ lp → FitP n q) : ∀ (d fuel k m : Nat), k + d = lp.length → d < fuel → m ≤ n → ∃ m', m_Log_badAt_L54 g fuel (nI m) (nI k) = m_Log_badAt_L102 g FU (nI m') 0 ∧ Lst (badP t.1) rowP (lst (fun j => crow (g_parts g) (k + j)) d) m m' := by
  have hPn := hP.1.2.2
  have hsz : m_Parts_size (g_parts g) = some (nI lp.length) := by unfold m_Parts_size; rw [hP.1.2.1]
  intro d
  induction d with
  | zero =>
    intro fuel k m hk hf hmn
    obtain ⟨fu, rfl, -⟩ := fu1 hf
    refine ⟨m, ?_, Lst_nil _ _ _⟩
    rw [m_Log_badAt_L54, bs hsz, if_pos (nI_le (by omega) (by omega))]
  | succ d ih =>
    intro fuel k m hk hf hmn
    obtain ⟨fu, rfl, hf'⟩ := fu1 hf
    have hkl : k < lp.length := by omega
    obtain ⟨_, _, l, w, _, _, _, _, _, p6, p7, p8, p9, p10⟩ := hfit _ (PC_mem hP hkl)
    have a1 : m_Parts_rowAt (g_parts g) (nI k) = some (nI w) := by rw [P_rowAt hP.1.l hkl]; exact congrArg some p8
    have a2 := C_isPartWhole hm hn hP hkl p6 p7 p8 p10
    have hrow : rowP (crow (g_parts g) k) = w := by unfold rowP; rw [p8, nI_clamp (by omega)]
    have hbd : badP t.1 (crow (g_parts g) k) = true ↔ wholeP t.1 (crow (g_parts g) k).1 l w = 0 := by
      unfold badP
      rw [p6, p8, nI_clamp (by omega), nI_clamp (by omega), decide_eq_true_eq]
    have e : (fun j => crow (g_parts g) (k + (j + 1))) = fun j => crow (g_parts g) (k + 1 + j) := funext fun j => by rw [show k + (j + 1) = k + 1 + j by omega]
    rw [m_Log_badAt_L54, bs hsz, if_neg (nI_ge (by omega) (by omega)), bs a1, lst_cons, e, nI_1]
    show ∃ m', _ ∧ Lst (badP t.1) rowP (crow (g_parts g) k :: _) m m'
    by_cases z1 : m ≤ w
    · obtain ⟨m', b1, b2⟩ := ih fu (k + 1) m (by omega) (by omega) hmn
      refine ⟨m', by rw [if_pos (nI_le z1 (by omega))]; exact b1, Lst_cons ?_ b2⟩
      rw [hrow, if_neg (fun z => absurd z.2 (by omega))]
    · rw [if_neg (nI_ge (by omega) (by omega)), bs a2]
      by_cases z2 : wholeP t.1 (crow (g_parts g) k).1 l w = 0
      · obtain ⟨m', b1, b2⟩ := ih fu (k + 1) w (by omega) (by omega) (by omega)
        refine ⟨m', by rw [if_pos z2, bs a1]; exact b1, Lst_cons ?_ b2⟩
        rw [hrow, if_pos ⟨hbd.mpr z2, by omega⟩]
      · obtain ⟨m', b1, b2⟩ := ih fu (k + 1) m (by omega) (by omega) hmn
        refine ⟨m', by rw [if_neg z2]; exact b1, Lst_cons ?_ b2⟩
        rw [if_neg (fun z => z2 (hbd.mp z.1))]
/-- the reference's least: n stands for none -/
def rl (n m : Nat) : Int32 := if n ≤ m then (-1) else nI m
theorem R_b84 {n : Nat} {r : St_Ref} {f : Nat → Int32} {lp : List PQ} (hR : RI n r) (hf : (g_Rmedium r).2 = f) (hn : n ≤ 512) (hP : PR r lp) (hfit : ∀ q, q ∈ lp → FitP n q) : ∀ (d fuel k m : Nat), k + d = lp.length → d < fuel → m ≤ n → ∃ m', m' ≤ n ∧ m_RRef_badAt_L84 r fuel (rl n m) (nI k) = m_RRef_badAt_L134 r FU (rl n m') 1 ∧ Lst (badP f) rowP (lst (fun j => rrow r (k + j)) d) m m' := by
  have hlp := hP.1.2.2
  have hp := hP.1.2.1
  have lr : (g_RpRow r).1 = 520 := ri_pRow hR
  intro d
  induction d with
  | zero =>
    intro fuel k m hk hf' hmn
    obtain ⟨fu, rfl, -⟩ := fu1 hf'
    refine ⟨m, hmn, ?_, Lst_nil _ _ _⟩
    rw [m_RRef_badAt_L84, hp, if_pos (nI_le (by omega) (by omega))]
  | succ d ih =>
    intro fuel k m hk hf' hmn
    obtain ⟨fu, rfl, hf''⟩ := fu1 hf'
    have hkl : k < lp.length := by omega
    obtain ⟨_, _, l, w, _, _, _, _, _, p6, p7, p8, p9, p10⟩ := hfit _ (PR_mem hP hkl)
    have a2 := R_isWholePart hR hf hn hP hkl p6 p7 p8 p10
    have er : (g_RpRow r).2 k = nI w := p8
    have ck : (nI k).toNatClampNeg = k := nI_clamp (by omega)
    have k0 : ¬ (nI k < 0 ∨ 520 ≤ k) := by
      have := nI_in (c := k) (N := 520) (by omega) (by omega)
      rw [ck] at this
      exact this
    have hrow : rowP (rrow r k) = w := by unfold rowP; rw [p8, nI_clamp (by omega)]
    have hbd : badP f (rrow r k) = true ↔ wholeP f (rrow r k).1 l w = 0 := by
      unfold badP
      rw [p6, p8, nI_clamp (by omega), nI_clamp (by omega), decide_eq_true_eq]
    have e : (fun j => rrow r (k + (j + 1))) = fun j => rrow r (k + 1 + j) := funext fun j => by rw [show k + (j + 1) = k + 1 + j by omega]
    have hwn : ¬ n ≤ w := by omega
    rw [m_RRef_badAt_L84, hp, if_neg (nI_ge (by omega) (by omega)), bs a2, lr, ck, er, lst_cons, e, nI_1]
    show ∃ m', _ ∧ _ ∧ Lst (badP f) rowP (rrow r k :: _) m m'
    by_cases z2 : wholeP f (rrow r k).1 l w = 0
    · rw [if_pos z2]
      by_cases z1 : m ≤ w
      · obtain ⟨m', b0, b1, b2⟩ := ih fu (k + 1) m (by omega) (by omega) hmn
        have hm1 : rl n m = nI m := by unfold rl; rw [if_neg (by omega)]
        refine ⟨m', b0, ?_, Lst_cons (by rw [hrow, if_neg (fun z => absurd z.2 (by omega))]) b2⟩
        rw [hm1] at b1
        rw [hm1, if_neg (nI_m1 (by omega)), if_neg k0, if_pos (nI_le z1 (by omega))]
        exact b1
      · obtain ⟨m', b0, b1, b2⟩ := ih fu (k + 1) w (by omega) (by omega) (by omega)
        refine ⟨m', b0, ?_, Lst_cons (by rw [hrow, if_pos ⟨hbd.mpr z2, by omega⟩]) b2⟩
        have hw1 : rl n w = nI w := by unfold rl; rw [if_neg hwn]
        rw [hw1] at b1
        by_cases zz : n ≤ m
        · rw [show rl n m = (-1) by unfold rl; rw [if_pos zz], if_pos rfl, if_neg k0]
          exact b1
        · have hm1 : rl n m = nI m := by unfold rl; rw [if_neg zz]
          rw [hm1, if_neg (nI_m1 (by omega)), if_neg k0, if_neg (nI_ge (by omega) (by omega)), if_neg k0]
          exact b1
    · obtain ⟨m', b0, b1, b2⟩ := ih fu (k + 1) m (by omega) (by omega) hmn
      refine ⟨m', b0, by rw [if_neg z2]; exact b1, Lst_cons ?_ b2⟩
      rw [if_neg (fun z => z2 (hbd.mp z.1))]
