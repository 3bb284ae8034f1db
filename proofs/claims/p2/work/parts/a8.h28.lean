-- WHAT STANDS AT A ROW
def pT (f : Nat → Int32) (n w l b : Nat) : Prop := b < 8 ∧ l ≤ 155 ∧ ¬ lg_cmp (numF f (32 * w + 4) 4) 1 < 0 ∧ ¬ 0 < lg_cmp (numF f (32 * w + 4) 4) 1000000000 ∧ w + 1 + bod l ≤ n
theorem bod_le {l : Nat} (h : l ≤ 65535) : bod l ≤ 3000 := by unfold bod; omega
theorem part_cases {n : Nat} {g : St_Log} {r : St_Ref} {t : T3} (hm : g_medium g = mk3 n t) (hn : 4 ≤ n ∧ n ≤ 512) (hR : RI n r) (hf : (g_Rmedium r).2 = t.1) {w l b : Nat} (hw : w < n) (hl0 : l ≤ 65535) (hl : numF t.1 (32 * w + 2) 2 = lN l) (hb0 : b < 256) (hb : t.1 (32 * w + 1) &&& 255 = nI b) : (pT t.1 n w l b ∧ m_Log_isPartThere g (nI w) = some 1 ∧ m_RRef_partAt r (nI w) = some (nI (1 + bod l))) ∨ (m_Log_isPartThere g (nI w) = some 0 ∧ m_RRef_partAt r (nI w) = some 0) := by
  have hk := mk3_ok hn.1 hn.2 t
  have hbl := bod_le hl0
  have l1 : (g_Rmedium r).1 = 16384 := (ri_medium hR).1
  have a3 : m_Medium_at (mk3 n t) (nI w) 0 = some (t.1 (32 * w) &&& 255) := c_at hk (row := w) (i := 0) (by omega) (by omega)
  have a3b : m_Medium_at (mk3 n t) (nI w) 1 = some (nI b) := by rw [← hb]; exact c_at hk (row := w) (i := 1) (by omega) (by omega)
  have a4 : m_Medium_isSumRight (mk3 n t) (nI w) = some (sumOk t.1 w) := c_sum hk (by omega)
  have a2 : m_Medium_number (mk3 n t) (nI w) 2 2 = some (lN l) := by rw [← hl]; exact c_number hk (by omega) (i := 2) (K := 2) (by omega)
  have a5 : m_Medium_number (mk3 n t) (nI w) 4 4 = some (numF t.1 (32 * w + 4) 4) := c_number hk (by omega) (i := 4) (K := 4) (by omega)
  have b3 : m_RRef_kind r (nI w) = some (t.1 (32 * w) &&& 255) := by rw [← hf]; exact r_kind l1 (by omega)
  have b4 : m_RRef_isSummed r (nI w) = some (sumOk t.1 w) := by rw [← hf]; exact r_sum l1 (by omega)
  have nb : ∀ a K : Nat, a + K ≤ 32 → m_RRef_number (g_Rmedium r) (32 * nI w + nI a) (nI K) = some (numF t.1 (32 * w + a) K) := by
    intro a K h
    rw [n32, pk_mul, nI_add, ← hf]
    exact r_number (by rw [l1]; omega) (by rw [l1]; omega) (by omega)
  have b5 : m_RRef_number (g_Rmedium r) (32 * nI w + 4) 4 = some (numF t.1 (32 * w + 4) 4) := nb 4 4 (by omega)
  have b2 : m_RRef_number (g_Rmedium r) (32 * nI w + 2) 2 = some (lN l) := by rw [← hl]; exact nb 2 2 (by omega)
  have ea : (32 : Int32) * nI w + 1 = nI (32 * w + 1) := by rw [n32, pk_mul, nI_1]
  have ca : (nI (32 * w + 1)).toNatClampNeg = 32 * w + 1 := nI_clamp (by omega)
  have ia : ¬ (nI (32 * w + 1) < 0 ∨ 16384 ≤ 32 * w + 1) := by
    have := nI_in (c := 32 * w + 1) (N := 16384) (by omega) (by omega)
    rw [ca] at this
    exact this
  have bb : m_RRef_bodies (nI l) = some (nI (bod l)) := R_bodies (by omega)
  unfold m_Log_isPartThere m_RRef_partAt
  rw [hm, bs a3, bs b5, bs b2, bs b3, lN_i, ea, ca, l1, hf, hb, bs a4, bs b4, bs a2, bs a3b, bs a5]
  simp only [bb, Option.bind_some, C_isNumber, lN_i]
  by_cases c1 : t.1 (32 * w) &&& 255 = 1
  · rw [if_pos c1, if_pos c1]
    by_cases c2 : sumOk t.1 w = 0
    · right
      rw [if_pos c2, if_pos c2]
      exact ⟨rfl, rfl⟩
    · rw [if_neg c2, if_neg c2, if_neg ia]
      rcases isGroup_cases (nI b) with ⟨z1, -⟩ | ⟨z1, -, -⟩
      · right
        have hb8 : 8 ≤ b := by
          rcases Nat.lt_or_ge b 8 with q | q
          · unfold m_Log_isGroup at z1
            rw [if_neg (nI_pos (by omega)), n8, if_neg (nI_ge q (by omega))] at z1
            exact absurd (Option.some.inj z1) (by decide)
          · exact q
        rw [bs z1, if_pos rfl, n8, if_pos (nI_le hb8 (by omega))]
        exact ⟨rfl, rfl⟩
      · have hb8 : b < 8 := by
          rcases Nat.lt_or_ge b 8 with q | q
          · exact q
          · unfold m_Log_isGroup at z1
            rw [if_neg (nI_pos (by omega)), n8, if_pos (nI_le q (by omega))] at z1
            exact absurd (Option.some.inj z1) (by decide)
        rw [bs z1, if_neg e10, n8, if_neg (nI_ge hb8 (by omega)), n155]
        by_cases c3 : l ≤ 155
        · rw [if_neg (nI_nlt c3 (by omega)), if_neg (nI_nlt c3 (by omega))]
          by_cases c4 : lg_cmp (numF t.1 (32 * w + 4) 4) 1 < 0
          · right
            rw [if_pos c4, if_pos c4, if_pos rfl]
            exact ⟨rfl, rfl⟩
          · rw [if_neg c4, if_neg c4]
            by_cases c5 : 0 < lg_cmp (numF t.1 (32 * w + 4) 4) 1000000000
            · right
              rw [if_pos c5, if_pos c5, if_pos rfl]
              exact ⟨rfl, rfl⟩
            · have hrw : m_Medium_rows (mk3 n t) = some (nI n) := rfl
              have e1 : (1 : Int32) + nI (bod l) = nI (1 + bod l) := by rw [n1, nI_add]
              rw [if_neg c5, if_neg c5, if_neg e10, bs (C_rowsOfPart (by omega)), bs hrw, show g_Rrows r = nI n from ri_rows hR, e1, nI_add]
              by_cases c6 : w + 1 + bod l ≤ n
              · left
                rw [if_neg (nI_nlt (by omega) (by omega)), if_neg (nI_nlt (by omega) (by omega))]
                exact ⟨⟨hb8, c3, c4, c5, c6⟩, rfl, rfl⟩
              · right
                rw [if_pos (nI_lt (by omega) (by omega)), if_pos (nI_lt (by omega) (by omega))]
                exact ⟨rfl, rfl⟩
        · right
          rw [if_pos (nI_lt (by omega) (by omega)), if_pos (nI_lt (by omega) (by omega))]
          exact ⟨rfl, rfl⟩
  · right
    rw [if_neg c1, if_neg c1]
    exact ⟨rfl, rfl⟩
def entA (w i : Nat) : Nat := 32 * (w + 1 + i / 2) + (1 + 14 * (i % 2))
def risF (f : Nat → Int32) (w : Nat) : Nat → Nat → Int64 → Bool
  | 0, _, _ => true
  | d + 1, i, b => if lg_cmp (numF f (entA w i) 4) b ≤ 0 then false else (if 0 < lg_cmp (numF f (entA w i) 4) 1000000000 then false else risF f w d (i + 1) (numF f (entA w i) 4))
theorem R_entryAt {w k : Nat} (hk : k < 2 ^ 20) : m_RRef_entryAt (nI w) (nI k) = some (nI (entA w k)) := by
  unfold m_RRef_entryAt jrem entA
  rw [n1, n2, n14, n32, pk_rem (by omega) (by omega) (by omega), pk_div (by omega) (by omega) (by omega), nI_add, nI_add, pk_mul, pk_mul, nI_add, nI_add, Nat.add_assoc]
theorem C_ent4 {n : Nat} {t : T3} (hn : 4 ≤ n ∧ n ≤ 512) {w c i : Nat} (hi : i < c) (hw : w + 1 + ent c ≤ n) : m_Medium_number (mk3 n t) (nI (w + 1 + i / 2)) (nI (1 + 14 * (i % 2))) 4 = some (numF t.1 (entA w i) 4) := by
  have : i / 2 < ent c := by unfold ent; omega
  exact c_number (mk3_ok hn.1 hn.2 t) (row := w + 1 + i / 2) (i := 1 + 14 * (i % 2)) (K := 4) (by omega) (by omega)
theorem pos_of {x b : Int64} (hb : ¬ b < 0) (h : ¬ lg_cmp x b ≤ 0) : ¬ lg_cmp x 1 < 0 ∧ ¬ x < 0 := by
  have h1 : b < x := by
    rw [lg_cmp_le] at h
    exact Int64.not_le.mp h
  have a1 := Int64.lt_iff_toInt_lt.mp h1
  have a2 : ¬ b.toInt < Int64.toInt 0 := fun e => hb (Int64.lt_iff_toInt_lt.mpr e)
  have a3 : Int64.toInt 0 = 0 := by decide
  have a4 : Int64.toInt 1 = 1 := by decide
  constructor
  · rw [lg_cmp_lt, Int64.lt_iff_toInt_lt]
    omega
  · rw [Int64.lt_iff_toInt_lt]
    omega
theorem C_ris_L {n : Nat} {g : St_Log} {t : T3} (hm : g_medium g = mk3 n t) (hn : 4 ≤ n ∧ n ≤ 512) {w c : Nat} (hc : c ≤ 12) (hw : w + 1 + ent c ≤ n) : ∀ (d fuel i : Nat) (b : Int64), ¬ b < 0 → i + d = c → d < fuel → m_Log_areEntriesRising_L5 g fuel (nI w) (nI c) b (nI i) = some (if risF t.1 w d i b then 1 else 0) := by
  intro d
  induction d with
  | zero =>
    intro fuel i b hb hi hf
    obtain ⟨fu, rfl, -⟩ := fu1 hf
    rw [m_Log_areEntriesRising_L5, if_pos (nI_le (by omega) (by omega))]; rfl
  | succ d ih =>
    intro fuel i b hb hi hf
    obtain ⟨fu, rfl, hf'⟩ := fu1 hf
    rw [m_Log_areEntriesRising_L5, if_neg (nI_ge (by omega) (by omega)), bs (C_entryRow (by omega)), bs (C_entryByte (by omega)), hm, bs (C_ent4 hn (c := c) (by omega) hw), risF, bs (C_isNumber _), nI_1]
    by_cases c1 : lg_cmp (numF t.1 (entA w i) 4) b ≤ 0
    · rw [if_pos c1, if_pos c1]; rfl
    · obtain ⟨p1, p2⟩ := pos_of hb c1
      rw [if_neg c1, if_neg c1, if_neg p1]
      by_cases c2 : 0 < lg_cmp (numF t.1 (entA w i) 4) 1000000000
      · rw [if_pos c2, if_pos rfl, if_pos c2]; rfl
      · rw [if_neg c2, if_neg e10, if_neg c2]
        exact ih fu (i + 1) _ p2 (by omega) (by omega)
theorem R_156z {r : St_Ref} (fu : Nat) (v1 v5 v6 : Int32) (b : Int64) (v10 : Int32) : m_RRef_markAt_L156 r (fu + 1) v1 v5 v6 0 b v10 = some 0 := by
  rw [m_RRef_markAt_L156]
  split
  · exact if_pos rfl
  · rw [if_pos rfl]
    exact if_pos rfl
theorem R_ris_L {n : Nat} {r : St_Ref} {f : Nat → Int32} (hR : RI n r) (hf : (g_Rmedium r).2 = f) {w c : Nat} (hc : c ≤ 12) (hw : w + 1 + ent c ≤ 512) (v6 : Int32) : ∀ (d fuel i : Nat) (b : Int64), i + d = c → d < fuel → m_RRef_markAt_L156 r fuel (nI w) (nI c) v6 1 b (nI i) = some (if risF f w d i b then v6 else 0) := by
  have l1 : (g_Rmedium r).1 = 16384 := (ri_medium hR).1
  intro d
  induction d with
  | zero =>
    intro fuel i b hi hf'
    obtain ⟨fu, rfl, -⟩ := fu1 hf'
    rw [m_RRef_markAt_L156, if_pos (nI_le (by omega) (by omega)), if_neg e10]; rfl
  | succ d ih =>
    intro fuel i b hi hf'
    obtain ⟨fu, rfl, hf''⟩ := fu1 hf'
    obtain ⟨fv, hfv, -⟩ := fu1 (k := 0) (fuel := fu) (by omega)
    have he : i / 2 < ent c := by unfold ent; omega
    have hnum : m_RRef_number (g_Rmedium r) (nI (entA w i)) 4 = some (numF f (entA w i) 4) := by
      rw [← hf]
      exact r_number (x := g_Rmedium r) (a := entA w i) (K := 4) (by rw [l1]; unfold entA; omega) (by rw [l1]; omega) (by omega)
    rw [m_RRef_markAt_L156, if_neg (nI_ge (by omega) (by omega)), if_neg e10, bs (R_entryAt (by omega)), bs hnum, risF, nI_1]
    by_cases c1 : lg_cmp (numF f (entA w i) 4) b ≤ 0
    · rw [if_pos c1, if_pos c1, hfv, R_156z]; rfl
    · rw [if_neg c1, if_neg c1]
      by_cases c2 : 0 < lg_cmp (numF f (entA w i) 4) 1000000000
      · rw [if_pos c2, if_pos c2, hfv, R_156z]; rfl
      · rw [if_neg c2, if_neg c2]
        exact ih fu (i + 1) _ (by omega) (by omega)
def mT (f : Nat → Int32) (n w c : Nat) : Prop := 1 ≤ c ∧ c ≤ 12 ∧ ¬ lg_cmp (numF f (32 * w + 4) 4) 1 < 0 ∧ ¬ 0 < lg_cmp (numF f (32 * w + 4) 4) 1000000000 ∧ w + 1 + ent c ≤ n ∧ risF f w c 0 0 = true
theorem mark_cases {n : Nat} {g : St_Log} {r : St_Ref} {t : T3} (hm : g_medium g = mk3 n t) (hn : 4 ≤ n ∧ n ≤ 512) (hR : RI n r) (hf : (g_Rmedium r).2 = t.1) {w c : Nat} (hw : w < n) (hc0 : c < 256) (hc : t.1 (32 * w + 1) &&& 255 = nI c) : (mT t.1 n w c ∧ m_Log_isMarkThere g (nI w) = some 1 ∧ m_RRef_markAt r (nI w) = some (nI (1 + ent c))) ∨ (m_Log_isMarkThere g (nI w) = some 0 ∧ m_RRef_markAt r (nI w) = some 0) := by
  have hk := mk3_ok hn.1 hn.2 t
  have he : ent c ≤ 128 := by unfold ent; omega
  have l1 : (g_Rmedium r).1 = 16384 := (ri_medium hR).1
  have a3 : m_Medium_at (mk3 n t) (nI w) 0 = some (t.1 (32 * w) &&& 255) := c_at hk (row := w) (i := 0) (by omega) (by omega)
  have a3b : m_Medium_at (mk3 n t) (nI w) 1 = some (nI c) := by rw [← hc]; exact c_at hk (row := w) (i := 1) (by omega) (by omega)
  have a4 : m_Medium_isSumRight (mk3 n t) (nI w) = some (sumOk t.1 w) := c_sum hk (by omega)
  have a5 : m_Medium_number (mk3 n t) (nI w) 4 4 = some (numF t.1 (32 * w + 4) 4) := c_number hk (by omega) (i := 4) (K := 4) (by omega)
  have a8 : m_Medium_number (mk3 n t) (nI w) 8 8 = some (numF t.1 (32 * w + 8) 8) := c_number hk (by omega) (i := 8) (K := 8) (by omega)
  have b3 : m_RRef_kind r (nI w) = some (t.1 (32 * w) &&& 255) := by rw [← hf]; exact r_kind l1 (by omega)
  have b4 : m_RRef_isSummed r (nI w) = some (sumOk t.1 w) := by rw [← hf]; exact r_sum l1 (by omega)
  have nb : ∀ a K : Nat, a + K ≤ 32 → m_RRef_number (g_Rmedium r) (32 * nI w + nI a) (nI K) = some (numF t.1 (32 * w + a) K) := by
    intro a K h
    rw [n32, pk_mul, nI_add, ← hf]
    exact r_number (by rw [l1]; omega) (by rw [l1]; omega) (by omega)
  have b5 : m_RRef_number (g_Rmedium r) (32 * nI w + 4) 4 = some (numF t.1 (32 * w + 4) 4) := nb 4 4 (by omega)
  have b8 : m_RRef_number (g_Rmedium r) (32 * nI w + 8) 8 = some (numF t.1 (32 * w + 8) 8) := nb 8 8 (by omega)
  have ea : (32 : Int32) * nI w + 1 = nI (32 * w + 1) := by rw [n32, pk_mul, nI_1]
  have ca : (nI (32 * w + 1)).toNatClampNeg = 32 * w + 1 := nI_clamp (by omega)
  have ia : ¬ (nI (32 * w + 1) < 0 ∨ 16384 ≤ 32 * w + 1) := by
    have := nI_in (c := 32 * w + 1) (N := 16384) (by omega) (by omega)
    rw [ca] at this
    exact this
  obtain ⟨fv, hfv, -⟩ := fu1 (k := 0) (fuel := FU) (FU_lt (by omega))
  have zz : ∀ v6 : Int32, m_RRef_markAt_L156 r FU (nI w) (nI c) v6 0 0 0 = some 0 := fun v6 => by rw [hfv]; exact R_156z _ _ _ _ _ _
  have en : m_RRef_entries (nI c) = some (nI (ent c)) := R_entries (by omega)
  unfold m_Log_isMarkThere m_RRef_markAt
  rw [hm, bs a3, bs b5, ea, ca, l1, if_neg ia, hf, hc, bs en, bs b3, bs a4, bs b4, bs a3b, bs a5]
  simp only [zz, en, Option.bind_some, C_isNumber]
  by_cases c1 : t.1 (32 * w) &&& 255 = 2
  · rw [if_pos c1, if_pos c1]
    by_cases c2 : sumOk t.1 w = 0
    · right
      rw [if_pos c2, if_pos c2]
      exact ⟨rfl, rfl⟩
    · rw [if_neg c2, if_neg c2, n1]
      by_cases c3 : c < 1
      · right
        rw [if_pos (nI_lt c3 (by omega)), if_pos (nI_lt c3 (by omega))]
        exact ⟨rfl, rfl⟩
      · rw [if_neg (nI_nlt (by omega) (by omega)), if_neg (nI_nlt (by omega) (by omega)), n12]
        by_cases c4 : c ≤ 12
        · rw [if_neg (nI_nlt c4 (by omega)), if_neg (nI_nlt c4 (by omega)), ← n1]
          by_cases c5 : lg_cmp (numF t.1 (32 * w + 4) 4) 1 < 0
          · right
            rw [if_pos c5, if_pos c5, if_pos rfl]
            exact ⟨rfl, rfl⟩
          · rw [if_neg c5, if_neg c5]
            by_cases c6 : 0 < lg_cmp (numF t.1 (32 * w + 4) 4) 1000000000
            · right
              rw [if_pos c6, if_pos c6, if_pos rfl]
              exact ⟨rfl, rfl⟩
            · have hrw : m_Medium_rows (mk3 n t) = some (nI n) := rfl
              have e1 : (1 : Int32) + nI (ent c) = nI (1 + ent c) := by rw [n1, nI_add]
              rw [if_neg c6, if_neg c6, if_neg e10, bs (C_rowsOfMark (by omega)), bs hrw, show g_Rrows r = nI n from ri_rows hR, e1, nI_add]
              by_cases c7 : w + 1 + ent c ≤ n
              · rw [if_neg (nI_nlt (by omega) (by omega)), if_neg (nI_nlt (by omega) (by omega)), bs a8, bs b8, bs (C_entriesOf (by omega))]
                have dg1 : m_Medium_digest (mk3 n t) (nI w + 1) (nI (ent c)) = some (digF t.1 (32 * w + 32) (32 * ent c)) := by
                  rw [nI_1, c_digest hk (first := w + 1) (count := ent c) (by omega)]
                  rw [show 32 * (w + 1) = 32 * w + 32 by omega]; rfl
                have dg2 : m_RRef_digest (g_Rmedium r) (32 * nI w + 32) (32 * nI (ent c)) = some (digF t.1 (32 * w + 32) (32 * ent c)) := by
                  rw [n32, pk_mul, pk_mul, nI_add, ← hf]
                  exact r_digest (by rw [l1]; omega) (by rw [l1]; omega) (by omega)
                have rs1 : m_Log_areEntriesRising g (nI w) (nI c) = some (if risF t.1 w c 0 0 then 1 else 0) := C_ris_L hm hn c4 c7 c FU 0 0 (by decide) (by omega) (FU_lt (by omega))
                have rs2 : m_RRef_markAt_L156 r FU (nI w) (nI c) (nI (1 + ent c)) 1 0 0 = some (if risF t.1 w c 0 0 then nI (1 + ent c) else 0) := R_ris_L hR hf c4 (by omega) (nI (1 + ent c)) c FU 0 0 (by omega) (FU_lt (by omega))
                rw [bs dg1, bs dg2, bs rs1, rs2]
                by_cases c8 : lg_cmp (numF t.1 (32 * w + 8) 8) (digF t.1 (32 * w + 32) (32 * ent c)) = 0
                · rw [if_pos c8, if_pos c8]
                  cases c9 : risF t.1 w c 0 0 with
                  | true =>
                    left
                    exact ⟨⟨by omega, c4, c5, c6, c7, c9⟩, rfl, rfl⟩
                  | false =>
                    right
                    exact ⟨rfl, rfl⟩
                · right
                  rw [if_neg c8, if_neg c8]
                  exact ⟨rfl, rfl⟩
              · right
                rw [if_pos (nI_lt (by omega) (by omega)), if_pos (nI_lt (by omega) (by omega))]
                exact ⟨rfl, rfl⟩
        · right
          rw [if_pos (nI_lt (by omega) (by omega)), if_pos (nI_lt (by omega) (by omega))]
          exact ⟨rfl, rfl⟩
  · right
    rw [if_neg c1, if_neg c1]
    exact ⟨rfl, rfl⟩
