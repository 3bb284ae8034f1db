def badK (f : Nat → Int32) (m : MKQ) : Bool := decide (m.2.2.1 ≠ (-1)) && badM f m
theorem R_b14 {n : Nat} {r : St_Ref} {f : Nat → Int32} {L : List MKQ} (hR : RI n r) (hf : (g_Rmedium r).2 = f) (hn : n ≤ 512) (hM : MR r L) (hfit : ∀ m, m ∈ L → FitK n m ∨ FitM m) : ∀ (d fuel k m : Nat), k + d = L.length → d < fuel → m ≤ n → ∃ m', m' ≤ n ∧ m_RRef_badAt_L14 r fuel (rl n m) (nI k) = m_RRef_badAt_L84 r FU (rl n m') 0 ∧ Lst (badK f) rowM (lst (fun j => qrow r (k + j)) d) m m' := by
  have hl := hM.2.1
  have hm := hM.1
  have lr : (g_RmRow r).1 = 270 := ri_mRow hR
  intro d
  induction d with
  | zero =>
    intro fuel k m hk hf' hmn
    obtain ⟨fu, rfl, -⟩ := fu1 hf'
    refine ⟨m, hmn, ?_, Lst_nil _ _ _⟩
    rw [m_RRef_badAt_L14, hm, if_pos (nI_le (by omega) (by omega))]
  | succ d ih =>
    intro fuel k m hk hf' hmn
    obtain ⟨fu, rfl, hf''⟩ := fu1 hf'
    have hkl : k < L.length := by omega
    have ck : (nI k).toNatClampNeg = k := nI_clamp (by omega)
    have k0 : ¬ (nI k < 0 ∨ 270 ≤ k) := by
      have := nI_in (c := k) (N := 270) (by omega) (by omega)
      rw [ck] at this
      exact this
    have e : (fun j => qrow r (k + (j + 1))) = fun j => qrow r (k + 1 + j) := funext fun j => by rw [show k + (j + 1) = k + 1 + j by omega]
    rw [m_RRef_badAt_L14, hm, if_neg (nI_ge (by omega) (by omega)), lr, ck, if_neg k0, lst_cons, e, nI_1]
    show ∃ m', _ ∧ _ ∧ Lst (badK f) rowM (qrow r k :: _) m m'
    rcases hfit _ (MR_mem hM hkl) with hK | hMd
    · obtain ⟨_, c, w, _, _, _, p4, p5, p6, p7, p8, p9⟩ := hK
      have a2 := R_isAsFound hR hf hn (k := k) (by omega) p4 p6 p7 p9
      have er : (g_RmRow r).2 k = nI w := p7
      have hrow : rowM (qrow r k) = w := by unfold rowM; rw [p7, nI_clamp (by omega)]
      have hbd : badK f (qrow r k) = true ↔ foundK f (qrow r k).1 c w (qrow r k).2.2.2.1 = 0 := by
        unfold badK badM
        rw [p4, p7, nI_clamp (by omega), nI_clamp (by omega), Bool.and_eq_true, decide_eq_true_eq, decide_eq_true_eq]
        exact ⟨fun z => z.2, fun z => ⟨nI_m1 (by omega), z⟩⟩
      have hwn : ¬ n ≤ w := by omega
      rw [er, if_neg (nI_m1 (by omega)), bs a2]
      by_cases z2 : foundK f (qrow r k).1 c w (qrow r k).2.2.2.1 = 0
      · rw [if_pos z2]
        by_cases z1 : m ≤ w
        · obtain ⟨m', b0, b1, b2⟩ := ih fu (k + 1) m (by omega) (by omega) hmn
          have hm1 : rl n m = nI m := by unfold rl; rw [if_neg (by omega)]
          refine ⟨m', b0, ?_, Lst_cons (by rw [hrow, if_neg (fun z => absurd z.2 (by omega))]) b2⟩
          rw [hm1] at b1
          rw [hm1, if_neg (nI_m1 (by omega)), if_neg k0, if_pos (nI_le z1 (by omega))]
          exact b1
        · obtain ⟨m', b0, b1, b2⟩ := ih fu (k + 1) w (by omega) (by omega) (by omega)
          refine ⟨m', b0, ?_, Lst_cons (by rw [hrow, if_pos ⟨hbd.mpr z2, by omega⟩]) b2⟩
          have hw1 : rl n w = nI w := by unfold rl; rw [if_neg hwn]
          rw [hw1] at b1
          by_cases zz : n ≤ m
          · rw [show rl n m = (-1) by unfold rl; rw [if_pos zz], if_pos rfl, if_neg k0]
            exact b1
          · have hm1 : rl n m = nI m := by unfold rl; rw [if_neg zz]
            rw [hm1, if_neg (nI_m1 (by omega)), if_neg k0, if_neg (nI_ge (by omega) (by omega)), if_neg k0]
            exact b1
      · obtain ⟨m', b0, b1, b2⟩ := ih fu (k + 1) m (by omega) (by omega) hmn
        refine ⟨m', b0, by rw [if_neg z2]; exact b1, Lst_cons ?_ b2⟩
        rw [if_neg (fun z => z2 (hbd.mp z.1))]
    · obtain ⟨_, _, _, _, _, _, _, _, p7, _⟩ := hMd
      have er : (g_RmRow r).2 k = (-1) := p7
      obtain ⟨m', b0, b1, b2⟩ := ih fu (k + 1) m (by omega) (by omega) hmn
      refine ⟨m', b0, by rw [if_pos er]; exact b1, Lst_cons ?_ b2⟩
      rw [if_neg]
      intro z
      have := z.1
      unfold badK at this
      rw [Bool.and_eq_true, decide_eq_true_eq] at this
      exact this.1 p7
theorem C_b12s {n : Nat} {g : St_Log} {t : T3} (hm : g_medium g = mk3 n t) (hn : 4 ≤ n ∧ n ≤ 512) (hb : ∀ j, By (t.1 j)) (fu : Nat) {w : Nat} (hw : w < 2) : m_Log_badAt_L12 g (fu + 1) (nI w) = if badH t.1 w then some (nI w) else m_Log_badAt_L12 g fu (nI (w + 1)) := by
  have k1 := C_isClear (x := mk3 n t) (mk3_ok hn.1 hn.2 t) hb (w := w) (by omega)
  have k2 := C_isGoodHead hm hn (w := w) (by omega)
  rw [m_Log_badAt_L12, if_neg (show ¬ (2 : Int32) ≤ nI w by rw [n2]; exact nI_ge (by omega) (by omega)), hm, bs k1, nI_1]
  show (if (if clrS t.1 32 (32 * w) = true then (1 : Int32) else 0) = 0 then _ else _) = _
  unfold badH
  cases hc : clrS t.1 32 (32 * w) with
  | true => rfl
  | false =>
    show ((m_Log_isGoodHead g (nI w)).bind fun q22 => if q22 = 0 then some (nI w) else m_Log_badAt_L12 g fu (nI (w + 1))) = _
    rw [bs k2]
    by_cases z : goodH t.1 w = 0
    · rw [if_pos z, if_pos (show (!false && decide (goodH t.1 w = 0)) = true by rw [decide_eq_true z]; rfl)]
    · rw [if_neg z, if_neg (show ¬ (!false && decide (goodH t.1 w = 0)) = true by rw [decide_eq_false z]; decide)]
theorem st_badAt {n : Nat} {g : St_Log} {r : St_Ref} (h : Rel n g r) : ∃ a, m_Log_badAt g = some a ∧ m_RRef_badAt r = some a := by
  obtain ⟨⟨hn, hC, hR, ht, ho, hts⟩, hT⟩ := id h
  unfold m_Log_badAt m_RRef_badAt
  by_cases hop : g_isOpen g = 0
  · exact ⟨-3, by rw [if_pos hop], by rw [if_pos (by rw [← ho]; exact hop)]⟩
  · have ho1 := open_1 hC hop
    have hop' : ¬ g_Ropen r = 0 := by rw [← ho]; exact hop
    obtain ⟨lp, lk, lm, L, GP, GM, hTC, hTR, hL, hA, hN, hH⟩ := hT ho1
    rw [if_neg hop, if_neg hop']
    obtain ⟨t, htd⟩ : ∃ t, t = tri (g_medium g) := ⟨_, rfl⟩
    have hmk : g_medium g = mk3 n t := by rw [htd]; exact g_mk3 hC
    have hby : ∀ k, By (t.1 k) := by rw [htd]; exact (ci_medium hC).2.2
    have htf : (g_Rmedium r).2 = t.1 := by rw [htd, ht]; rfl
    have hPn := hTC.1.1.2.2
    have hKn := hTC.2.1.1.1.2.2.1
    have hlp := hTR.1.1.2.2
    have hL2 := hTR.2.2.1
    have hfK : ∀ m, m ∈ L → FitK n m ∨ FitM m := by
      intro m hm
      rcases List.mem_append.mp (hL.mem_iff.mp hm) with z | z
      · exact Or.inl (hA.2.1 _ z).1
      · exact Or.inr (hA.2.2.1 _ z).1
    obtain ⟨m1, a1, a2⟩ := C_b54 hmk hn hTC.1 (fun q hq => (hA.1 q hq).1) lp.length FU 0 n (by omega) (FU_lt (by omega)) (Nat.le_refl _)
    have hm1 : m1 ≤ n := a2.1
    obtain ⟨m2, a3, a4⟩ := C_b102 hmk hn hTC.2.1 (fun m hm => (hA.2.1 m hm).1) lk.length FU 0 m1 (by omega) (FU_lt (by omega)) hm1
    obtain ⟨r1, b0, b1, b2⟩ := R_b14 hR htf hn.2 hTR.2 hfK L.length FU 0 n (by omega) (FU_lt (by omega)) (Nat.le_refl _)
    obtain ⟨r2, c0, c1, c2⟩ := R_b84 hR htf hn.2 hTR.1 (fun q hq => (hA.1 q hq).1) lp.length FU 0 r1 (by omega) (FU_lt (by omega)) b0
    have hd := R_b134 hR htf (rl n r2)
    have z0 : ∀ {α : Type} (f : Nat → α) (P : Nat), lst (fun j => f (0 + j)) P = lst f P := fun f P => lst_congr (fun j _ => by rw [Nat.zero_add])
    rw [z0, hTC.1.2] at a2
    rw [z0, hTC.2.1.2] at a4
    rw [z0, hTR.2.2.2.1] at b2
    rw [z0] at c2
    have hbK : ∀ m, m ∈ lk → (badK t.1 m = true ↔ badM t.1 m = true) := by
      intro m hm
      obtain ⟨_, _, w, _, _, _, _, _, _, p7, _, p9⟩ := (hA.2.1 _ hm).1
      unfold badK
      rw [Bool.and_eq_true, decide_eq_true_eq]
      exact ⟨fun z => z.2, fun z => ⟨by rw [p7]; exact nI_m1 (by omega), z⟩⟩
    have hbL : ∀ m, m ∈ L → badK t.1 m = true → m ∈ lk := by
      intro m hm hb
      rcases List.mem_append.mp (hL.mem_iff.mp hm) with z | z
      · exact z
      · obtain ⟨_, _, _, _, _, _, _, _, p7, _⟩ := (hA.2.2.1 _ z).1
        unfold badK at hb
        rw [Bool.and_eq_true, decide_eq_true_eq] at hb
        exact absurd p7 hb.1
    have hPm : ∀ q, q ∈ lst (rrow r) lp.length ↔ q ∈ lp := fun q => by
      rw [mem_lst]
      exact (hTR.1.2.1 q).symm
    have e1 : m2 ≤ r2 := by
      rcases c2.2.1 with e | ⟨q, hq, hb, e⟩
      · rcases b2.2.1 with e' | ⟨m, hm, hb, e'⟩
        · have := a4.1
          omega
        · have := a4.2.2 m (hbL m hm hb) ((hbK m (hbL m hm hb)).mp hb)
          omega
      · have := a2.2.2 q ((hPm q).mp hq) hb
        have := a4.1
        omega
    have e2 : r2 ≤ m2 := by
      rcases a4.2.1 with e | ⟨m, hm, hb, e⟩
      · rcases a2.2.1 with e' | ⟨q, hq, hb, e'⟩
        · omega
        · have := c2.2.2 q ((hPm q).mpr hq) hb
          omega
      · have := b2.2.2 m (hL.mem_iff.mpr (List.mem_append.mpr (Or.inl hm))) ((hbK m hm).mpr hb)
        have := c2.1
        omega
    have e3 : m2 = r2 := by omega
    obtain ⟨f1, g1, -⟩ := fu1 (k := 3) (fuel := FU) (FU_lt (by omega))
    obtain ⟨f2, g2, -⟩ := fu1 (k := 1) (fuel := f1) (by have := FU_ge; omega)
    obtain ⟨f3, g3, -⟩ := fu1 (k := 0) (fuel := f2) (by have := FU_ge; omega)
    have hrw : m_Medium_rows (g_medium g) = some (nI n) := by rw [hmk]; rfl
    have run : m_Log_badAt_L12 g FU 0 = some (if badH t.1 0 then 0 else (if badH t.1 1 then 1 else rl n r2)) := by
      rw [g1]
      refine Eq.trans (C_b12s hmk hn hby f1 (w := 0) (by omega)) ?_
      by_cases y0 : badH t.1 0 = true
      · rw [if_pos y0, if_pos y0]; rfl
      · rw [if_neg y0, if_neg y0, g2]
        refine Eq.trans (C_b12s hmk hn hby f2 (w := 1) (by omega)) ?_
        by_cases y1 : badH t.1 1 = true
        · rw [if_pos y1, if_pos y1]; rfl
        · rw [if_neg y1, if_neg y1, g3, m_Log_badAt_L12, if_pos (show (2 : Int32) ≤ nI (1 + 1) by decide), bs hrw]
          refine Eq.trans (show m_Log_badAt_L54 g FU (nI n) 0 = _ from a1) ?_
          refine Eq.trans (show m_Log_badAt_L102 g FU (nI m1) 0 = _ from a3) ?_
          rw [e3]
          unfold rl
          split <;> rfl
    refine ⟨_, run, ?_⟩
    have e4 : rl n n = (-1) := by unfold rl; rw [if_pos (Nat.le_refl _)]
    rw [e4] at b1
    refine Eq.trans (show m_RRef_badAt_L14 r FU (-1) 0 = _ from b1) ?_
    refine Eq.trans (show m_RRef_badAt_L84 r FU (rl n r1) 0 = _ from c1) ?_
    exact hd
