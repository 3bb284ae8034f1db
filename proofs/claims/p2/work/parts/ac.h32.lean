-- DROPPING: rows taken back on both sides
theorem BT_free {n : Nat} {x : St_Room} {l : List (Nat × Nat)} {a c : Nat} (h : BT n x ((a, c) :: l)) (hd : DJ n ((a, c) :: l)) : BT n (n, setF x.2 a c 0) l := by
  refine ⟨rfl, fun r h1 h2 => ?_⟩
  show (if a ≤ r ∧ r < a + c then 0 else x.2 r) = 0 ↔ _
  by_cases hr : a ≤ r ∧ r < a + c
  · rw [if_pos hr]
    have hz : cov l r = 0 := by
      have := cov_le hd r
      rw [cov_cons, if_pos (show (a, c).1 ≤ r ∧ r < (a, c).1 + (a, c).2 from hr)] at this
      omega
    exact ⟨fun _ => hz, fun _ => rfl⟩
  · rw [if_neg hr]
    have := h.2 r h1 h2
    rw [cov_cons, if_neg (show ¬ ((a, c).1 ≤ r ∧ r < (a, c).1 + (a, c).2) from hr), Nat.zero_add] at this
    exact this
/-- the class's side of taking back -/
def TbC (n : Nat) (g g' : St_Log) (q : Int32 × T3) : Prop := CI n g' ∧ g_medium g' = mk3 n q.2 ∧ g_isOpen g' = q.1 ∧ g_parts g' = g_parts g ∧ g_kept g' = g_kept g ∧ g_made g' = g_made g ∧ g_tape g' = g_tape g ∧ g_owners g' = g_owners g ∧ g_serial g' = g_serial g ∧ g_greatestPart g' = g_greatestPart g ∧ g_greatestMark g' = g_greatestMark g
def TbR (n : Nat) (r r' : St_Ref) (q : Int32 × T3) : Prop := RI n r' ∧ rtri r' = q.2 ∧ (q.1 = 0 → g_Ropen r' = 0) ∧ (q.1 = 1 → g_Ropen r' = g_Ropen r) ∧ fTap r' = fTap r ∧ fPar r' = fPar r ∧ fMrk r' = fMrk r ∧ fHd r' = fHd r ∧ fLs r' = fLs r
theorem tb_both {n : Nat} {t : T3} {g : St_Log} {r : St_Ref} (hn : 4 ≤ n ∧ n ≤ 512) (hC : CI n g) (hR : RI n r) (hm : g_medium g = mk3 n t) (htr : rtri r = t) (ho : g_isOpen g = 1) {w k : Nat} (hw : w + k ≤ n) : ∃ q : Int32 × T3, (q.1 = 0 ∨ q.1 = 1) ∧ ∃ g' r', m_Log_takeBack g (nI w) (nI k) = some (q.1, g') ∧ m_RRef_takeBack r (nI w) (nI k) = some (q.1, r') ∧ TbC n g g' q ∧ g_room g' = (n, setF (g_room g).2 w k 0) ∧ TbR n r r' q := by
  have hpw : Pw t.2.1 := by rw [← htr]; exact ri_cutIn hR
  have hby : ∀ j, By (t.1 j) := by rw [← htr]; exact (ri_medium hR).2
  have hfr := C_free (x := g_room g) (n := n) (a := w) (c := k) (ci_room hC).1 hn.2 hw
  have c1 := C_takeBack (n := n) (g := g) (t := t) hm ho hn.1 hn.2 (row := w) (count := k) hw hfr hpw
  have c2 := R_takeBack (g := r) (ri_draft hR) (ri_medium hR).1 (row := w) (count := k) (by omega) (ri_cutIn hR)
  rw [htr] at c2
  have q1 := wrZ_ok w k 0 t
  have q2 := wrZ_pw w k 0 t hpw
  have q3 := wrZ_by w k 0 t hby
  obtain ⟨q, hq⟩ : ∃ q, q = wrZ w k 0 t := ⟨_, rfl⟩
  rw [← hq] at c1 c2 q1 q2 q3
  obtain ⟨f1, f2, f3, f4, f5, -, -, -⟩ := fr_rout (s_Rdraft r (256, fun _ => 0)) q
  simp only [qf_Tap, qf_Par, qf_Mrk, qf_Hd, qf_Ls] at f1 f2 f3 f4 f5
  refine ⟨q, q1, _, _, c1, c2, ⟨cs_room (v := (n, setF (g_room g).2 w k 0)) (CI_wi hC hn q1 q2 q3) (kRm_set (ci_room hC).2 (Or.inl rfl)), ?_, ?_, ?_, ?_, ?_, ?_, ?_, ?_, ?_, ?_⟩, ?_, ⟨RI_rout (rs_draft (v := (256, fun _ => 0)) hR ⟨rfl, fun _ _ => rfl⟩) q2 q3, rout_tri _ _, fun e => rout_open0 e, fun e => ?_, f1, f2, f3, f4, f5⟩⟩
  · simp only [wi, q_medium]
  · simp only [wi, q_isOpen]
  · simp only [wi, q_parts]
  · simp only [wi, q_kept]
  · simp only [wi, q_made]
  · simp only [wi, q_tape]
  · simp only [wi, q_owners]
  · simp only [wi, q_serial]
  · simp only [wi, q_greatestPart]
  · simp only [wi, q_greatestMark]
  · simp only [q_room]
  · rw [rout_open1 e]
    simp only [qR_open]
-- the greatest number that a kept MARK names
def lastV (m : MKQ) : Nat := (m.2.2.2.2.getD (m.2.1.toNatClampNeg - 1) 0).toNatClampNeg
def IsMx (l : List MKQ) (a M : Nat) : Prop := a ≤ M ∧ (∀ m, m ∈ l → lastV m ≤ M) ∧ (M = a ∨ ∃ m, m ∈ l ∧ lastV m = M)
theorem IsMx_nil (a : Nat) : IsMx [] a a := ⟨Nat.le_refl _, fun m hm => (by cases hm), Or.inl rfl⟩
theorem IsMx_cons {m : MKQ} {l : List MKQ} {a M : Nat} (h : IsMx l (max a (lastV m)) M) : IsMx (m :: l) a M := by
  obtain ⟨h1, h2, h3⟩ := h
  refine ⟨by omega, fun z hz => ?_, ?_⟩
  · rcases List.mem_cons.mp hz with e | hz
    · rw [e]; omega
    · exact h2 z hz
  · rcases h3 with e | ⟨z, hz, e⟩
    · by_cases hc : a ≤ lastV m
      · exact Or.inr ⟨m, List.mem_cons_self, by omega⟩
      · exact Or.inl (by omega)
    · exact Or.inr ⟨z, List.mem_cons_of_mem _ hz, e⟩
theorem IsMx_un {l l' : List MKQ} {a M M' : Nat} (h : IsMx l a M) (h' : IsMx l' a M') (e : ∀ m, m ∈ l ↔ m ∈ l') : M = M' := by
  obtain ⟨h1, h2, h3⟩ := h
  obtain ⟨k1, k2, k3⟩ := h'
  have a1 : M ≤ M' := by
    rcases h3 with z | ⟨m, hm, z⟩
    · omega
    · have := k2 m ((e m).mp hm); omega
  have a2 : M' ≤ M := by
    rcases k3 with z | ⟨m, hm, z⟩
    · omega
    · have := h2 m ((e m).mpr hm); omega
  omega
theorem lst_getD {α : Type} (f : Nat → α) {P i : Nat} (hi : i < P) (d : α) : (lst f P).getD i d = f i := by
  unfold lst
  simp [List.getD, hi]
/-- the last PART of a MARK: c PARTS, pn gives them -/
theorem last_of {GP : Nat} (hG : GP ≤ 1000000000) {m : MKQ} (h : Ris GP m) {c k : Nat} {pn : Nat → Int32} (hc : m.2.1 = nI c) (hc1 : 1 ≤ c ∧ c ≤ 12) (hl : m.2.2.2.2 = mls (nI c) pn k) : pn (12 * k + (c - 1)) = nI (lastV m) ∧ lastV m ≤ GP ∧ 1 ≤ lastV m := by
  have e1 : m.2.2.2.2.getD (c - 1) 0 = pn (12 * k + (c - 1)) := by
    rw [hl, mls_lst hc1.2, lst_getD _ (by omega)]
  have e2 : lastV m = (pn (12 * k + (c - 1))).toNatClampNeg := by
    unfold lastV
    rw [hc, nI_clamp (by omega), e1]
  obtain ⟨ns, a1, a2, a3, a4, a5, a6⟩ := h
  have hlen : ns.length = c := by
    rw [hc] at a2
    exact ((nI_eq (by omega) (by omega)).mp a2).symm
  have hmem : pn (12 * k + (c - 1)) ∈ m.2.2.2.2 := by
    rw [hl, mls_lst hc1.2]
    exact mem_lst.mpr ⟨c - 1, by omega, rfl⟩
  rw [a1] at hmem
  obtain ⟨x, hx, ex⟩ := List.mem_map.mp hmem
  have := a6 x hx
  rw [e2, ← ex, nI_clamp (by omega)]
  exact ⟨rfl, this.2, this.1⟩
theorem C_gP_L {N : Nat} {x : St_Marks} {l : List MKQ} {n GP : Nat} (hG : GP ≤ 1000000000) (h : MC N x l) (hr : ∀ m, m ∈ l → FitK n m ∧ Ris GP m) : ∀ (d fuel k a : Nat), k + d = l.length → d < fuel → a ≤ 1000000000 → ∃ M, m_Marks_greatestPart_L4 x fuel (nI a) (nI k) = some (nI M) ∧ IsMx (lst (fun j => mrow x (k + j)) d) a M := by
  have hl := h.1.1.2.2.1
  have hN := h.1.1.2.2.2.1
  intro d
  induction d with
  | zero =>
    intro fuel k a hk hf ha
    obtain ⟨fu, rfl, -⟩ := fu1 hf
    exact ⟨a, by rw [m_Marks_greatestPart_L4, h.1.1.2.1, if_pos (nI_le (by omega) (by omega))], IsMx_nil a⟩
  | succ d ih =>
    intro fuel k a hk hf ha
    obtain ⟨fu, rfl, hf'⟩ := fu1 hf
    have hkl : k < l.length := by omega
    obtain ⟨⟨_, c, w, _, _, _, p4, p5, p6, _⟩, hRs⟩ := hr _ (MC_mem h hkl)
    have p4' : x.2.1.2 k = nI c := p4
    obtain ⟨q1, q2, q3⟩ := last_of hG hRs p4 ⟨p5, p6⟩ (k := k) (pn := x.2.2.2.1.2) (by show mls (x.2.1.2 k) _ k = _; rw [p4'])
    have hca := M_countAt h.1.1 hkl
    rw [p4'] at hca
    have hpa := M_partAt h.1.1 hkl p4' p6 (nI (c - 1))
    rw [if_neg (show ¬ (nI (c - 1) < 0 ∨ nI c ≤ nI (c - 1)) from fun e => e.elim (nI_pos (by omega)) (nI_ge (by omega) (by omega))), nI_clamp (by omega), q1] at hpa
    have e : (fun j => mrow x (k + (j + 1))) = fun j => mrow x (k + 1 + j) := funext fun j => by rw [show k + (j + 1) = k + 1 + j by omega]
    obtain ⟨M, z1, z2⟩ := ih fu (k + 1) (max a (lastV (mrow x k))) (by omega) (by omega) (by omega)
    refine ⟨M, ?_, ?_⟩
    · rw [m_Marks_greatestPart_L4, h.1.1.2.1, if_neg (nI_ge (by omega) (by omega)), bs hca, show nI c - 1 = nI (c - 1) by rw [n1, pk_sub (by omega)], bs hpa, jmaxN (by omega) (by omega), nI_1]
      exact z1
    · rw [lst_cons, e]
      exact IsMx_cons z2
def kpB (m : MKQ) : Bool := decide (m.2.2.1 ≠ (-1))
theorem R_d21 {n : Nat} {r : St_Ref} {L : List MKQ} {GP : Nat} (hn : n ≤ 512) (hG : GP ≤ 1000000000) (hR : RI n r) (hM : MR r L) (hr : ∀ m, m ∈ L → (FitK n m ∨ FitM m) ∧ Ris GP m) (v1 : Int32) : ∀ (d fuel k a : Nat), k + d = L.length → d < fuel → a ≤ 1000000000 → ∃ M, m_RRef_drop_L21 fuel r v1 (nI a) (nI k) = m_RRef_drop_L78 FU r v1 (nI M) ∧ IsMx ((lst (fun j => qrow r (k + j)) d).filter kpB) a M := by
  have hl := hM.2.1
  have l1 : (g_RmCount r).1 = 270 := ri_mCount hR
  have l2 : (g_RmPart r).1 = 3240 := ri_mPart hR
  have l3 : (g_RmRow r).1 = 270 := ri_mRow hR
  intro d
  induction d with
  | zero =>
    intro fuel k a hk hf ha
    obtain ⟨fu, rfl, -⟩ := fu1 hf
    exact ⟨a, by rw [m_RRef_drop_L21, hM.1, if_pos (nI_le (by omega) (by omega))], IsMx_nil a⟩
  | succ d ih =>
    intro fuel k a hk hf ha
    obtain ⟨fu, rfl, hf'⟩ := fu1 hf
    have hkl : k < L.length := by omega
    obtain ⟨hfit, hRs⟩ := hr _ (MR_mem hM hkl)
    obtain ⟨c, p5, p6, p4⟩ := hM.2.2.2 _ (MR_mem hM hkl)
    have p4' : (g_RmCount r).2 k = nI c := p4
    obtain ⟨q1, q2, q3⟩ := last_of hG hRs p4 ⟨p5, p6⟩ (k := k) (pn := (g_RmPart r).2) (by show mls ((g_RmCount r).2 k) _ k = _; rw [p4'])
    have ck : (nI k).toNatClampNeg = k := nI_clamp (by omega)
    have k0 : ¬ (nI k < 0 ∨ 270 ≤ k) := by
      have := nI_in (c := k) (N := 270) (by omega) (by omega)
      rw [ck] at this
      exact this
    have ex : (12 : Int32) * nI k + nI c - 1 = nI (12 * k + (c - 1)) := by
      rw [n12, pk_mul, nI_add, n1, pk_sub (by omega), show 12 * k + c - 1 = 12 * k + (c - 1) by omega]
    have cx : (nI (12 * k + (c - 1))).toNatClampNeg = 12 * k + (c - 1) := nI_clamp (by omega)
    have x0 : ¬ (nI (12 * k + (c - 1)) < 0 ∨ 3240 ≤ 12 * k + (c - 1)) := by
      have := nI_in (c := 12 * k + (c - 1)) (N := 3240) (by omega) (by omega)
      rw [cx] at this
      exact this
    have e : (fun j => qrow r (k + (j + 1))) = fun j => qrow r (k + 1 + j) := funext fun j => by rw [show k + (j + 1) = k + 1 + j by omega]
    have run : m_RRef_drop_L21 (fu + 1) r v1 (nI a) (nI k) = if (g_RmRow r).2 k = (-1) then m_RRef_drop_L21 fu r v1 (nI a) (nI (k + 1)) else (if nI (lastV (qrow r k)) ≤ nI a then m_RRef_drop_L21 fu r v1 (nI a) (nI (k + 1)) else m_RRef_drop_L21 fu r v1 (nI (lastV (qrow r k))) (nI (k + 1))) := by
      rw [m_RRef_drop_L21, hM.1, if_neg (nI_ge (by omega) (by omega)), l1, l2, l3, ck, if_neg k0, p4', ex, cx, if_neg x0, if_neg k0, q1, nI_1]
    rw [run, lst_cons, e]
    show ∃ M, _ ∧ IsMx (((qrow r k) :: lst (fun j => qrow r (k + 1 + j)) d).filter kpB) a M
    by_cases z1 : (g_RmRow r).2 k = (-1)
    · have hb : kpB (qrow r k) = false := by
        unfold kpB
        rw [decide_eq_false_iff_not]
        exact fun z => z z1
      obtain ⟨M, y1, y2⟩ := ih fu (k + 1) a (by omega) (by omega) ha
      refine ⟨M, by rw [if_pos z1]; exact y1, ?_⟩
      rw [List.filter_cons_of_neg (by rw [hb]; decide)]
      exact y2
    · have hb : kpB (qrow r k) = true := by
        unfold kpB
        rw [decide_eq_true_eq]
        exact z1
      rw [if_neg z1, List.filter_cons_of_pos hb]
      by_cases z2 : lastV (qrow r k) ≤ a
      · obtain ⟨M, y1, y2⟩ := ih fu (k + 1) a (by omega) (by omega) ha
        refine ⟨M, by rw [if_pos (nI_le z2 (by omega))]; exact y1, IsMx_cons (by rw [Nat.max_eq_left z2]; exact y2)⟩
      · obtain ⟨M, y1, y2⟩ := ih fu (k + 1) (lastV (qrow r k)) (by omega) (by omega) (by omega)
        refine ⟨M, by rw [if_neg (nI_ge (by omega) (by omega))]; exact y1, IsMx_cons (by rw [Nat.max_eq_right (by omega)]; exact y2)⟩
-- the oldest kept MARK
theorem R_old_L {n : Nat} {r : St_Ref} {L : List MKQ} (hR : RI n r) (hM : MR r L) : ∀ (d fuel k : Nat) (o : Option Nat), k + d = L.length → d < fuel → (∀ i, o = some i → i < L.length ∧ (qrow r i).2.2.1 ≠ (-1)) → ∃ o', m_RRef_oldest_L4 r fuel (rv o) (nI k) = some (rv o') ∧ (∀ i, o' = some i → i < L.length ∧ (qrow r i).2.2.1 ≠ (-1)) ∧ (∀ i, o = some i → ∃ i', o' = some i' ∧ (qrow r i').1 ≤ (qrow r i).1) ∧ ∀ j, k ≤ j → j < L.length → (qrow r j).2.2.1 ≠ (-1) → ∃ i', o' = some i' ∧ (qrow r i').1 ≤ (qrow r j).1 := by
  have hl := hM.2.1
  have l3 : (g_RmRow r).1 = 270 := ri_mRow hR
  have l4 : (g_RmNumber r).1 = 270 := ri_mNumber hR
  intro d
  induction d with
  | zero =>
    intro fuel k o hk hf ho
    obtain ⟨fu, rfl, -⟩ := fu1 hf
    refine ⟨o, ?_, ho, fun i e => ⟨i, e, Int32.le_refl _⟩, fun j h1 h2 => absurd h2 (by omega)⟩
    rw [m_RRef_oldest_L4, hM.1, if_pos (nI_le (by omega) (by omega))]
  | succ d ih =>
    intro fuel k o hk hf ho
    obtain ⟨fu, rfl, hf'⟩ := fu1 hf
    have ck : (nI k).toNatClampNeg = k := nI_clamp (by omega)
    have k0 : ¬ (nI k < 0 ∨ 270 ≤ k) := by
      have := nI_in (c := k) (N := 270) (by omega) (by omega)
      rw [ck] at this
      exact this
    rw [m_RRef_oldest_L4, hM.1, if_neg (nI_ge (by omega) (by omega)), l3, l4, ck, if_neg k0, nI_1]
    by_cases z1 : (g_RmRow r).2 k = (-1)
    · rw [if_pos z1]
      obtain ⟨o', y1, y2, y3, y4⟩ := ih fu (k + 1) o (by omega) (by omega) ho
      refine ⟨o', y1, y2, y3, fun j j1 j2 j3 => ?_⟩
      by_cases hj : j = k
      · rw [hj] at j3; exact absurd z1 j3
      · exact y4 j (by omega) j2 j3
    · rw [if_neg z1]
      have take : ∃ o', m_RRef_oldest_L4 r fu (nI k) (nI (k + 1)) = some (rv o') ∧ (∀ i, o' = some i → i < L.length ∧ (qrow r i).2.2.1 ≠ (-1)) ∧ ∃ i', o' = some i' ∧ (qrow r i').1 ≤ (qrow r k).1 ∧ ∀ j, k + 1 ≤ j → j < L.length → (qrow r j).2.2.1 ≠ (-1) → (qrow r i').1 ≤ (qrow r j).1 := by
        obtain ⟨o', y1, y2, y3, y4⟩ := ih fu (k + 1) (some k) (by omega) (by omega) (fun i e => by
          have : k = i := Option.some.inj e
          subst this
          exact ⟨by omega, z1⟩)
        obtain ⟨i', e1, e2⟩ := y3 k rfl
        refine ⟨o', y1, y2, i', e1, e2, fun j j1 j2 j3 => ?_⟩
        obtain ⟨i2, e3, e4⟩ := y4 j j1 j2 j3
        rw [e1] at e3
        have : i' = i2 := Option.some.inj e3
        rw [this]; exact e4
      cases o with
      | none =>
        obtain ⟨o', y1, y2, i', y3, y4, y5⟩ := take
        refine ⟨o', ?_, y2, fun i e => (by cases e), fun j j1 j2 j3 => ?_⟩
        · refine Eq.trans (if_pos (show rv none = (-1) from rfl)) ?_
          exact y1
        · by_cases hj : j = k
          · rw [hj]; exact ⟨i', y3, y4⟩
          · exact ⟨i', y3, y5 j (by omega) j2 j3⟩
      | some i0 =>
        obtain ⟨hi1, hi2⟩ := ho i0 rfl
        have ci : (nI i0).toNatClampNeg = i0 := nI_clamp (by omega)
        have i00 : ¬ (nI i0 < 0 ∨ 270 ≤ i0) := by
          have := nI_in (c := i0) (N := 270) (by omega) (by omega)
          rw [ci] at this
          exact this
        have hne : ¬ rv (some i0) = (-1) := nI_m1 (by omega)
        rw [if_neg hne, if_neg k0, show rv (some i0) = nI i0 from rfl, ci, if_neg i00]
        by_cases z2 : (g_RmNumber r).2 i0 ≤ (g_RmNumber r).2 k
        · rw [if_pos z2]
          obtain ⟨o', y1, y2, y3, y4⟩ := ih fu (k + 1) (some i0) (by omega) (by omega) ho
          refine ⟨o', y1, y2, y3, fun j j1 j2 j3 => ?_⟩
          by_cases hj : j = k
          · obtain ⟨i', e1, e2⟩ := y3 i0 rfl
            rw [hj]
            exact ⟨i', e1, Int32.le_trans e2 z2⟩
          · exact y4 j (by omega) j2 j3
        · rw [if_neg z2]
          obtain ⟨o', y1, y2, i', y3, y4, y5⟩ := take
          refine ⟨o', y1, y2, fun i e => ?_, fun j j1 j2 j3 => ?_⟩
          · have : i0 = i := Option.some.inj e
            subst this
            exact ⟨i', y3, Int32.le_trans y4 (Int32.le_of_lt (Int32.not_le.mp z2))⟩
          · by_cases hj : j = k
            · rw [hj]; exact ⟨i', y3, y4⟩
            · exact ⟨i', y3, y5 j (by omega) j2 j3⟩
