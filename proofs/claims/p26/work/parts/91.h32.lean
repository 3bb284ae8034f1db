-- DROPPING: rows taken back on both sides
theorem BT_free {n : Nat} {x : St_Room} {l : List (Nat × Nat)} {a c : Nat} (h : BT n x ((a, c) :: l)) (hd : DJ n ((a, c) :: l)) : BT n (n, setF x.2 a c 0) l := by
  refine ⟨rfl, fun r h1 h2 => ?_⟩
  show (if a ≤ r ∧ r < a + c then 0 else x.2 r) = 0 ↔ _
  by_cases hr : a ≤ r ∧ r < a + c
  · rw [if_pos hr]
    have hz : cov l r = 0 := by
      have := cov_le hd r
      rw [cov_cons, if_pos (show (a, c).1 ≤ r ∧ r < (a, c).1 + (a, c).2 from hr)] at this
      omega
    exact ⟨fun _ => hz, fun _ => rfl⟩
  · rw [if_neg hr]
    have := h.2 r h1 h2
    rw [cov_cons, if_neg (show ¬ ((a, c).1 ≤ r ∧ r < (a, c).1 + (a, c).2) from hr), Nat.zero_add] at this
    exact this
/-- the class's side of taking back -/
def TbC (n : Nat) (g g' : St_Log) (q : Int32 × T3) : Prop := CI n g' ∧ g_medium g' = mk3 n q.2 ∧ g_isOpen g' = q.1 ∧ g_parts g' = g_parts g ∧ g_kept g' = g_kept g ∧ g_made g' = g_made g ∧ g_tape g' = g_tape g ∧ g_owners g' = g_owners g ∧ g_serial g' = g_serial g ∧ g_greatestPart g' = g_greatestPart g ∧ g_greatestMark g' = g_greatestMark g
def TbR (n : Nat) (r r' : St_Ref) (q : Int32 × T3) : Prop := RI n r' ∧ rtri r' = q.2 ∧ (q.1 = 0 → g_Ropen r' = 0) ∧ (q.1 = 1 → g_Ropen r' = g_Ropen r) ∧ fTap r' = fTap r ∧ fPar r' = fPar r ∧ fMrk r' = fMrk r ∧ fHd r' = fHd r ∧ fLs r' = fLs r
theorem tb_both {n : Nat} {t : T3} {g : St_Log} {r : St_Ref} (hn : 4 ≤ n ∧ n ≤ 512) (hC : CI n g) (hR : RI n r) (hm : g_medium g = mk3 n t) (htr : rtri r = t) (ho : g_isOpen g = 1) {w k : Nat} (hw : w + k ≤ n) : ∃ q : Int32 × T3, (q.1 = 0 ∨ q.1 = 1) ∧ ∃ g' r', m_Log_takeBack g (nI w) (nI k) = some (q.1, g') ∧ m_RRef_takeBack r (nI w) (nI k) = some (q.1, r') ∧ TbC n g g' q ∧ g_room g' = (n, setF (g_room g).2 w k 0) ∧ TbR n r r' q := by
  have hpw : Pw t.2.1 := by rw [← htr]; exact ri_cutIn hR
  have hby : ∀ j, By (t.1 j) := by rw [← htr]; exact (ri_medium hR).2
  have hfr := C_free (x := g_room g) (n := n) (a := w) (c := k) (ci_room hC).1 hn.2 hw
  have c1 := C_takeBack (n := n) (g := g) (t := t) hm ho hn.1 hn.2 (row := w) (count := k) hw hfr hpw
  have c2 := R_takeBack (g := r) (ri_draft hR) (ri_medium hR).1 (row := w) (count := k) (by omega) (ri_cutIn hR)
  rw [htr] at c2
  have q1 := wrZ_ok w k 0 t
  have q2 := wrZ_pw w k 0 t hpw
  have q3 := wrZ_by w k 0 t hby
  obtain ⟨q, hq⟩ : ∃ q, q = wrZ w k 0 t := ⟨_, rfl⟩
  rw [← hq] at c1 c2 q1 q2 q3
  obtain ⟨f1, f2, f3, f4, f5, -, -, -⟩ := fr_rout (s_Rdraft r (256, fun _ => 0)) q
  simp only [qf_Tap, qf_Par, qf_Mrk, qf_Hd, qf_Ls] at f1 f2 f3 f4 f5
  refine ⟨q, q1, _, _, c1, c2, ⟨cs_room (v := (n, setF (g_room g).2 w k 0)) (CI_wi hC hn q1 q2 q3) (kRm_set (ci_room hC).2 (Or.inl rfl)), ?_, ?_, ?_, ?_, ?_, ?_, ?_, ?_, ?_, ?_⟩, ?_, ⟨RI_rout (rs_draft (v := (256, fun _ => 0)) hR ⟨rfl, fun _ _ => rfl⟩) q2 q3, rout_tri _ _, fun e => rout_open0 e, fun e => ?_, f1, f2, f3, f4, f5⟩⟩
  · simp only [wi, q_medium]
  · simp only [wi, q_isOpen]
  · simp only [wi, q_parts]
  · simp only [wi, q_kept]
  · simp only [wi, q_made]
  · simp only [wi, q_tape]
  · simp only [wi, q_owners]
  · simp only [wi, q_serial]
  · simp only [wi, q_greatestPart]
  · simp only [wi, q_greatestMark]
  · simp only [q_room]
  · rw [rout_open1 e]
    simp only [qR_open]
-- the greatest number that a kept MARK names
def lastV (m : MKQ) : Nat := (m.2.2.2.2.getD (m.2.1.toNatClampNeg - 1) 0).toNatClampNeg
def IsMx (l : List MKQ) (a M : Nat) : Prop := a ≤ M ∧ (∀ m, m ∈ l → lastV m ≤ M) ∧ (M = a ∨ ∃ m, m ∈ l ∧ lastV m = M)
theorem IsMx_nil (a : Nat) : IsMx [] a a := ⟨Nat.le_refl _, fun m hm => (by cases hm), Or.inl rfl⟩
theorem IsMx_cons {m : MKQ} {l : List MKQ} {a M : Nat} (h : IsMx l (max a (lastV m)) M) : IsMx (m :: l) a M := by
  obtain ⟨h1, h2, h3⟩ := h
  refine ⟨by omega, fun z hz => ?_, ?_⟩
  · rcases List.mem_cons.mp hz with e | hz
    · rw [e]; omega
    · exact h2 z hz
  · rcases h3 with e | ⟨z, hz, e⟩
    · by_cases hc : a ≤ lastV m
      · exact Or.inr ⟨m, List.mem_cons_self, by omega⟩
      · exact Or.inl (by omega)
    · exact Or.inr ⟨z, List.mem_cons_of_mem _ hz, e⟩
theorem IsMx_un {l l' : List MKQ} {a M M' : Nat} (h : IsMx l a M) (h' : IsMx l' a M') (e : ∀ m, m ∈ l ↔ m ∈ l') : M = M' := by
  obtain ⟨h1, h2, h3⟩ := h
  obtain ⟨k1, k2, k3⟩ := h'
  have a1 : M ≤ M' := by
    rcases h3 with z | ⟨m, hm, z⟩
    · omega
    · have := k2 m ((e m).mp hm); omega
  have a2 : M' ≤ M := by
    rcases k3 with z | ⟨m, hm, z⟩
    · omega
    · have := h2 m ((e m).mpr hm); omega
  omega
theorem lst_getD {α : Type} (f : Nat → α) {P i : Nat} (hi : i < P) (d : α) : (lst f P).getD i d = f i := by
  unfold lst
  simp [List.getD, hi]
/-- the last PART of a MARK: c PARTS, pn gives them -/
theorem last_of {GP : Nat} (hG : GP ≤ 1000000000) {m : MKQ} (h : Ris GP m) {c k : Nat} {pn : Nat → Int32} (hc : m.2.1 = nI c) (hc1 : 1 ≤ c ∧ c ≤ 12) (hl : m.2.2.2.2 = mls (nI c) pn k) : pn (12 * k + (c - 1)) = nI (lastV m) ∧ lastV m ≤ GP ∧ 1 ≤ lastV m := by
  have e1 : m.2.2.2.2.getD (c - 1) 0 = pn (12 * k + (c - 1)) := by
    rw [hl, mls_lst hc1.2, lst_getD _ (by omega)]
  have e2 : lastV m = (pn (12 * k + (c - 1))).toNatClampNeg := by
    unfold lastV
    rw [hc, nI_clamp (by omega), e1]
  obtain ⟨ns, a1, a2, a3, a4, a5, a6⟩ := h
  have hlen : ns.length = c := by
    rw [hc] at a2
    exact ((nI_eq (by omega) (by omega)).mp a2).symm
  have hmem : pn (12 * k + (c - 1)) ∈ m.2.2.2.2 := by
    rw [hl, mls_lst hc1.2]
    exact mem_lst.mpr ⟨c - 1, by omega, rfl⟩
  rw [a1] at hmem
  obtain ⟨x, hx, ex⟩ := List.mem_map.mp hmem
  have := a6 x hx
  rw [e2, ← ex, nI_clamp (by omega)]
  exact ⟨rfl, this.2, this.1⟩
theorem C_gP_L {N : Nat} {x : St_Marks} {l : List MKQ} {n GP : Nat} (hG : GP ≤ 1000000000) (h : MC N x l) (hr : ∀ m, m ∈ l → FitK n m ∧ Ris GP m) : ∀ (d fuel k a : Nat), k + d = l.length → d < fuel → a ≤ 1000000000 → ∃ M, m_Marks_greatestPart_L4 x fuel (nI a) (nI k) = some (nI M) ∧ IsMx (lst (fun j => mrow x (k + j)) d) a M := by
  have hl := h.1.1.2.2.1
  have hN := h.1.1.2.2.2.1
  intro d
  induction d with
  | zero =>
    intro fuel k a hk hf ha
    obtain ⟨fu, rfl, -⟩ := fu1 hf
    exact ⟨a, by rw [m_Marks_greatestPart_L4, h.1.1.2.1, if_pos (nI_le (by omega) (by omega))], IsMx_nil a⟩
  | succ d ih =>
    intro fuel k a hk hf ha
    obtain ⟨fu, rfl, hf'⟩ := fu1 hf
    have hkl : k < l.length := by omega
    obtain ⟨⟨_, c, w, _, _, _, p4, p5, p6, _⟩, hRs⟩ := hr _ (MC_mem h hkl)
    have p4' : x.2.1.2 k = nI c := p4
    obtain ⟨q1, q2, q3⟩ := last_of hG hRs p4 ⟨p5, p6⟩ (k := k) (pn := x.2.2.2.1.2) (by show mls (x.2.1.2 k) _ k = _; rw [p4'])
    have hca := M_countAt h.1.1 hkl
    rw [p4'] at hca
    have hpa := M_partAt h.1.1 hkl p4' p6 (nI (c - 1))
    rw [if_neg (show ¬ (nI (c - 1) < 0 ∨ nI c ≤ nI (c - 1)) from fun e => e.elim (nI_pos (by omega)) (nI_ge (by omega) (by omega))), nI_clamp (by omega), q1] at hpa
    have e : (fun j => mrow x (k + (j + 1))) = fun j => mrow x (k + 1 + j) := funext fun j => by rw [show k + (j + 1) = k + 1 + j by omega]
    obtain ⟨M, z1, z2⟩ := ih fu (k + 1) (max a (lastV (mrow x k))) (by omega) (by omega) (by omega)
    refine ⟨M, ?_, ?_⟩
    · rw [m_Marks_greatestPart_L4, h.1.1.2.1, if_neg (nI_ge (by omega) (by omega)), bs hca, show nI c - 1 = nI (c - 1) by rw [n1, pk_sub (by omega)], bs hpa, jmaxN (by omega) (by omega), nI_1]
      exact z1
    · rw [lst_cons, e]
      exact IsMx_cons z2
def kpB (m : MKQ) : Bool := decide (m.2.2.1 ≠ (-1))
theorem R_d21 {n : Nat} {r : St_Ref} {L : List MKQ} {GP : Nat} (hn : n ≤ 512) (hG : GP ≤ 1000000000) (hR : RI n r) (hM : MR r L) (hr : ∀ m, m ∈ L → (FitK n m ∨ FitM m) ∧ Ris GP m) (v1 : Int32) : ∀ (d fuel k a : Nat), k + d = L.length → d < fuel → a ≤ 1000000000 → ∃ M, m_RRef_drop_L21 fuel r v1 (nI a) (nI k) = m_RRef_drop_L78 FU r v1 (nI M) ∧ IsMx ((lst (fun j => qrow r (k + j)) d).filter kpB) a M := by
  have hl := hM.2.1
  have l1 : (g_RmCount r).1 = 270 := ri_mCount hR
  have l2 : (g_RmPart r).1 = 3240 := ri_mPart hR
  have l3 : (g_RmRow r).1 = 270 := ri_mRow hR
  intro d
  induction d with
  | zero =>
    intro fuel k a hk hf ha
    obtain ⟨fu, rfl, -⟩ := fu1 hf
    exact ⟨a, by rw [m_RRef_drop_L21, hM.1, if_pos (nI_le (by omega) (by omega))], IsMx_nil a⟩
  | succ d ih =>
    intro fuel k a hk hf ha
    obtain ⟨fu, rfl, hf'⟩ := fu1 hf
    have hkl : k < L.length := by omega
    obtain ⟨hfit, hRs⟩ := hr _ (MR_mem hM hkl)
    obtain ⟨c, p5, p6, p4⟩ := hM.2.2.2 _ (MR_mem hM hkl)
    have p4' : (g_RmCount r).2 k = nI c := p4
    obtain ⟨q1, q2, q3⟩ := last_of hG hRs p4 ⟨p5, p6⟩ (k := k) (pn := (g_RmPart r).2) (by show mls ((g_RmCount r).2 k) _ k = _; rw [p4'])
    have ck : (nI k).toNatClampNeg = k := nI_clamp (by omega)
    have k0 : ¬ (nI k < 0 ∨ 270 ≤ k) := by
      have := nI_in (c := k) (N := 270) (by omega) (by omega)
      rw [ck] at this
      exact this
    have ex : (12 : Int32) * nI k + nI c - 1 = nI (12 * k + (c - 1)) := by
      rw [n12, pk_mul, nI_add, n1, pk_sub (by omega), show 12 * k + c - 1 = 12 * k + (c - 1) by omega]
    have cx : (nI (12 * k + (c - 1))).toNatClampNeg = 12 * k + (c - 1) := nI_clamp (by omega)
    have x0 : ¬ (nI (12 * k + (c - 1)) < 0 ∨ 3240 ≤ 12 * k + (c - 1)) := by
      have := nI_in (c := 12 * k + (c - 1)) (N := 3240) (by omega) (by omega)
      rw [cx] at this
      exact this
    have e : (fun j => qrow r (k + (j + 1))) = fun j => qrow r (k + 1 + j) := funext fun j => by rw [show k + (j + 1) = k + 1 + j by omega]
    have run : m_RRef_drop_L21 (fu + 1) r v1 (nI a) (nI k) = if (g_RmRow r).2 k = (-1) then m_RRef_drop_L21 fu r v1 (nI a) (nI (k + 1)) else (if nI (lastV (qrow r k)) ≤ nI a then m_RRef_drop_L21 fu r v1 (nI a) (nI (k + 1)) else m_RRef_drop_L21 fu r v1 (nI (lastV (qrow r k))) (nI (k + 1))) := by
      rw [m_RRef_drop_L21, hM.1, if_neg (nI_ge (by omega) (by omega)), l1, l2, l3, ck, if_neg k0, p4', ex, cx, if_neg x0, if_neg k0, q1, nI_1]
    rw [run, lst_cons, e]
    show ∃ M, _ ∧ IsMx (((qrow r k) :: lst (fun j => qrow r (k + 1 + j)) d).filter kpB) a M
    by_cases z1 : (g_RmRow r).2 k = (-1)
    · have hb : kpB (qrow r k) = false := by
        unfold kpB
        rw [decide_eq_false_iff_not]
        exact fun z => z z1
      obtain ⟨M, y1, y2⟩ := ih fu (k + 1) a (by omega) (by omega) ha
      refine ⟨M, by rw [if_pos z1]; exact y1, ?_⟩
      rw [List.filter_cons_of_neg (by rw [hb]; decide)]
      exact y2
    · have hb : kpB (qrow r k) = true := by
        unfold kpB
        rw [decide_eq_true_eq]
        exact z1
      rw [if_neg z1, List.filter_cons_of_pos hb]
      by_cases z2 : lastV (qrow r k) ≤ a
      · obtain ⟨M, y1, y2⟩ := ih fu (k + 1) a (by omega) (by omega) ha
        refine ⟨M, by rw [if_pos (nI_le z2 (by omega))]; exact y1, IsMx_cons (by rw [Nat.max_eq_left z2]; exact y2)⟩
      · obtain ⟨M, y1, y2⟩ := ih fu (k + 1) (lastV (qrow r k)) (by omega) (by omega) (by omega)
        refine ⟨M, by rw [if_neg (nI_ge (by omega) (by omega))]; exact y1, IsMx_cons (by rw [Nat.max_eq_right (by omega)]; exact y2)⟩
-- the oldest kept MARK
theorem R_old_L {n : Nat} {r : St_Ref} {L : List MKQ} (hR : RI n r) (hM : MR r L) : ∀ (d fuel k : Nat) (o : Option Nat), k + d = L.length → d < fuel → (∀ i, o = some i → i < L.length ∧ (qrow r i).2.2.1 ≠ (-1)) → ∃ o', m_RRef_oldest_L4 r fuel (rv o) (nI k) = some (rv o') ∧ (∀ i, o' = some i → i < L.length ∧ (qrow r i).2.2.1 ≠ (-1)) ∧ (∀ i, o = some i → ∃ i', o' = some i' ∧ (qrow r i').1 ≤ (qrow r i).1) ∧ ∀ j, k ≤ j → j < L.length → (qrow r j).2.2.1 ≠ (-1) → ∃ i', o' = some i' ∧ (qrow r i').1 ≤ (qrow r j).1 := by
  have hl := hM.2.1
  have l3 : (g_RmRow r).1 = 270 := ri_mRow hR
  have l4 : (g_RmNumber r).1 = 270 := ri_mNumber hR
  intro d
  induction d with
  | zero =>
    intro fuel k o hk hf ho
    obtain ⟨fu, rfl, -⟩ := fu1 hf
    refine ⟨o, ?_, ho, fun i e => ⟨i, e, Int32.le_refl _⟩, fun j h1 h2 => absurd h2 (by omega)⟩
    rw [m_RRef_oldest_L4, hM.1, if_pos (nI_le (by omega) (by omega))]
  | succ d ih =>
    intro fuel k o hk hf ho
    obtain ⟨fu, rfl, hf'⟩ := fu1 hf
    have ck : (nI k).toNatClampNeg = k := nI_clamp (by omega)
    have k0 : ¬ (nI k < 0 ∨ 270 ≤ k) := by
      have := nI_in (c := k) (N := 270) (by omega) (by omega)
      rw [ck] at this
      exact this
    rw [m_RRef_oldest_L4, hM.1, if_neg (nI_ge (by omega) (by omega)), l3, l4, ck, if_neg k0, nI_1]
    by_cases z1 : (g_RmRow r).2 k = (-1)
    · rw [if_pos z1]
      obtain ⟨o', y1, y2, y3, y4⟩ := ih fu (k + 1) o (by omega) (by omega) ho
      refine ⟨o', y1, y2, y3, fun j j1 j2 j3 => ?_⟩
      by_cases hj : j = k
      · rw [hj] at j3; exact absurd z1 j3
      · exact y4 j (by omega) j2 j3
    · rw [if_neg z1]
      have take : ∃ o', m_RRef_oldest_L4 r fu (nI k) (nI (k + 1)) = some (rv o') ∧ (∀ i, o' = some i → i < L.length ∧ (qrow r i).2.2.1 ≠ (-1)) ∧ ∃ i', o' = some i' ∧ (qrow r i').1 ≤ (qrow r k).1 ∧ ∀ j, k + 1 ≤ j → j < L.length → (qrow r j).2.2.1 ≠ (-1) → (qrow r i').1 ≤ (qrow r j).1 := by
        obtain ⟨o', y1, y2, y3, y4⟩ := ih fu (k + 1) (some k) (by omega) (by omega) (fun i e => by
          have : k = i := Option.some.inj e
          subst this
          exact ⟨by omega, z1⟩)
        obtain ⟨i', e1, e2⟩ := y3 k rfl
        refine ⟨o', y1, y2, i', e1, e2, fun j j1 j2 j3 => ?_⟩
        obtain ⟨i2, e3, e4⟩ := y4 j j1 j2 j3
        rw [e1] at e3
        have : i' = i2 := Option.some.inj e3
        rw [this]; exact e4
      cases o with
      | none =>
        obtain ⟨o', y1, y2, i', y3, y4, y5⟩ := take
        refine ⟨o', ?_, y2, fun i e => (by cases e), fun j j1 j2 j3 => ?_⟩
        · refine Eq.trans (if_pos (show rv none = (-1) from rfl)) ?_
          exact y1
        · by_cases hj : j = k
          · rw [hj]; exact ⟨i', y3, y4⟩
          · exact ⟨i', y3, y5 j (by omega) j2 j3⟩
      | some i0 =>
        obtain ⟨hi1, hi2⟩ := ho i0 rfl
        have ci : (nI i0).toNatClampNeg = i0 := nI_clamp (by omega)
        have i00 : ¬ (nI i0 < 0 ∨ 270 ≤ i0) := by
          have := nI_in (c := i0) (N := 270) (by omega) (by omega)
          rw [ci] at this
          exact this
        have hne : ¬ rv (some i0) = (-1) := nI_m1 (by omega)
        rw [if_neg hne, if_neg k0, show rv (some i0) = nI i0 from rfl, ci, if_neg i00]
        by_cases z2 : (g_RmNumber r).2 i0 ≤ (g_RmNumber r).2 k
        · rw [if_pos z2]
          obtain ⟨o', y1, y2, y3, y4⟩ := ih fu (k + 1) (some i0) (by omega) (by omega) ho
          refine ⟨o', y1, y2, y3, fun j j1 j2 j3 => ?_⟩
          by_cases hj : j = k
          · obtain ⟨i', e1, e2⟩ := y3 i0 rfl
            rw [hj]
            exact ⟨i', e1, Int32.le_trans e2 z2⟩
          · exact y4 j (by omega) j2 j3
        · rw [if_neg z2]
          obtain ⟨o', y1, y2, i', y3, y4, y5⟩ := take
          refine ⟨o', y1, y2, fun i e => ?_, fun j j1 j2 j3 => ?_⟩
          · have : i0 = i := Option.some.inj e
            subst this
            exact ⟨i', y3, Int32.le_trans y4 (Int32.le_of_lt (Int32.not_le.mp z2))⟩
          · by_cases hj : j = k
            · rw [hj]; exact ⟨i', y3, y4⟩
            · exact ⟨i', y3, y5 j (by omega) j2 j3⟩
-- MARKS ARE DROPPED
theorem lst_drop {α : Type} (f : Nat → α) (i b : Nat) : (lst f (i + b)).drop i = lst (fun k => f (i + k)) b := by
  rw [lst_app]
  exact List.drop_left' (lst_len f i)
theorem Abs_dropK {n : Nat} {lp : List PQ} {m : MKQ} {lk lm : List MKQ} {GP GM : Nat} (h : Abs n lp (m :: lk) lm GP GM) : Abs n lp lk lm GP GM := by
  obtain ⟨h1, h2, h3, h4, h5, h6⟩ := h
  refine ⟨h1, fun z hz => h2 z (List.mem_cons_of_mem _ hz), h3, ?_, (List.pairwise_cons.mp h5).2, h6⟩
  have hp : (ivs lp (m :: lk)).Perm (mIv m :: ivs lp lk) := by
    unfold ivs
    rw [List.map_cons]
    exact List.perm_middle
  exact DJ_tail (DJ_perm hp h4)
/-- while MARKS and PARTS are dropped -/
def DI (n : Nat) (t : T3) (g : St_Log) (r : St_Ref) (lp : List PQ) (lk lm L : List MKQ) (GP GM : Nat) : Prop := CI n g ∧ RI n r ∧ g_medium g = mk3 n t ∧ rtri r = t ∧ g_isOpen g = 1 ∧ g_Ropen r = 1 ∧ MC 6 (g_made g) lm ∧ BT n (g_room g) (ivs lp lk) ∧ PR r lp ∧ MR r L ∧ L.Perm (lk ++ lm) ∧ Abs n lp lk lm GP GM
/-- what dropping leaves -/
def DF (g g' : St_Log) (r r' : St_Ref) : Prop := g_tape g' = g_tape g ∧ g_made g' = g_made g ∧ g_owners g' = g_owners g ∧ g_serial g' = g_serial g ∧ g_greatestPart g' = g_greatestPart g ∧ g_greatestMark g' = g_greatestMark g ∧ fTap r' = fTap r ∧ fHd r' = fHd r ∧ fLs r' = fLs r
theorem DF.rf (g : St_Log) (r : St_Ref) : DF g g r r := ⟨rfl, rfl, rfl, rfl, rfl, rfl, rfl, rfl, rfl⟩
theorem DF.tr {g g' g'' : St_Log} {r r' r'' : St_Ref} (h : DF g g' r r') (k : DF g' g'' r' r'') : DF g g'' r r'' := ⟨k.1.trans h.1, k.2.1.trans h.2.1, k.2.2.1.trans h.2.2.1, k.2.2.2.1.trans h.2.2.2.1, k.2.2.2.2.1.trans h.2.2.2.2.1, k.2.2.2.2.2.1.trans h.2.2.2.2.2.1, k.2.2.2.2.2.2.1.trans h.2.2.2.2.2.2.1, k.2.2.2.2.2.2.2.1.trans h.2.2.2.2.2.2.2.1, k.2.2.2.2.2.2.2.2.trans h.2.2.2.2.2.2.2.2⟩
theorem DF_tb {n : Nat} {g g' : St_Log} {r r' : St_Ref} {q : Int32 × T3} (h : TbC n g g' q) (k : TbR n r r' q) : DF g g' r r' := ⟨h.2.2.2.2.2.2.1, h.2.2.2.2.2.1, h.2.2.2.2.2.2.2.1, h.2.2.2.2.2.2.2.2.1, h.2.2.2.2.2.2.2.2.2.1, h.2.2.2.2.2.2.2.2.2.2, k.2.2.2.2.1, k.2.2.2.2.2.2.2.1, k.2.2.2.2.2.2.2.2⟩
/-- power went -/
def Lost (n : Nat) (g0 g : St_Log) (r0 r : St_Ref) : Prop := CI n g ∧ RI n r ∧ tri (g_medium g) = rtri r ∧ g_isOpen g = 0 ∧ g_Ropen r = 0 ∧ g_tape g = g_tape g0 ∧ fTap r = fTap r0
theorem removeF {N P : Nat} {x : St_Marks} (h : MS N x P) {c : Nat} (hc : c ≤ P) : ∃ x', m_Marks_removeFirst x (nI c) = some x' ∧ MC N x' (lst (fun k => mrow x (c + k)) (P - c)) := by
  obtain ⟨x', a1, a2, a3⟩ := ML_removeFirst h.1 hc
  refine ⟨x', a1, ?_, ?_⟩
  · rw [lst_len]
    exact MS_of h (by omega) a2 a3
  · rw [lst_len]
    exact lst_congr (fun k hk => by rw [a3 k hk, Nat.add_comm])
theorem dm_L {n pp c : Nat} {lp : List PQ} {lm : List MKQ} {xk : St_Marks} {len GP GM : Nat} (hn : 4 ≤ n ∧ n ≤ 512) (hX : MS (n / 2) xk len) (hlen : len = c + pp) (v2 : Int32) : ∀ (d i fuel fuel' : Nat) (t : T3) (g : St_Log) (r : St_Ref) (L : List MKQ), i + d = c → d < fuel → d < fuel' → g_kept g = xk → PC n (g_parts g) lp → DI n t g r lp (lst (fun k => mrow xk (i + k)) (len - i)) lm L GP GM → (∃ g' r', m_Log_dropMarks_L2 fuel g (nI c) (nI i) = some (0, g') ∧ m_RRef_drop_L78 fuel' r (nI pp) v2 = some ((-5), r') ∧ Lost n g g' r r') ∨ (∃ g' r' t' L', m_Log_dropMarks_L2 fuel g (nI c) (nI i) = some (1, g') ∧ m_RRef_drop_L78 fuel' r (nI pp) v2 = m_RRef_drop_L135 FU r' v2 0 0 1 ∧ MC (n / 2) (g_kept g') (lst (fun k => mrow xk (c + k)) (len - c)) ∧ PC n (g_parts g') lp ∧ DI n t' g' r' lp (lst (fun k => mrow xk (c + k)) (len - c)) lm L' GP GM ∧ DF g g' r r') := by
  have hlN := hX.1.2.2.1
  have hN2 := hX.1.2.2.2.1
  obtain ⟨xk', e1, e2⟩ := removeF hX (c := c) (by omega)
  intro d
  induction d with
  | zero =>
    intro i fuel fuel' t g r L hi hf hf' hk hP hD
    obtain ⟨fu, rfl, -⟩ := fu1 hf
    obtain ⟨fv, rfl, -⟩ := fu1 hf'
    obtain ⟨hC, hR, hm, htr, ho, hro, hMM, hB, hPR, hMR, hL, hA⟩ := id hD
    have hic : i = c := by omega
    subst hic
    have cnt := (R_count hR hn.2 hMR hL hA).2
    rw [lst_len] at cnt
    right
    refine ⟨s_kept g xk', r, t, L, ?_, ?_, ?_, ?_, ⟨cs_kept hC ⟨_, e2.1.1⟩, hR, ?_, htr, ?_, hro, ?_, ?_, hPR, hMR, hL, hA⟩, ⟨?_, ?_, ?_, ?_, ?_, ?_, rfl, rfl, rfl⟩⟩
    · rw [m_Log_dropMarks_L2, if_pos (Int32.le_refl _), hk, bs e1, ho, if_neg e11]
    · rw [m_RRef_drop_L78, bs cnt, if_pos (nI_le (by omega) (by omega))]
    · simp only [q_kept]; exact e2
    · simp only [q_parts]; exact hP
    · simp only [q_medium]; exact hm
    · simp only [q_isOpen]; exact ho
    · simp only [q_made]; exact hMM
    · simp only [q_room]; exact hB
    · simp only [q_tape]
    · simp only [q_made]
    · simp only [q_owners]
    · simp only [q_serial]
    · simp only [q_greatestPart]
    · simp only [q_greatestMark]
  | succ d ih =>
    intro i fuel fuel' t g r L hi hf hf' hk hP hD
    obtain ⟨fu, rfl, hfu⟩ := fu1 hf
    obtain ⟨fv, rfl, hfv⟩ := fu1 hf'
    obtain ⟨hC, hR, hm, htr, ho, hro, hMM, hB, hPR, hMR, hL, hA⟩ := id hD
    have hil : i < len := by omega
    have hsp : lst (fun k => mrow xk (i + k)) (len - i) = mrow xk i :: lst (fun k => mrow xk (i + 1 + k)) (len - (i + 1)) := by
      rw [show len - i = (len - (i + 1)) + 1 by omega, lst_cons]
      have : (fun k => mrow xk (i + (k + 1))) = fun k => mrow xk (i + 1 + k) := funext fun k => by rw [show i + (k + 1) = i + 1 + k by omega]
      rw [this]
      rfl
    obtain ⟨rest, hrest⟩ : ∃ rest, rest = lst (fun k => mrow xk (i + 1 + k)) (len - (i + 1)) := ⟨_, rfl⟩
    have hlr : rest.length = len - (i + 1) := by rw [hrest, lst_len]
    rw [hsp, ← hrest] at hD hB hL hA
    obtain ⟨m, hmd⟩ : ∃ m, m = mrow xk i := ⟨_, rfl⟩
    rw [← hmd] at hD hB hL hA
    obtain ⟨_, cc, w, _, _, _, p4, p5, p6, p7, p8, p9⟩ := (hA.2.1 m List.mem_cons_self).1
    have he6 : ent cc ≤ 6 := by unfold ent; omega
    have a1 : m_Marks_rowAt (g_kept g) (nI i) = some (nI w) := by
      rw [hk, M_rowAt hX.1 hil]
      rw [hmd] at p7
      exact congrArg some p7
    have a2 : m_Marks_countAt (g_kept g) (nI i) = some (nI cc) := by
      rw [hk, M_countAt hX.1 hil]
      rw [hmd] at p4
      exact congrArg some p4
    obtain ⟨q, q01, g1, r1, b1, b2, hTC, hroom, hTR⟩ := tb_both (w := w) (k := 1 + ent cc) hn hC hR hm htr ho (by omega)
    -- the reference finds the same MARK
    have cnt := (R_count hR hn.2 hMR hL hA).2
    have hkr : ∀ z, z ∈ m :: rest → z.2.2.1 ≠ (-1) := by
      intro z hz e
      obtain ⟨_, _, w', _, _, _, _, _, _, s7, _, s9⟩ := (hA.2.1 z hz).1
      rw [s7] at e
      exact nI_m1 (by omega) e
    have hLm : m ∈ L := hL.mem_iff.mpr (List.mem_append.mpr (Or.inl List.mem_cons_self))
    have hLl := hMR.2.1
    obtain ⟨o', y1, y2, -, y4⟩ := R_old_L hR hMR L.length FU 0 none (by omega) (FU_lt (by omega)) (fun i e => (by cases e))
    obtain ⟨jm, hjm, ejm⟩ := MR_ex hMR hLm
    obtain ⟨j, ej, lej⟩ := y4 jm (by omega) hjm (by rw [ejm]; exact hkr m List.mem_cons_self)
    obtain ⟨hj, hjr⟩ := y2 j ej
    have hjm2 : qrow r j = m := by
      have hin : qrow r j ∈ m :: rest := by
        rcases List.mem_append.mp (hL.mem_iff.mp (MR_mem hMR hj)) with z | z
        · exact z
        · obtain ⟨_, _, _, _, _, _, _, _, s7, _⟩ := (hA.2.2.1 _ z).1
          exact absurd s7 hjr
      rcases List.mem_cons.mp hin with z | z
      · exact z
      · rw [hrest] at z
        obtain ⟨k, hk2, ek⟩ := mem_lst.mp z
        have hlt : (mrow xk i).1 < (mrow xk (i + 1 + k)).1 := hX.2 i (i + 1 + k) (by omega) (by omega)
        rw [ejm, ← ek, hmd] at lej
        exact absurd lej (Int32.not_le.mpr hlt)
    have old : m_RRef_oldest r = some (nI j) := by
      unfold m_RRef_oldest
      refine Eq.trans (show m_RRef_oldest_L4 r FU (-1) 0 = _ from y1) ?_
      rw [ej]; rfl
    have ew : (g_RmRow r).2 j = nI w := by
      have := congrArg (fun z : MKQ => z.2.2.1) hjm2
      exact this.trans p7
    have ec : (g_RmCount r).2 j = nI cc := by
      have := congrArg (fun z : MKQ => z.2.1) hjm2
      exact this.trans p4
    have cj : (nI j).toNatClampNeg = j := nI_clamp (by omega)
    have j0 : ¬ (nI j < 0 ∨ 270 ≤ j) := by
      have := nI_in (c := j) (N := 270) (by omega) (by omega)
      rw [cj] at this
      exact this
    have e1e : (1 : Int32) + nI (ent cc) = nI (1 + ent cc) := by rw [n1, nI_add]
    have runR : m_RRef_drop_L78 (fv + 1) r (nI pp) v2 = if q.1 = 0 then some ((-5), r1) else ((m_RRef_forgetMark r1 (nI j)).bind fun q38 => m_RRef_drop_L78 fv q38 (nI pp) v2) := by
      rw [m_RRef_drop_L78, bs cnt, if_neg (show ¬ nI (m :: rest).length ≤ nI pp by rw [List.length_cons, hlr]; exact nI_ge (by omega) (by omega)), bs old, show (g_RmRow r).1 = 270 from ri_mRow hR, show (g_RmCount r).1 = 270 from ri_mCount hR, cj, if_neg j0, if_neg j0, ec, ew, bs (R_entries (by omega)), e1e, bs b2]
    have runC : m_Log_dropMarks_L2 (fu + 1) g (nI c) (nI i) = m_Log_dropMarks_L2 fu g1 (nI c) (nI (i + 1)) := by
      rw [m_Log_dropMarks_L2, if_neg (nI_ge (by omega) (by omega)), ho, if_neg e10, bs a1, bs a2, bs (C_rowsOfMark (by omega)), bs b1, nI_1]
    rw [runC, runR]
    by_cases hz : q.1 = 0
    · left
      obtain ⟨fw, rfl, -⟩ := fu1 (k := 0) (fuel := fu) (by omega)
      have go : g_isOpen g1 = 0 := by rw [hTC.2.2.1]; exact hz
      have hk1 : g_kept g1 = xk := by rw [hTC.2.2.2.2.1]; exact hk
      refine ⟨s_kept g1 xk', r1, ?_, by rw [if_pos hz], cs_kept hTC.1 ⟨_, e2.1.1⟩, hTR.1, ?_, ?_, hTR.2.2.1 hz, ?_, hTR.2.2.2.2.1⟩
      · rw [m_Log_dropMarks_L2, hk1, bs e1, go]
        by_cases hcc : nI c ≤ nI (i + 1)
        · rw [if_pos hcc, if_neg e01]
        · rw [if_neg hcc, if_pos rfl, if_neg e01]
      · simp only [q_medium]; rw [hTC.2.1, hTR.2.1]; rfl
      · simp only [q_isOpen]; exact go
      · simp only [q_tape]; exact hTC.2.2.2.2.2.2.1
    · have h1 : q.1 = 1 := q01.resolve_left hz
      have hMR1 : MR r1 L := MR_fr hTR.2.2.2.2.2.2.1 hMR
      have hqj : qrow r1 j = m := by
        have e3 := hTR.2.2.2.2.2.2.1
        have : qrow r1 j = qrow r j := by
          unfold qrow
          rw [e_mNumber e3, e_mRow e3, e_mCount e3, e_mDigest e3, e_mPart e3]
        rw [this]; exact hjm2
      obtain ⟨r2, L2, f1, f2, f3, f4, f5⟩ := R_forgetMark hTR.1 hMR1 hj
      rw [hqj] at f5
      have hL2 : L2.Perm (rest ++ lm) := (f5.trans (hL.trans (List.Perm.refl _))).cons_inv
      have hA2 := Abs_dropK hA
      have hmI : mIv m = (w, 1 + ent cc) := by
        unfold mIv
        rw [p4, p7, nI_clamp (by omega), nI_clamp (by omega)]
      have hpm : (ivs lp (m :: rest)).Perm ((w, 1 + ent cc) :: ivs lp rest) := by
        unfold ivs
        rw [List.map_cons, hmI]
        exact List.perm_middle
      have hB2 : BT n (g_room g1) (ivs lp rest) := by
        rw [hroom]
        exact BT_free (BT_perm hpm hB) (DJ_perm hpm hA.2.2.2.1)
      have hD2 : DI n q.2 g1 r2 lp rest lm L2 GP GM := by
        refine ⟨hTC.1, f2, hTC.2.1, ?_, ?_, ?_, ?_, hB2, PR_fr (f3.2.2.1.trans hTR.2.2.2.2.2.1) hPR, f4, hL2, hA2⟩
        · rw [rtri_fr f3.1]; exact hTR.2.1
        · rw [hTC.2.2.1]; exact h1
        · rw [e_open f3.1, hTR.2.2.2.1 h1]; exact hro
        · rw [hTC.2.2.2.2.2.1]; exact hMM
      rw [hrest] at hD2
      have hDF1 : DF g g1 r r2 := (DF_tb hTC hTR).tr ⟨rfl, rfl, rfl, rfl, rfl, rfl, f3.2.1, f3.2.2.2.1, f3.2.2.2.2⟩
      rw [if_neg hz, bs f1]
      rcases ih (i + 1) fu fv q.2 g1 r2 L2 (by omega) (by omega) (by omega) (by rw [hTC.2.2.2.2.1]; exact hk) (by rw [hTC.2.2.2.1]; exact hP) hD2 with ⟨g', r', s1, s2, s3⟩ | ⟨g', r', t', L', s1, s2, s3, s4, s5, s6⟩
      · left
        refine ⟨g', r', s1, s2, s3.1, s3.2.1, s3.2.2.1, s3.2.2.2.1, s3.2.2.2.2.1, s3.2.2.2.2.2.1.trans hDF1.1, s3.2.2.2.2.2.2.trans hDF1.2.2.2.2.2.2.1⟩
      · right
        exact ⟨g', r', t', L', s1, s2, s3, s4, s5, hDF1.tr s6⟩
-- PARTS ARE DROPPED
theorem R_d146 {n : Nat} {r : St_Ref} {lp : List PQ} {lk lm L : List MKQ} {GP GM M nn : Nat} (hR : RI n r) (hP : PR r lp) (hM : MR r L) (hL : L.Perm (lk ++ lm)) (hA : Abs n lp lk lm GP GM) {g : St_Log} (hk : MC (n / 2) (g_kept g) lk) (hm : MC 6 (g_made g) lm) (kk : St_Ref → Int32 → Int32 → Int32 → Int32 → Option (Int32 × St_Ref)) (v3 : Int32) : ∀ (d fuel j : Nat) (o : Option Nat), j + d = lp.length → d < fuel → (∀ i, o = some i → i < lp.length ∧ nI nn < (rrow r i).1 ∧ (rrow r i).1 ≤ nI M ∧ (lk ++ lm).countP (namB (rrow r i).1) = 0) → ∃ o', m_RRef_drop_L146 kk fuel r (nI M) v3 (nI nn) (rv o) (nI j) = kk r (nI M) v3 (nI nn) (rv o') ∧ (∀ i, o' = some i → i < lp.length ∧ nI nn < (rrow r i).1 ∧ (rrow r i).1 ≤ nI M ∧ (lk ++ lm).countP (namB (rrow r i).1) = 0) ∧ (∀ i, o = some i → ∃ i', o' = some i' ∧ (rrow r i').1 ≤ (rrow r i).1) ∧ ∀ i, j ≤ i → i < lp.length → nI nn < (rrow r i).1 → (rrow r i).1 ≤ nI M → (lk ++ lm).countP (namB (rrow r i).1) = 0 → ∃ i', o' = some i' ∧ (rrow r i').1 ≤ (rrow r i).1 := by
  have hlp := hP.1.2.2
  have l1 : (g_RpNumber r).1 = 520 := ri_pNumber hR
  intro d
  induction d with
  | zero =>
    intro fuel j o hj hf ho
    obtain ⟨fu, rfl, -⟩ := fu1 hf
    refine ⟨o, ?_, ho, fun i e => ⟨i, e, Int32.le_refl _⟩, fun i h1 h2 => absurd h2 (by omega)⟩
    rw [m_RRef_drop_L146, hP.1.2.1, if_pos (nI_le (by omega) (by omega))]
  | succ d ih =>
    intro fuel j o hj hf ho
    obtain ⟨fu, rfl, hf'⟩ := fu1 hf
    have cj : (nI j).toNatClampNeg = j := nI_clamp (by omega)
    have j0 : ¬ (nI j < 0 ∨ 520 ≤ j) := by
      have := nI_in (c := j) (N := 520) (by omega) (by omega)
      rw [cj] at this
      exact this
    have wn := (w_named hR hk hm hM hL hA ((g_RpNumber r).2 j)).2
    rw [m_RRef_drop_L146, hP.1.2.1, if_neg (nI_ge (by omega) (by omega)), l1, cj, if_neg j0, nI_1]
    have skip : (¬ (nI nn < (rrow r j).1 ∧ (rrow r j).1 ≤ nI M ∧ (lk ++ lm).countP (namB (rrow r j).1) = 0)) → ∃ o', m_RRef_drop_L146 kk fu r (nI M) v3 (nI nn) (rv o) (nI (j + 1)) = kk r (nI M) v3 (nI nn) (rv o') ∧ (∀ i, o' = some i → i < lp.length ∧ nI nn < (rrow r i).1 ∧ (rrow r i).1 ≤ nI M ∧ (lk ++ lm).countP (namB (rrow r i).1) = 0) ∧ (∀ i, o = some i → ∃ i', o' = some i' ∧ (rrow r i').1 ≤ (rrow r i).1) ∧ ∀ i, j ≤ i → i < lp.length → nI nn < (rrow r i).1 → (rrow r i).1 ≤ nI M → (lk ++ lm).countP (namB (rrow r i).1) = 0 → ∃ i', o' = some i' ∧ (rrow r i').1 ≤ (rrow r i).1 := by
      intro hne
      obtain ⟨o', y1, y2, y3, y4⟩ := ih fu (j + 1) o (by omega) (by omega) ho
      refine ⟨o', y1, y2, y3, fun i i1 i2 i3 i4 i5 => ?_⟩
      by_cases hij : i = j
      · rw [hij] at i3 i4 i5
        exact absurd ⟨i3, i4, i5⟩ hne
      · exact y4 i (by omega) i2 i3 i4 i5
    by_cases z1 : (g_RpNumber r).2 j ≤ nI nn
    · rw [if_pos z1]
      exact skip (fun z => absurd z.1 (Int32.not_lt.mpr z1))
    · rw [if_neg z1, if_neg j0]
      by_cases z2 : nI M < (g_RpNumber r).2 j
      · rw [if_pos z2]
        exact skip (fun z => absurd z2 (Int32.not_lt.mpr z.2.1))
      · rw [if_neg z2, if_neg j0, bs wn]
        have hcl : (lk ++ lm).countP (namB ((g_RpNumber r).2 j)) < 2 ^ 31 := by
          have a1 := List.countP_le_length (p := namB ((g_RpNumber r).2 j)) (l := lk ++ lm)
          have a2 := hL.length_eq
          have a3 := hM.2.1
          omega
        by_cases z3 : (lk ++ lm).countP (namB ((g_RpNumber r).2 j)) = 0
        · rw [if_pos (show nI ((lk ++ lm).countP (namB ((g_RpNumber r).2 j))) = 0 by rw [z3]; rfl)]
          have good : nI nn < (rrow r j).1 ∧ (rrow r j).1 ≤ nI M ∧ (lk ++ lm).countP (namB (rrow r j).1) = 0 := ⟨Int32.not_le.mp z1, Int32.not_lt.mp z2, z3⟩
          have take : ∃ o', m_RRef_drop_L146 kk fu r (nI M) v3 (nI nn) (nI j) (nI (j + 1)) = kk r (nI M) v3 (nI nn) (rv o') ∧ (∀ i, o' = some i → i < lp.length ∧ nI nn < (rrow r i).1 ∧ (rrow r i).1 ≤ nI M ∧ (lk ++ lm).countP (namB (rrow r i).1) = 0) ∧ ∃ i', o' = some i' ∧ (rrow r i').1 ≤ (rrow r j).1 ∧ ∀ i, j + 1 ≤ i → i < lp.length → nI nn < (rrow r i).1 → (rrow r i).1 ≤ nI M → (lk ++ lm).countP (namB (rrow r i).1) = 0 → (rrow r i').1 ≤ (rrow r i).1 := by
            obtain ⟨o', y1, y2, y3, y4⟩ := ih fu (j + 1) (some j) (by omega) (by omega) (fun i e => by
              have : j = i := Option.some.inj e
              subst this
              exact ⟨by omega, good⟩)
            obtain ⟨i', e1, e2⟩ := y3 j rfl
            refine ⟨o', y1, y2, i', e1, e2, fun i i1 i2 i3 i4 i5 => ?_⟩
            obtain ⟨i2', e3, e4⟩ := y4 i i1 i2 i3 i4 i5
            rw [e1] at e3
            have : i' = i2' := Option.some.inj e3
            rw [this]; exact e4
          cases o with
          | none =>
            obtain ⟨o', y1, y2, i', y3, y4, y5⟩ := take
            refine ⟨o', ?_, y2, fun i e => (by cases e), fun i i1 i2 i3 i4 i5 => ?_⟩
            · refine Eq.trans (if_pos (show rv none = (-1) from rfl)) ?_
              exact y1
            · by_cases hij : i = j
              · rw [hij]; exact ⟨i', y3, y4⟩
              · exact ⟨i', y3, y5 i (by omega) i2 i3 i4 i5⟩
          | some i0 =>
            obtain ⟨hi1, hi2⟩ := ho i0 rfl
            have ci : (nI i0).toNatClampNeg = i0 := nI_clamp (by omega)
            have i00 : ¬ (nI i0 < 0 ∨ 520 ≤ i0) := by
              have := nI_in (c := i0) (N := 520) (by omega) (by omega)
              rw [ci] at this
              exact this
            have hne : ¬ rv (some i0) = (-1) := nI_m1 (by omega)
            rw [if_neg hne, if_neg j0, show rv (some i0) = nI i0 from rfl, ci, if_neg i00]
            by_cases z4 : (g_RpNumber r).2 i0 ≤ (g_RpNumber r).2 j
            · rw [if_pos z4]
              obtain ⟨o', y1, y2, y3, y4⟩ := ih fu (j + 1) (some i0) (by omega) (by omega) ho
              refine ⟨o', y1, y2, y3, fun i i1 i2 i3 i4 i5 => ?_⟩
              by_cases hij : i = j
              · obtain ⟨i', e1, e2⟩ := y3 i0 rfl
                rw [hij]
                exact ⟨i', e1, Int32.le_trans e2 z4⟩
              · exact y4 i (by omega) i2 i3 i4 i5
            · rw [if_neg z4]
              obtain ⟨o', y1, y2, i', y3, y4, y5⟩ := take
              refine ⟨o', y1, y2, fun i e => ?_, fun i i1 i2 i3 i4 i5 => ?_⟩
              · have : i0 = i := Option.some.inj e
                subst this
                exact ⟨i', y3, Int32.le_trans y4 (Int32.le_of_lt (Int32.not_le.mp z4))⟩
              · by_cases hij : i = j
                · rw [hij]; exact ⟨i', y3, y4⟩
                · exact ⟨i', y3, y5 i (by omega) i2 i3 i4 i5⟩
        · rw [if_neg (nI_ne0 (by omega) hcl)]
          exact skip (fun z => z3 z.2.2)
theorem Abs_dropP {n : Nat} {lp : List PQ} {q : PQ} {lk lm : List MKQ} {GP GM : Nat} (h : Abs n (q :: lp) lk lm GP GM) (hz : lm.countP (namB q.1) = 0) : Abs n lp lk lm GP GM := by
  obtain ⟨h1, h2, h3, h4, h5, h6⟩ := h
  refine ⟨fun z hz => h1 z (List.mem_cons_of_mem _ hz), h2, fun m hm => ?_, DJ_tail (a := pIv q) h4, h5, h6⟩
  obtain ⟨k1, k2, k3, k4⟩ := h3 m hm
  refine ⟨k1, k2, k3, fun v hv => ?_⟩
  obtain ⟨z, hz1, hz2⟩ := k4 v hv
  rcases List.mem_cons.mp hz1 with e | hz1
  · rw [List.countP_eq_zero] at hz
    have := hz m hm
    unfold namB at this
    rw [decide_eq_true_eq] at this
    rw [← e, hz2] at this
    exact absurd hv this
  · exact ⟨z, hz1, hz2⟩
/-- the table of PARTS in the middle: the first s stay, those from k on are still to be seen -/
def Mid (n : Nat) (x x0 : St_Parts) (P s k : Nat) : Prop := PL n x P ∧ s ≤ k ∧ k ≤ P ∧ (∀ j, k ≤ j → j < P → crow x j = crow x0 j) ∧ (∀ i j, i < j → j < s → (crow x i).1 < (crow x j).1) ∧ ∀ i j, i < s → k ≤ j → j < P → (crow x i).1 < (crow x0 j).1
def midL (x x0 : St_Parts) (P s k : Nat) : List PQ := lst (crow x) s ++ lst (fun j => crow x0 (k + j)) (P - k)
theorem mid_move {n : Nat} {x x0 : St_Parts} {P s k : Nat} (h : Mid n x x0 P s k) (hs : ∀ i j, i < j → j < P → (crow x0 i).1 < (crow x0 j).1) (hk : k < P) : ∃ x', m_Parts_move x (nI k) (nI s) = some x' ∧ Mid n x' x0 P (s + 1) (k + 1) ∧ midL x' x0 P (s + 1) (k + 1) = midL x x0 P s k := by
  obtain ⟨h1, h2, h3, h4, h5, h6⟩ := h
  have hmv := P_move h1 (a := k) (b := s) hk (by omega)
  refine ⟨_, hmv, ⟨PL_upR h1 _ _, by omega, by omega, fun j j1 j2 => ?_, fun i j i1 j1 => ?_, fun i j i1 j1 j2 => ?_⟩, ?_⟩
  · rw [crow_upR, if_neg (by omega)]
    exact h4 j (by omega) j2
  · rw [crow_upR, crow_upR]
    by_cases hj : j = s
    · rw [if_pos hj, if_neg (by omega), h4 k (Nat.le_refl _) hk]
      exact h6 i k (by omega) (Nat.le_refl _) hk
    · rw [if_neg hj, if_neg (by omega)]
      exact h5 i j i1 (by omega)
  · rw [crow_upR]
    by_cases hi : i = s
    · rw [if_pos hi, h4 k (Nat.le_refl _) hk]
      exact hs k j (by omega) j2
    · rw [if_neg hi]
      exact h6 i j (by omega) (by omega) j2
  · unfold midL
    rw [lst_succ, crow_upR, if_pos rfl, h4 k (Nat.le_refl _) hk]
    have e1 : lst (crow (upR x s (crow x k))) s = lst (crow x) s := lst_congr (fun j hj => by rw [crow_upR, if_neg (by omega)])
    have e2 : lst (fun j => crow x0 (k + j)) (P - k) = crow x0 k :: lst (fun j => crow x0 (k + 1 + j)) (P - (k + 1)) := by
      rw [show P - k = (P - (k + 1)) + 1 by omega, lst_cons]
      have : (fun j => crow x0 (k + (j + 1))) = fun j => crow x0 (k + 1 + j) := funext fun j => by rw [show k + (j + 1) = k + 1 + j by omega]
      rw [this]; rfl
    rw [e2, List.append_assoc]
    have e3 : crow x k = crow x0 k := h4 k (Nat.le_refl _) hk
    rw [e3] at e1
    rw [e1]; rfl
theorem RI_rforg {n : Nat} {r : St_Ref} (hR : RI n r) (a b : Nat) (hb : b ≤ 520) : RI n (rforg r a b) := by
  unfold rforg
  refine rs_pRow (rs_pLength (rs_pPosition (rs_pGroup (rs_pNumber (rs_parts hR ?_) ?_) ?_) ?_) ?_) ?_
  · exact ⟨b, hb, rfl⟩
  · exact ri_pNumber hR
  · exact ri_pGroup hR
  · exact ri_pPosition hR
  · exact ri_pLength hR
  · exact ri_pRow hR
theorem fr_rforg (r : St_Ref) (a b : Nat) : fMed (rforg r a b) = fMed r ∧ fTap (rforg r a b) = fTap r ∧ fMrk (rforg r a b) = fMrk r ∧ fHd (rforg r a b) = fHd r ∧ fLs (rforg r a b) = fLs r := by
  unfold rforg
  refine ⟨?_, ?_, ?_, ?_, ?_⟩
  · simp only [qf_Med]
  · simp only [qf_Tap]
  · simp only [qf_Mrk]
  · simp only [qf_Hd]
  · simp only [qf_Ls]
theorem ss_parts (g : St_Log) (a b : St_Parts) : s_parts (s_parts g a) b = s_parts g b := rfl
-- PARTS ARE DROPPED, ON BOTH SIDES
theorem midL_len (x x0 : St_Parts) (P s k : Nat) : (midL x x0 P s k).length = s + (P - k) := by
  unfold midL
  rw [List.length_append, lst_len, lst_len]
theorem midL_cons {x x0 : St_Parts} {P s k : Nat} (hk : k < P) : midL x x0 P s k = lst (crow x) s ++ crow x0 k :: lst (fun j => crow x0 (k + 1 + j)) (P - (k + 1)) := by
  unfold midL
  have e2 : lst (fun j => crow x0 (k + j)) (P - k) = crow x0 k :: lst (fun j => crow x0 (k + 1 + j)) (P - (k + 1)) := by
    rw [show P - k = (P - (k + 1)) + 1 by omega, lst_cons]
    have : (fun j => crow x0 (k + (j + 1))) = fun j => crow x0 (k + 1 + j) := funext fun j => by rw [show k + (j + 1) = k + 1 + j by omega]
    rw [this]; rfl
  rw [e2]
theorem mid_drop {n : Nat} {x x0 : St_Parts} {P s k : Nat} (h : Mid n x x0 P s k) (hk : k < P) : Mid n x x0 P s (k + 1) := by
  obtain ⟨h1, h2, h3, h4, h5, h6⟩ := h
  exact ⟨h1, by omega, by omega, fun j j1 j2 => h4 j (by omega) j2, h5, fun i j i1 j1 j2 => h6 i j i1 (by omega) j2⟩
theorem mid_mem {n : Nat} {x x0 : St_Parts} {P s k : Nat} (h : Mid n x x0 P s k) (hs : ∀ i j, i < j → j < P → (crow x0 i).1 < (crow x0 j).1) (hk : k < P) (p : PQ) : (p ∈ midL x x0 P s k ∧ p.1 ≠ (crow x0 k).1) ↔ p ∈ midL x x0 P s (k + 1) := by
  obtain ⟨h1, h2, h3, h4, h5, h6⟩ := h
  rw [midL_cons hk]
  show _ ↔ p ∈ lst (crow x) s ++ lst (fun j => crow x0 (k + 1 + j)) (P - (k + 1))
  rw [List.mem_append, List.mem_append, List.mem_cons]
  constructor
  · rintro ⟨z | z | z, hne⟩
    · exact Or.inl z
    · exact absurd (congrArg (fun q : PQ => q.1) z) hne
    · exact Or.inr z
  · rintro (z | z)
    · refine ⟨Or.inl z, ?_⟩
      obtain ⟨i, hi, rfl⟩ := mem_lst.mp z
      exact Int32.ne_of_lt (h6 i k hi (Nat.le_refl _) hk)
    · refine ⟨Or.inr (Or.inr z), ?_⟩
      obtain ⟨i, hi, rfl⟩ := mem_lst.mp z
      exact (Int32.ne_of_lt (hs k (k + 1 + i) (by omega) (by omega))).symm
theorem mid_perm {x x0 : St_Parts} {P s k : Nat} (hk : k < P) : (midL x x0 P s k).Perm (crow x0 k :: midL x x0 P s (k + 1)) := by
  rw [midL_cons hk]
  exact List.perm_middle
theorem jminN {a b : Nat} (ha : a < 2 ^ 31) (hb : b < 2 ^ 31) : jmin (nI a) (nI b) = nI (min a b) := by
  unfold jmin
  by_cases h : b < a
  · rw [if_pos (nI_lt h ha), Nat.min_eq_right (by omega)]
  · rw [if_neg (nI_nlt (by omega) hb), Nat.min_eq_left (by omega)]
theorem P_shortenN {N P s : Nat} {x : St_Parts} (h : PL N x P) (hs : s ≤ P) : m_Parts_shorten x (nI s) = some (x.1, x.2.1, x.2.2.1, x.2.2.2.1, x.2.2.2.2.1, nI s) := by
  have hP := h.2.2.1
  have hN := h.2.2.2
  unfold m_Parts_shorten
  have e : jmax 0 (jmin x.2.2.2.2.2 (nI s)) = nI s := by
    rw [h.2.1, jminN (by omega) (by omega), Nat.min_eq_right hs]
    refine Eq.trans (show jmax (nI 0) (nI s) = _ from jmaxN (by omega) (by omega)) ?_
    rw [Nat.max_eq_right (by omega)]
  rw [e]
theorem PC_short {n P s : Nat} {x : St_Parts} (h : PL n x P) (hs : s ≤ P) (hl : ∀ i j, i < j → j < s → (crow x i).1 < (crow x j).1) : PC n (x.1, x.2.1, x.2.2.1, x.2.2.2.1, x.2.2.2.2.1, nI s) (lst (crow x) s) := by
  unfold PC
  rw [lst_len]
  exact ⟨⟨h.1, rfl, Nat.le_trans hs h.2.2.1, h.2.2.2, hl⟩, rfl⟩
theorem dp_L {n M P GP GM : Nat} {x0 : St_Parts} {lk lm L : List MKQ} (hn : 4 ≤ n ∧ n ≤ 512) (hs : ∀ i j, i < j → j < P → (crow x0 i).1 < (crow x0 j).1) : ∀ (d k s D nn fuel fuel' : Nat) (t : T3) (g : St_Log) (r : St_Ref), k + d = P → d < fuel → d + 1 < fuel' → Mid n (g_parts g) x0 P s k → MC (n / 2) (g_kept g) lk → (∀ j, k ≤ j → j < P → nI nn < (crow x0 j).1) → (∀ i, i < s → ¬ ((crow (g_parts g) i).1 ≤ nI M ∧ (lk ++ lm).countP (namB (crow (g_parts g) i).1) = 0)) → DI n t g r (midL (g_parts g) x0 P s k) lk lm L GP GM → (∃ a g' r', m_Log_dropParts_L7 fuel g (nI M) (nI s) (nI D) (nI k) = some (a, g') ∧ m_RRef_drop_L135 fuel' r (nI M) (nI D) (nI nn) 1 = some ((-5), r') ∧ Lost n g g' r r') ∨ (∃ a g' r' t' lp', m_Log_dropParts_L7 fuel g (nI M) (nI s) (nI D) (nI k) = some (nI a, g') ∧ m_RRef_drop_L135 fuel' r (nI M) (nI D) (nI nn) 1 = some (nI a, r') ∧ MC (n / 2) (g_kept g') lk ∧ PC n (g_parts g') lp' ∧ DI n t' g' r' lp' lk lm L GP GM ∧ DF g g' r r') := by
  intro d
  induction d with
  | zero =>
    intro k s D nn fuel fuel' t g r hd hf hf' hMid hK hlow hstay hD
    obtain ⟨fu, rfl, -⟩ := fu1 hf
    obtain ⟨fv, rfl, hfv⟩ := fu1 hf'
    obtain ⟨fw, rfl, -⟩ := fu1 (k := 0) (fuel := fv) (by omega)
    obtain ⟨hC, hR, hm, htr, ho, hro, hMM, hB, hPR, hMR, hL, hA⟩ := id hD
    have hkP : k = P := by omega
    have hPL := hMid.1
    have hsP : s ≤ P := by have := hMid.2.1; omega
    have hP5 : P ≤ 512 := Nat.le_trans hPL.2.2.1 hPL.2.2.2
    have emid : midL (g_parts g) x0 P s k = lst (crow (g_parts g)) s := by
      unfold midL
      rw [hkP, Nat.sub_self, lst_zero, List.append_nil]
    have hsz : m_Parts_size (g_parts g) = some (nI P) := by unfold m_Parts_size; rw [hPL.2.1]
    have hsh := P_shortenN hPL hsP
    rw [emid] at hD hPR hA hB
    obtain ⟨o', y1, y2, -, -⟩ := R_d146 (M := M) (nn := nn) hR hPR hMR hL hA hK hMM (fun (g19 : St_Ref) (v2_20 : Int32) (v3_21 : Int32) (v4_22 : Int32) (v6_23 : Int32) => if v6_23 = (-1) then
        (m_RRef_drop_L135 (fw + 1) g19 v2_20 v3_21 v4_22 0)
        else
        (if v6_23 < 0 ∨ (g_RpNumber g19).1 ≤ (v6_23).toNatClampNeg then none else if v6_23 < 0 ∨ (g_RpRow g19).1 ≤ (v6_23).toNatClampNeg then none else if v6_23 < 0 ∨ (g_RpLength g19).1 ≤ (v6_23).toNatClampNeg then none else (m_RRef_bodies ((g_RpLength g19).2 (v6_23).toNatClampNeg)).bind fun q28 => (m_RRef_takeBack g19 ((g_RpRow g19).2 (v6_23).toNatClampNeg) (1 + q28)).bind fun q29 => if q29.1 = 0 then
          (some ((-5), q29.2))
          else
          ((m_RRef_forgetPart q29.2 v6_23).bind fun q31 => m_RRef_drop_L135 (fw + 1) q31 v2_20 (v3_21 + 1) ((g_RpNumber g19).2 (v6_23).toNatClampNeg) 1))) (nI D) (lst (crow (g_parts g)) s).length FU 0 none (by omega) (FU_lt (by rw [lst_len]; omega)) (fun i e => by cases e)
    have hnone : o' = none := by
      cases o' with
      | none => rfl
      | some b =>
        obtain ⟨b1, b2, b3, b4⟩ := y2 b rfl
        obtain ⟨i, hi, ei⟩ := mem_lst.mp (PR_mem hPR b1)
        rw [← ei] at b3 b4
        exact absurd ⟨b3, b4⟩ (hstay i hi)
    right
    refine ⟨D, s_parts g ((g_parts g).1, (g_parts g).2.1, (g_parts g).2.2.1, (g_parts g).2.2.2.1, (g_parts g).2.2.2.2.1, nI s), r, t, lst (crow (g_parts g)) s, ?_, ?_, ?_, ?_, ⟨cs_parts hC ⟨_, (PC_short hPL hsP hMid.2.2.2.2.1).1.l⟩, hR, ?_, htr, ?_, hro, ?_, ?_, hPR, hMR, hL, hA⟩, ⟨?_, ?_, ?_, ?_, ?_, ?_, rfl, rfl, rfl⟩⟩
    · rw [m_Log_dropParts_L7, bs hsz, if_pos (nI_le (by omega) (by omega)), bs hsh]
    · rw [m_RRef_drop_L135, if_neg e10]
      refine Eq.trans y1 ?_
      rw [hnone]
      refine Eq.trans (if_pos (show rv none = (-1) from rfl)) ?_
      rw [m_RRef_drop_L135, if_pos rfl]
    · simp only [q_kept]; exact hK
    · simp only [q_parts]; exact PC_short hPL hsP hMid.2.2.2.2.1
    · simp only [q_medium]; exact hm
    · simp only [q_isOpen]; exact ho
    · simp only [q_made]; exact hMM
    · simp only [q_room]; exact hB
    · simp only [q_tape]
    · simp only [q_made]
    · simp only [q_owners]
    · simp only [q_serial]
    · simp only [q_greatestPart]
    · simp only [q_greatestMark]
  | succ d ih =>
    intro k s D nn fuel fuel' t g r hd hf hf' hMid hK hlow hstay hD
    obtain ⟨fu, rfl, hfu⟩ := fu1 hf
    obtain ⟨fv, rfl, hfv⟩ := fu1 hf'
    obtain ⟨hC, hR, hm, htr, ho, hro, hMM, hB, hPR, hMR, hL, hA⟩ := id hD
    have hkP : k < P := by omega
    have hPL := hMid.1
    have hP5 : P ≤ 512 := Nat.le_trans hPL.2.2.1 hPL.2.2.2
    have hsz : m_Parts_size (g_parts g) = some (nI P) := by unfold m_Parts_size; rw [hPL.2.1]
    have hck : crow (g_parts g) k = crow x0 k := hMid.2.2.2.1 k (Nat.le_refl _) hkP
    obtain ⟨q0, hq0⟩ : ∃ q0, q0 = crow x0 k := ⟨_, rfl⟩
    have hnum : m_Parts_numberAt (g_parts g) (nI k) = some q0.1 := by
      rw [P_numberAt hPL hkP, hq0, ← hck]; rfl
    have hrow : m_Parts_rowAt (g_parts g) (nI k) = some q0.2.2.2.1 := by
      rw [P_rowAt hPL hkP, hq0, ← hck]; rfl
    have hlen : m_Parts_lengthAt (g_parts g) (nI k) = some q0.2.2.1 := by
      rw [P_lengthAt hPL hkP, hq0, ← hck]; rfl
    have hin : q0 ∈ midL (g_parts g) x0 P s k := by
      rw [midL_cons hkP, hq0]
      exact List.mem_append.mpr (Or.inr List.mem_cons_self)
    have wn := (w_named hR hK hMM hMR hL hA q0.1).1
    have hcl : (lk ++ lm).countP (namB q0.1) < 2 ^ 31 := by
      have a1 := List.countP_le_length (p := namB q0.1) (l := lk ++ lm)
      have a2 := hL.length_eq
      have a3 := hMR.2.1
      omega
    by_cases hdr : q0.1 ≤ nI M ∧ (lk ++ lm).countP (namB q0.1) = 0
    · -- it goes
      obtain ⟨a0, b0, l0, w0, p1, p2, p3, p4, p5, p6, p7, p8, p9, p10⟩ := (hA.1 q0 hin).1
      obtain ⟨q, q01, g1, r1, b1, b2, hTC, hroom, hTR⟩ := tb_both hn hC hR hm htr ho (w := w0) (k := 1 + bod l0) (by omega)
      obtain ⟨o', y1, y2, -, y4⟩ := R_d146 (M := M) (nn := nn) hR hPR hMR hL hA hK hMM (fun (g19 : St_Ref) (v2_20 : Int32) (v3_21 : Int32) (v4_22 : Int32) (v6_23 : Int32) => if v6_23 = (-1) then
        (m_RRef_drop_L135 fv g19 v2_20 v3_21 v4_22 0)
        else
        (if v6_23 < 0 ∨ (g_RpNumber g19).1 ≤ (v6_23).toNatClampNeg then none else if v6_23 < 0 ∨ (g_RpRow g19).1 ≤ (v6_23).toNatClampNeg then none else if v6_23 < 0 ∨ (g_RpLength g19).1 ≤ (v6_23).toNatClampNeg then none else (m_RRef_bodies ((g_RpLength g19).2 (v6_23).toNatClampNeg)).bind fun q28 => (m_RRef_takeBack g19 ((g_RpRow g19).2 (v6_23).toNatClampNeg) (1 + q28)).bind fun q29 => if q29.1 = 0 then
          (some ((-5), q29.2))
          else
          ((m_RRef_forgetPart q29.2 v6_23).bind fun q31 => m_RRef_drop_L135 fv q31 v2_20 (v3_21 + 1) ((g_RpNumber g19).2 (v6_23).toNatClampNeg) 1))) (nI D) (midL (g_parts g) x0 P s k).length FU 0 none (by omega) (FU_lt (by rw [midL_len]; have := hMid.2.1; omega)) (fun i e => by cases e)
      obtain ⟨ib, hib, eib⟩ := (hPR.2.1 q0).mp hin
      obtain ⟨b, eb, leb⟩ := y4 ib (Nat.zero_le _) hib (by rw [eib, hq0]; exact hlow k (Nat.le_refl _) hkP) (by rw [eib]; exact hdr.1) (by rw [eib]; exact hdr.2)
      obtain ⟨c1, c2, c3, c4⟩ := y2 b eb
      rw [eib] at leb
      have hbq : rrow r b = q0 := by
        have hmem := PR_mem hPR c1
        rw [midL_cons hkP] at hmem
        rcases List.mem_append.mp hmem with z | z
        · obtain ⟨i, hi, ei⟩ := mem_lst.mp z
          rw [← ei] at c3 c4
          exact absurd ⟨c3, c4⟩ (hstay i hi)
        · rcases List.mem_cons.mp z with z | z
          · rw [hq0]; exact z
          · obtain ⟨i, hi, ei⟩ := mem_lst.mp z
            have ei' : crow x0 (k + 1 + i) = rrow r b := ei
            have := hs k (k + 1 + i) (by omega) (by omega)
            rw [ei', ← hq0] at this
            exact absurd leb (Int32.not_le.mpr this)
      have hlp5 : (midL (g_parts g) x0 P s k).length ≤ 520 := hPR.1.2.2
      have cb : (nI b).toNatClampNeg = b := nI_clamp (by omega)
      have b00 : ¬ (nI b < 0 ∨ 520 ≤ b) := by
        have := nI_in (c := b) (N := 520) (by omega) (by omega)
        rw [cb] at this
        exact this
      have er1 : (g_RpRow r).2 b = nI w0 := (congrArg (fun z : PQ => z.2.2.2.1) hbq).trans p8
      have er2 : (g_RpLength r).2 b = nI l0 := (congrArg (fun z : PQ => z.2.2.1) hbq).trans p6
      have er3 : (g_RpNumber r).2 b = nI a0 := (congrArg (fun z : PQ => z.1) hbq).trans p1
      have e1e : (1 : Int32) + nI (bod l0) = nI (1 + bod l0) := by rw [n1, nI_add]
      have runR : m_RRef_drop_L135 (fv + 1) r (nI M) (nI D) (nI nn) 1 = if q.1 = 0 then some ((-5), r1) else ((m_RRef_forgetPart r1 (nI b)).bind fun q31 => m_RRef_drop_L135 fv q31 (nI M) (nI (D + 1)) (nI a0) 1) := by
        rw [m_RRef_drop_L135, if_neg e10]
        refine Eq.trans y1 ?_
        rw [eb]
        refine Eq.trans (if_neg (show ¬ rv (some b) = (-1) from nI_m1 (by omega))) ?_
        rw [show rv (some b) = nI b from rfl, show (g_RpNumber r).1 = 520 from ri_pNumber hR, show (g_RpRow r).1 = 520 from ri_pRow hR, show (g_RpLength r).1 = 520 from ri_pLength hR, cb, if_neg b00, if_neg b00, if_neg b00, er1, er2, er3, bs (R_bodies (by omega)), e1e, bs b2, nI_1]
      have runC : m_Log_dropParts_L7 (fu + 1) g (nI M) (nI s) (nI D) (nI k) = m_Log_dropParts_L7 fu g1 (nI M) (nI s) (nI (D + 1)) (nI (k + 1)) := by
        rw [m_Log_dropParts_L7, bs hsz, if_neg (nI_ge (by omega) (by omega)), ho, if_neg e10, bs hnum, if_neg (Int32.not_lt.mpr hdr.1), bs wn, if_pos (show nI ((lk ++ lm).countP (namB q0.1)) = 0 by rw [hdr.2]; rfl), bs hrow, bs hlen, p6, p8, bs (C_rowsOfPart (by omega)), bs b1, nI_1, nI_1]
      rw [runC, runR]
      by_cases hz : q.1 = 0
      · left
        have go : g_isOpen g1 = 0 := by rw [hTC.2.2.1]; exact hz
        have hp1 : g_parts g1 = g_parts g := hTC.2.2.2.1
        obtain ⟨fw, rfl, -⟩ := fu1 (k := 0) (fuel := fu) (by omega)
        have hsP : s ≤ P := by have := hMid.2.1; omega
        have hsh := P_shortenN hPL hsP
        refine ⟨nI (D + 1), s_parts g1 ((g_parts g).1, (g_parts g).2.1, (g_parts g).2.2.1, (g_parts g).2.2.2.1, (g_parts g).2.2.2.2.1, nI s), r1, ?_, by rw [if_pos hz], cs_parts hTC.1 ⟨_, (PC_short hPL hsP hMid.2.2.2.2.1).1.l⟩, hTR.1, ?_, ?_, hTR.2.2.1 hz, ?_, hTR.2.2.2.2.1⟩
        · rw [m_Log_dropParts_L7, hp1, bs hsz, go, bs hsh]
          by_cases hcc : nI P ≤ nI (k + 1)
          · rw [if_pos hcc]
          · rw [if_neg hcc, if_pos rfl]
        · simp only [q_medium]; rw [hTC.2.1, hTR.2.1]; rfl
        · simp only [q_isOpen]; exact go
        · simp only [q_tape]; exact hTC.2.2.2.2.2.2.1
      · have h1 : q.1 = 1 := q01.resolve_left hz
        have hPR1 : PR r1 (midL (g_parts g) x0 P s k) := PR_fr hTR.2.2.2.2.2.1 hPR
        have hbq1 : rrow r1 b = q0 := by
          have e3 := hTR.2.2.2.2.2.1
          have : rrow r1 b = rrow r b := by
            unfold rrow
            rw [e_pNumber e3, e_pGroup e3, e_pPosition e3, e_pLength e3, e_pRow e3]
          rw [this]; exact hbq
        have f1 := R_forgetPart hPR1.1 c1
        have f2 := TR_forg hPR1 c1
        rw [hbq1] at f2
        have hlen2 : (midL (g_parts g) x0 P s k).length - 1 = (midL (g_parts g) x0 P s (k + 1)).length := by
          rw [midL_len, midL_len]; omega
        obtain ⟨r2, hr2⟩ : ∃ r2, r2 = rforg r1 b ((midL (g_parts g) x0 P s k).length - 1) := ⟨_, rfl⟩
        have hRI2 : RI n r2 := by rw [hr2]; exact RI_rforg hTR.1 _ _ (by omega)
        obtain ⟨v1, v2, v3, v4, v5⟩ := fr_rforg r1 b ((midL (g_parts g) x0 P s k).length - 1)
        rw [← hr2] at f1 f2 v1 v2 v3 v4 v5
        rw [hlen2] at f2
        have hPR2 : PR r2 (midL (g_parts g) x0 P s (k + 1)) := TR_congr f2 (fun p => by
          have := mid_mem hMid hs hkP p
          rw [← hq0] at this
          exact this)
        have hp := mid_perm (x := g_parts g) (x0 := x0) (P := P) (s := s) (k := k) hkP
        rw [← hq0] at hp
        have hA1 : Abs n (q0 :: midL (g_parts g) x0 P s (k + 1)) lk lm GP GM := Abs_perm hp (List.Perm.refl _) (List.Perm.refl _) hA
        have hA2 := Abs_dropP hA1 (by
          have := hdr.2
          rw [List.countP_append] at this
          omega)
        have hpI : pIv q0 = (w0, 1 + bod l0) := by
          unfold pIv
          rw [p6, p8, nI_clamp (by omega), nI_clamp (by omega)]
        have hpm : (ivs (midL (g_parts g) x0 P s k) lk).Perm ((w0, 1 + bod l0) :: ivs (midL (g_parts g) x0 P s (k + 1)) lk) := by
          have := ivs_perm hp (List.Perm.refl lk)
          refine this.trans ?_
          unfold ivs
          rw [List.map_cons, hpI]
          exact List.Perm.refl _
        have hB2 : BT n (g_room g1) (ivs (midL (g_parts g) x0 P s (k + 1)) lk) := by
          rw [hroom]
          exact BT_free (BT_perm hpm hB) (DJ_perm hpm hA.2.2.2.1)
        have hpp : g_parts g1 = g_parts g := hTC.2.2.2.1
        have hD2 : DI n q.2 g1 r2 (midL (g_parts g1) x0 P s (k + 1)) lk lm L GP GM := by
          rw [hpp]
          refine ⟨hTC.1, hRI2, hTC.2.1, ?_, ?_, ?_, ?_, hB2, hPR2, MR_fr (v3.trans hTR.2.2.2.2.2.2.1) hMR, hL, hA2⟩
          · rw [rtri_fr v1]; exact hTR.2.1
          · rw [hTC.2.2.1]; exact h1
          · rw [e_open v1, hTR.2.2.2.1 h1]; exact hro
          · rw [hTC.2.2.2.2.2.1]; exact hMM
        have hDF1 : DF g g1 r r2 := (DF_tb hTC hTR).tr ⟨rfl, rfl, rfl, rfl, rfl, rfl, v2, v4, v5⟩
        rw [if_neg hz, bs f1]
        rcases ih (k + 1) s (D + 1) a0 fu fv q.2 g1 r2 (by omega) (by omega) (by omega) (by rw [hpp]; exact mid_drop hMid hkP) (by rw [hTC.2.2.2.2.1]; exact hK) (fun j j1 j2 => by
          have := hs k j (by omega) j2
          rw [← hq0, p1] at this
          exact this) (by rw [hpp]; exact hstay) hD2 with ⟨a', g', r', s1, s2, s3⟩ | ⟨a', g', r', t', lp', s1, s2, s3, s4, s5, s6⟩
        · left
          refine ⟨a', g', r', s1, s2, s3.1, s3.2.1, s3.2.2.1, s3.2.2.2.1, s3.2.2.2.2.1, s3.2.2.2.2.2.1.trans hDF1.1, s3.2.2.2.2.2.2.trans hDF1.2.2.2.2.2.2.1⟩
        · right
          exact ⟨a', g', r', t', lp', s1, s2, s3, s4, s5, hDF1.tr s6⟩
    · -- it stays
      obtain ⟨x', m1, m2, m3⟩ := mid_move hMid hs hkP
      have hmrow : ∀ i, i < s + 1 → ¬ ((crow x' i).1 ≤ nI M ∧ (lk ++ lm).countP (namB (crow x' i).1) = 0) := by
        have hmv := P_move hPL (a := k) (b := s) hkP (by have := hMid.2.1; omega)
        rw [hmv] at m1
        have e := Option.some.inj m1
        intro i hi
        rw [← e, crow_upR]
        by_cases his : i = s
        · rw [if_pos his, hck, ← hq0]; exact hdr
        · rw [if_neg his]; exact hstay i (by omega)
      have runC : m_Log_dropParts_L7 (fu + 1) g (nI M) (nI s) (nI D) (nI k) = m_Log_dropParts_L7 fu (s_parts g x') (nI M) (nI (s + 1)) (nI D) (nI (k + 1)) := by
        rw [m_Log_dropParts_L7, bs hsz, if_neg (nI_ge (by omega) (by omega)), ho, if_neg e10, bs hnum]
        by_cases z1 : nI M < q0.1
        · rw [if_pos z1, bs m1, nI_1, nI_1]
        · rw [if_neg z1, bs wn, if_neg (nI_ne0 (by have : (lk ++ lm).countP (namB q0.1) ≠ 0 := fun z => hdr ⟨Int32.not_lt.mp z1, z⟩; omega) hcl), bs m1, nI_1, nI_1]
      have hpx : g_parts (s_parts g x') = x' := by simp only [q_parts]
      have hD2 : DI n t (s_parts g x') r (midL (g_parts (s_parts g x')) x0 P (s + 1) (k + 1)) lk lm L GP GM := by
        rw [hpx, m3]
        refine ⟨cs_parts hC ⟨_, m2.1⟩, hR, ?_, htr, ?_, hro, ?_, ?_, hPR, hMR, hL, hA⟩
        · simp only [q_medium]; exact hm
        · simp only [q_isOpen]; exact ho
        · simp only [q_made]; exact hMM
        · simp only [q_room]; exact hB
      have hDF1 : DF g (s_parts g x') r r := ⟨by simp only [q_tape], by simp only [q_made], by simp only [q_owners], by simp only [q_serial], by simp only [q_greatestPart], by simp only [q_greatestMark], rfl, rfl, rfl⟩
      rw [runC]
      rcases ih (k + 1) (s + 1) D nn fu (fv + 1) t (s_parts g x') r (by omega) (by omega) (by omega) (by rw [hpx]; exact m2) (by simp only [q_kept]; exact hK) (fun j j1 j2 => hlow j (by omega) j2) (by rw [hpx]; exact hmrow) hD2 with ⟨a', g', r', s1, s2, s3⟩ | ⟨a', g', r', t', lp', s1, s2, s3, s4, s5, s6⟩
      · left
        refine ⟨a', g', r', s1, s2, s3.1, s3.2.1, s3.2.2.1, s3.2.2.2.1, s3.2.2.2.2.1, s3.2.2.2.2.2.1.trans hDF1.1, s3.2.2.2.2.2.2⟩
      · right
        exact ⟨a', g', r', t', lp', s1, s2, s3, s4, s5, hDF1.tr s6⟩
-- DROP
theorem nsub_neg {a b : Nat} (hb : b < 2 ^ 31) (h : a < b) : nI a - nI b < 0 := by
  rw [Int32.lt_iff_toInt_lt, Int32.toInt_sub, nI_toInt (by omega), nI_toInt hb, show (0 : Int32).toInt = 0 from by decide, Int.bmod_eq_of_le (by omega) (by omega)]
  omega
theorem Rel_lost {n : Nat} {g g' : St_Log} {r r' : St_Ref} (hc : Cor n g r) (h : Lost n g g' r r') : Rel n g' r' := by
  obtain ⟨hn, hC, hR, ht, ho, ts, hb, e1, e2⟩ := hc
  obtain ⟨a1, a2, a3, a4, a5, a6, a7⟩ := h
  refine ⟨⟨hn, a1, a2, a3, by rw [a4, a5], ts, by rw [a6]; exact hb, by rw [e_taped a7]; exact e1, fun j hj => by rw [a6, e_tape a7]; exact e2 j hj⟩, fun e => ?_⟩
  rw [a4] at e
  exact absurd e (by decide)
theorem Rel_DI {n : Nat} {t : T3} {g g' : St_Log} {r r' : St_Ref} {lp : List PQ} {lk lm L : List MKQ} {GP GM : Nat} (hc : Cor n g r) (hD : DI n t g' r' lp lk lm L GP GM) (hK : MC (n / 2) (g_kept g') lk) (hP : PC n (g_parts g') lp) (hF : DF g g' r r') (hN : Nums g r GP GM) (hH : Hds g r) : Rel n g' r' := by
  obtain ⟨hn, hC, hR, ht, ho, ts, hb, e1, e2⟩ := hc
  obtain ⟨dC, dR, dm, dtr, dop, dro, dMM, dB, dPR, dMR, dL, dA⟩ := hD
  obtain ⟨f1, f2, f3, f4, f5, f6, f7, f8, f9⟩ := hF
  refine ⟨⟨hn, dC, dR, ?_, by rw [dop, dro], ts, by rw [f1]; exact hb, by rw [e_taped f7]; exact e1, fun j hj => by rw [f1, e_tape f7]; exact e2 j hj⟩, fun _ => ⟨lp, lk, lm, L, GP, GM, ⟨hP, hK, dMM, dB⟩, ⟨dPR, dMR⟩, dL, dA, Nums_fr f5 f6 f9 hN, Hds_fr f3 f4 f8 hH⟩⟩
  rw [dm, dtr]; rfl
theorem drop_fin {n : Nat} {t : T3} {g0 g : St_Log} {r0 r : St_Ref} {lp : List PQ} {lk lm L : List MKQ} {GP GM M : Nat} (hc : Cor n g0 r0) (hD : DI n t g r lp lk lm L GP GM) (hK : MC (n / 2) (g_kept g) lk) (hP : PC n (g_parts g) lp) (hF : DF g0 g r0 r) (hN : Nums g0 r0 GP GM) (hH : Hds g0 r0) : ∃ a g' r', ((m_Log_dropParts g (nI M)).bind fun q7 => if (g_isOpen q7.2) = 0 then (some ((-5), q7.2)) else (some (q7.1, q7.2))) = some (a, g') ∧ m_RRef_drop_L135 FU r (nI M) 0 0 1 = some (a, r') ∧ Rel n g' r' := by
  obtain ⟨hn, -⟩ := id hc
  have hPS := hP.1
  have hlen := hPS.2.2.1
  have hlen2 := hPS.2.2.2.1
  have emid : midL (g_parts g) (g_parts g) lp.length 0 0 = lp := by
    unfold midL
    rw [lst_zero, List.nil_append, Nat.sub_zero, lst_congr (g := crow (g_parts g)) (fun j _ => by rw [Nat.zero_add])]
    exact hP.2
  have hD' : DI n t g r (midL (g_parts g) (g_parts g) lp.length 0 0) lk lm L GP GM := by rw [emid]; exact hD
  have hMid : Mid n (g_parts g) (g_parts g) lp.length 0 0 := ⟨hPS.l, Nat.le_refl _, Nat.zero_le _, fun j _ _ => rfl, fun i j _ hj => absurd hj (by omega), fun i j hi => absurd hi (by omega)⟩
  have hlow : ∀ j, 0 ≤ j → j < lp.length → nI 0 < (crow (g_parts g) j).1 := by
    intro j _ hj
    obtain ⟨a, b, l, w, p1, p2, p3, -⟩ := (hD.2.2.2.2.2.2.2.2.2.2.2.1 _ (PC_mem hP hj)).1
    rw [p1]
    exact nI_lt (by omega) (by omega)
  unfold m_Log_dropParts
  rcases dp_L (M := M) hn hPS.2.2.2.2 lp.length 0 0 0 0 FU FU t g r (by omega) (FU_lt (by omega)) (FU_lt (by omega)) hMid hK hlow (fun i hi => absurd hi (by omega)) hD' with ⟨a', g', r', s1, s2, s3⟩ | ⟨a', g', r', t', lp', s1, s2, s3, s4, s5, s6⟩
  · refine ⟨-5, g', r', ?_, s2, Rel_lost hc ⟨s3.1, s3.2.1, s3.2.2.1, s3.2.2.2.1, s3.2.2.2.2.1, s3.2.2.2.2.2.1.trans hF.1, s3.2.2.2.2.2.2.trans hF.2.2.2.2.2.2.1⟩⟩
    refine Eq.trans (bs (show m_Log_dropParts_L7 FU g (nI M) 0 0 0 = _ from s1)) ?_
    exact if_pos s3.2.2.2.1
  · refine ⟨nI a', g', r', ?_, s2, Rel_DI hc s5 s3 s4 (hF.tr s6) hN hH⟩
    refine Eq.trans (bs (show m_Log_dropParts_L7 FU g (nI M) 0 0 0 = _ from s1)) ?_
    refine if_neg ?_
    show ¬ g_isOpen g' = 0
    rw [s5.2.2.2.2.1]; decide
theorem st_drop {n : Nat} {g : St_Log} {r : St_Ref} (h : Rel n g r) (p : Int32) : ∃ a g' r', m_Log_drop g p = some (a, g') ∧ m_RRef_drop r p = some (a, r') ∧ Rel n g' r' := by
  obtain ⟨hc, hT⟩ := id h
  obtain ⟨hn, hC, hR, ht, ho, hts⟩ := id hc
  unfold m_Log_drop m_RRef_drop
  by_cases hop : g_isOpen g = 0
  · have hop' : g_Ropen r = 0 := by rw [← ho]; exact hop
    exact ⟨-3, g, r, by rw [if_pos hop], by rw [if_pos hop'], h⟩
  · have ho1 := open_1 hC hop
    have hop' : ¬ g_Ropen r = 0 := by rw [← ho]; exact hop
    rw [if_neg hop, if_neg hop']
    by_cases hp0 : 0 ≤ p
    · rw [if_pos hp0, if_pos hp0]
      obtain ⟨pp, hpp, rfl⟩ := nI_of (x := p) (Int32.not_lt.mpr hp0)
      obtain ⟨lp, lk, lm, L, GP, GM, hTC, hTR, hL, hA, hN, hH⟩ := hT ho1
      have hG := hA.2.2.2.2.2.1
      obtain ⟨xk, hxk⟩ : ∃ xk, xk = g_kept g := ⟨_, rfl⟩
      have hK := hTC.2.1
      have hKs : m_Marks_size (g_kept g) = some (nI lk.length) := by unfold m_Marks_size; rw [hK.1.1.2.1]
      have hlN := hK.1.1.2.2.1
      have hLl := hTR.2.2.1
      obtain ⟨M, a1, a2⟩ := C_gP_L hG hK (fun m hm => ⟨(hA.2.1 m hm).1, (hA.2.1 m hm).2.1⟩) lk.length FU 0 0 (by omega) (FU_lt (by omega)) (by omega)
      have el : lst (fun j => mrow (g_kept g) (0 + j)) lk.length = lk := by
        rw [lst_congr (g := mrow (g_kept g)) (fun j _ => by rw [Nat.zero_add])]
        exact hK.2
      rw [el] at a2
      obtain ⟨M', b1, b2⟩ := R_d21 hn.2 hG hR hTR.2 (fun m hm => by
        rcases List.mem_append.mp (hL.mem_iff.mp hm) with z | z
        · exact ⟨Or.inl (hA.2.1 m z).1, (hA.2.1 m z).2.1⟩
        · exact ⟨Or.inr (hA.2.2.1 m z).1, (hA.2.2.1 m z).2.1⟩) (nI pp) L.length FU 0 0 (by omega) (FU_lt (by omega)) (by omega)
      have el2 : lst (fun j => qrow r (0 + j)) L.length = L := by
        rw [lst_congr (g := qrow r) (fun j _ => by rw [Nat.zero_add])]
        exact hTR.2.2.2.1
      rw [el2] at b2
      have hMM : M = M' := IsMx_un a2 b2 (fun m => by
        rw [List.mem_filter]
        constructor
        · intro hm
          refine ⟨hL.mem_iff.mpr (List.mem_append.mpr (Or.inl hm)), ?_⟩
          obtain ⟨_, _, w, _, _, _, _, _, _, p7, p8, p9⟩ := (hA.2.1 m hm).1
          unfold kpB
          rw [decide_eq_true_eq, p7]
          exact nI_m1 (by omega)
        · rintro ⟨hm, hb⟩
          rcases List.mem_append.mp (hL.mem_iff.mp hm) with z | z
          · exact z
          · obtain ⟨_, _, _, _, _, _, _, _, s7, _⟩ := (hA.2.2.1 m z).1
            unfold kpB at hb
            rw [decide_eq_true_eq] at hb
            exact absurd s7 hb)
      subst hMM
      have gp : m_Marks_greatestPart (g_kept g) = some (nI M) := a1
      rw [bs gp, bs hKs]
      have hRd : m_RRef_drop_L21 FU r (nI pp) 0 0 = m_RRef_drop_L78 FU r (nI pp) (nI M) := b1
      rw [hRd]
      have hD : DI n (rtri r) g r lp lk lm L GP GM := ⟨hC, hR, by rw [← ht]; exact g_mk3 hC, rfl, ho1, by rw [← ho]; exact ho1, hTC.2.2.1, hTC.2.2.2, hTR.1, hTR.2, hL, hA⟩
      by_cases hle : pp ≤ lk.length
      · obtain ⟨c, hcl⟩ : ∃ c, lk.length = c + pp := ⟨lk.length - pp, by omega⟩
        have ec : nI lk.length - nI pp = nI c := by rw [pk_sub hle, hcl, Nat.add_sub_cancel]
        rw [ec]
        have hD' : DI n (rtri r) g r lp (lst (fun k => mrow (g_kept g) (0 + k)) (lk.length - 0)) lm L GP GM := by rw [Nat.sub_zero, el]; exact hD
        rcases dm_L (pp := pp) (c := c) (xk := g_kept g) (len := lk.length) (lp := lp) (lm := lm) (GP := GP) (GM := GM) hn hK.1 hcl (nI M) c 0 FU FU (rtri r) g r L (by omega) (FU_lt (by omega)) (FU_lt (by omega)) rfl hTC.1 hD' with ⟨g', r', s1, s2, s3⟩ | ⟨g', r', t', L', s1, s2, s3, s4, s5, s6⟩
        · refine ⟨-5, g', r', ?_, s2, Rel_lost hc s3⟩
          refine Eq.trans (bs (show m_Log_dropMarks g (nI c) = _ from s1)) ?_
          exact if_pos rfl
        · obtain ⟨a, g2, r2, z1, z2, z3⟩ := drop_fin (M := M) hc s5 s3 s4 s6 hN hH
          refine ⟨a, g2, r2, ?_, ?_, z3⟩
          · refine Eq.trans (bs (show m_Log_dropMarks g (nI c) = _ from s1)) ?_
            refine Eq.trans (if_neg e10) ?_
            exact z1
          · rw [s2]; exact z2
      · have hng := nsub_neg (a := lk.length) (b := pp) hpp (by omega)
        obtain ⟨v, hv⟩ : ∃ v, v = nI lk.length - nI pp := ⟨_, rfl⟩
        rw [← hv] at hng
        rw [← hv]
        have hrf : m_Marks_removeFirst (g_kept g) v = some (g_kept g) := by
          unfold m_Marks_removeFirst
          rw [if_neg (Int32.not_lt.mpr (Int32.le_of_lt hng))]
        have hsk : s_kept g (g_kept g) = g := rfl
        have s1 : m_Log_dropMarks g v = some (1, g) := by
          unfold m_Log_dropMarks
          obtain ⟨fu, hfu, -⟩ := fu1 (k := 0) (fuel := FU) (FU_lt (by omega))
          rw [hfu, m_Log_dropMarks_L2, if_pos (Int32.le_of_lt hng), bs hrf, ho1, if_neg e11, hsk]
        have s2 : m_RRef_drop_L78 FU r (nI pp) (nI M) = m_RRef_drop_L135 FU r (nI M) 0 0 1 := by
          obtain ⟨fu, hfu, -⟩ := fu1 (k := 0) (fuel := FU) (FU_lt (by omega))
          have cnt := (R_count hR hn.2 hTR.2 hL hA).2
          have : m_RRef_drop_L78 (fu + 1) r (nI pp) (nI M) = m_RRef_drop_L135 FU r (nI M) 0 0 1 := by
            rw [m_RRef_drop_L78, bs cnt, if_pos (nI_le (by omega) hpp)]
          rw [← hfu] at this
          exact this
        obtain ⟨a, g2, r2, z1, z2, z3⟩ := drop_fin (M := M) hc hD hK hTC.1 (DF.rf g r) hN hH
        refine ⟨a, g2, r2, ?_, ?_, z3⟩
        · refine Eq.trans (bs s1) ?_
          refine Eq.trans (if_neg e10) ?_
          exact z1
        · rw [s2]; exact z2
    · rw [if_neg hp0, if_neg hp0]
      exact ⟨-2, g, r, rfl, rfl, h⟩
