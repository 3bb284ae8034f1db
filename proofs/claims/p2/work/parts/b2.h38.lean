-- IN: rooms for the PARTS
theorem nbv {x : Int32} (h : x = 0 ∨ x = 1) : vp_nar .boolean x = x := by
  rcases h with h | h
  · rw [h]; exact nb0
  · rw [h]; exact nb1
theorem C_copy_L {n : Nat} {y : St_Room} (hy : y.1 = n) (hn : n ≤ 512) (hb : ∀ j, y.2 j = 0 ∨ y.2 j = 1) : ∀ (d fuel i : Nat) (f : Nat → Int32), i + d = n → d < fuel → (∀ j, j < i → f j = y.2 j) → ∃ f', m_Room_copyFrom_L7 y fuel (n, f) (nI i) = some (n, f') ∧ ∀ j, j < n → f' j = y.2 j := by
  intro d
  induction d with
  | zero =>
    intro fuel i f hi hf h
    obtain ⟨fu, rfl, -⟩ := fu1 hf
    refine ⟨f, ?_, fun j hj => h j (by omega)⟩
    rw [m_Room_copyFrom_L7, if_pos (nI_le (by show n ≤ i; omega) (by omega))]
  | succ d ih =>
    intro fuel i f hi hf h
    obtain ⟨fu, rfl, hfu⟩ := fu1 hf
    have ci : (nI i).toNatClampNeg = i := nI_clamp (by omega)
    have i0 : ¬ (nI i < 0 ∨ n ≤ i) := by
      have := nI_in (c := i) (N := n) (by omega) (by omega)
      rw [ci] at this
      exact this
    have hge : ¬ nI n ≤ nI i := nI_ge (by omega) (by omega)
    obtain ⟨f', a1, a2⟩ := ih fu (i + 1) (upd f i (y.2 i)) (by omega) (by omega) (fun j hj => by
      unfold upd
      by_cases e : j = i
      · rw [if_pos e, e]
      · rw [if_neg e]; exact h j (by omega))
    refine ⟨f', ?_, a2⟩
    rw [m_Room_copyFrom_L7]
    refine Eq.trans (if_neg hge) ?_
    rw [hy, ci, nbv (hb i), nI_1]
    refine Eq.trans (if_neg hge) ?_
    refine Eq.trans (if_neg i0) ?_
    refine Eq.trans (if_neg i0) ?_
    exact a1
theorem C_copy {n : Nat} {x y : St_Room} (hx : x.1 = n) (hy : y.1 = n) (hn : n ≤ 512) (hb : ∀ j, y.2 j = 0 ∨ y.2 j = 1) : ∃ f', m_Room_copyFrom x y = some (n, f') ∧ ∀ j, j < n → f' j = y.2 j := by
  obtain ⟨f', a1, a2⟩ := C_copy_L hy hn hb n FU 0 x.2 (by omega) (FU_lt (by omega)) (fun j hj => absurd hj (by omega))
  have hx2 : x = (n, x.2) := Prod.ext hx rfl
  refine ⟨f', ?_, a2⟩
  unfold m_Room_copyFrom
  rw [hx2]
  exact a1
theorem setF_step (f : Nat → Int32) (a d : Nat) (v : Int32) : setF (upd f a v) (a + 1) d v = setF f a (d + 1) v := by
  funext j
  unfold setF upd
  by_cases h : j = a
  · rw [if_pos h, if_neg (by omega), if_pos (by omega)]
  · rw [if_neg h]
    by_cases h2 : a + 1 ≤ j ∧ j < a + 1 + d
    · rw [if_pos h2, if_pos (by omega)]
    · rw [if_neg h2, if_neg (by omega)]
theorem setF_0 (f : Nat → Int32) (a : Nat) (v : Int32) : setF f a 0 v = f := by
  funext j
  unfold setF
  rw [if_neg (by omega)]
theorem ext_Ref {a b : St_Ref} (h0 : g_Rmedium a = g_Rmedium b) (h1 : g_Rrows a = g_Rrows b) (h2 : g_Ropen a = g_Ropen b) (h3 : g_RcutIn a = g_RcutIn b) (h4 : g_Rwritten a = g_Rwritten b) (h5 : g_Rtape a = g_Rtape b) (h6 : g_Rtaped a = g_Rtaped b) (h7 : g_RpNumber a = g_RpNumber b) (h8 : g_RpGroup a = g_RpGroup b) (h9 : g_RpPosition a = g_RpPosition b) (h10 : g_RpLength a = g_RpLength b) (h11 : g_RpRow a = g_RpRow b) (h12 : g_Rparts a = g_Rparts b) (h13 : g_RmNumber a = g_RmNumber b) (h14 : g_RmRow a = g_RmRow b) (h15 : g_RmCount a = g_RmCount b) (h16 : g_RmDigest a = g_RmDigest b) (h17 : g_RmPart a = g_RmPart b) (h18 : g_RmPartRow a = g_RmPartRow b) (h19 : g_RmPartDigest a = g_RmPartDigest b) (h20 : g_Rmarks a = g_Rmarks b) (h21 : g_Rowners a = g_Rowners b) (h22 : g_Rserial a = g_Rserial b) (h23 : g_RlastPart a = g_RlastPart b) (h24 : g_RlastMark a = g_RlastMark b) (h25 : g_Rused a = g_Rused b) (h26 : g_Rdraft a = g_Rdraft b) (h27 : g_Rspoint a = g_Rspoint b) (h28 : g_Rplaces a = g_Rplaces b) : a = b := Prod.ext h0 (Prod.ext h1 (Prod.ext h2 (Prod.ext h3 (Prod.ext h4 (Prod.ext h5 (Prod.ext h6 (Prod.ext h7 (Prod.ext h8 (Prod.ext h9 (Prod.ext h10 (Prod.ext h11 (Prod.ext h12 (Prod.ext h13 (Prod.ext h14 (Prod.ext h15 (Prod.ext h16 (Prod.ext h17 (Prod.ext h18 (Prod.ext h19 (Prod.ext h20 (Prod.ext h21 (Prod.ext h22 (Prod.ext h23 (Prod.ext h24 (Prod.ext h25 (Prod.ext h26 (Prod.ext h27 (h28))))))))))))))))))))))))))))
theorem sr_up (r : St_Ref) (a b p : AI) : s_Rused (s_Rplaces (s_Rused r a) p) b = s_Rplaces (s_Rused r b) p := ext_Ref (by simp only [qR_medium]) (by simp only [qR_rows]) (by simp only [qR_open]) (by simp only [qR_cutIn]) (by simp only [qR_written]) (by simp only [qR_tape]) (by simp only [qR_taped]) (by simp only [qR_pNumber]) (by simp only [qR_pGroup]) (by simp only [qR_pPosition]) (by simp only [qR_pLength]) (by simp only [qR_pRow]) (by simp only [qR_parts]) (by simp only [qR_mNumber]) (by simp only [qR_mRow]) (by simp only [qR_mCount]) (by simp only [qR_mDigest]) (by simp only [qR_mPart]) (by simp only [qR_mPartRow]) (by simp only [qR_mPartDigest]) (by simp only [qR_marks]) (by simp only [qR_owners]) (by simp only [qR_serial]) (by simp only [qR_lastPart]) (by simp only [qR_lastMark]) (by simp only [qR_used]) (by simp only [qR_draft]) (by simp only [qR_spoint]) (by simp only [qR_places])
theorem sr_pl (r : St_Ref) (a b : AI) : s_Rplaces (s_Rplaces r a) b = s_Rplaces r b := rfl
theorem R_i135 {r : St_Ref} {pl : AI} (kk : St_Ref → Int32 → Int32 → Int32 → Int32 → Option (Int32 × St_Ref)) (v2 v3 v4 : Int32) {len w : Nat} (hl : len ≤ 155) (hw : w + (1 + bod len) ≤ 512) : ∀ (d fuel j : Nat) (u : Nat → Int32), j + d = 1 + bod len → d < fuel → m_RRef_in__L135 kk fuel (s_Rplaces (s_Rused r (512, u)) pl) v2 v3 v4 (nI len) (nI w) (nI j) = kk (s_Rplaces (s_Rused r (512, setF u (w + j) d 1)) pl) v2 v3 v4 (nI len) := by
  intro d
  induction d with
  | zero =>
    intro fuel j u hj hf
    obtain ⟨fu, rfl, -⟩ := fu1 hf
    rw [m_RRef_in__L135, bs (R_bodies (by omega)), if_pos (nI_lt (by omega) (by omega)), setF_0]
  | succ d ih =>
    intro fuel j u hj hf
    obtain ⟨fu, rfl, hfu⟩ := fu1 hf
    have ci : (nI (w + j)).toNatClampNeg = w + j := nI_clamp (by omega)
    have i0 : ¬ (nI (w + j) < 0 ∨ 512 ≤ w + j) := by
      have := nI_in (c := w + j) (N := 512) (by omega) (by omega)
      rw [ci] at this
      exact this
    have k := ih fu (j + 1) (upd u (w + j) 1) (by omega) (by omega)
    rw [← Nat.add_assoc, setF_step] at k
    rw [m_RRef_in__L135, bs (R_bodies (by omega)), if_neg (nI_nlt (by omega) (by omega)), nI_add, ci, nb1, nI_1]
    simp only [qR_used]
    rw [if_neg i0, sr_up]
    exact k
/-- the rows that d PARTS get, one behind the other -/
def Pl (n : Nat) (f : Nat → Int32) : Nat → Nat → (Nat → Int32) → (Nat → Nat) → Prop
  | 0, _, _, _ => True
  | d + 1, p, b, ws => runF b (1 + bod (tl f p)) (n - 2) 0 2 = some (ws 0) ∧ Pl n f d (p + 11 + tl f p) (setF b (ws 0) (1 + bod (tl f p)) 1) (fun i => ws (i + 1))
theorem ss_trial (g : St_Log) (a b : St_Room) : s_trial (s_trial g a) b = s_trial g b := rfl
theorem SPk_ge {f : Nat → Int32} {ts : Nat} : ∀ (d p : Nat), SPk f ts d p → p + 8 ≤ ts := by
  intro d
  induction d with
  | zero => intro p h; exact Nat.le_of_eq h
  | succ d ih =>
    intro p h
    have := ih _ h.2.2.2
    omega
theorem rm_L {n c ts : Nat} {g : St_Log} {r0 : St_Ref} (hn : 4 ≤ n ∧ n ≤ 512) (hb : BB 2000 (g_tape g) ts) (hrt : (g_Rtape r0).1 = 2000) (he : ∀ j, j < ts → (g_tape g).1.2 j = (g_Rtape r0).2 j) (hrw : g_Rrows r0 = nI n) (hc : c ≤ 12) : ∀ (d k p fuel fuel' : Nat) (b u pf : Nat → Int32), k + d = c → d < fuel → d < fuel' → SPk (g_tape g).1.2 ts d p → (∀ j, 2 ≤ j → j < n → (u j = 0 ↔ b j = 0)) → (∃ b' u' pf', m_Log_isRoomForSavepoint_L51 fuel (s_trial g (n, b)) (nI c) (nI p) (nI k) = some (0, s_trial g (n, b')) ∧ m_RRef_in__L80 fuel' (s_Rplaces (s_Rused r0 (512, u)) (12, pf)) (nI c) (nI p) (nI k) = some ((-4), s_Rplaces (s_Rused r0 (512, u')) (12, pf'))) ∨ (∃ (b' u' pf' : Nat → Int32) (ws : Nat → Nat), m_Log_isRoomForSavepoint_L51 fuel (s_trial g (n, b)) (nI c) (nI p) (nI k) = some (1, s_trial g (n, b')) ∧ m_RRef_in__L80 fuel' (s_Rplaces (s_Rused r0 (512, u)) (12, pf)) (nI c) (nI p) (nI k) = m_RRef_in__L181 FU (s_Rplaces (s_Rused r0 (512, u')) (12, pf')) (nI c) 2 0 ∧ Pl n (g_tape g).1.2 d p b ws ∧ (∀ i, i < d → pf' (k + i) = nI (ws i)) ∧ ∀ j, j < k → pf' j = pf j) := by
  have hts := hb.2.2.1
  have qt : ∀ x, g_tape (s_trial g x) = g_tape g := fun x => by simp only [q_tape]
  have hbT : ∀ x, BB 2000 (g_tape (s_trial g x)) ts := fun x => by rw [qt]; exact hb
  intro d
  induction d with
  | zero =>
    intro k p fuel fuel' b u pf hk hf hf' hS hub
    obtain ⟨fu, rfl, -⟩ := fu1 hf
    obtain ⟨fv, rfl, -⟩ := fu1 hf'
    right
    refine ⟨b, u, pf, fun _ => 0, ?_, ?_, trivial, fun i hi => absurd hi (by omega), fun j _ => rfl⟩
    · rw [m_Log_isRoomForSavepoint_L51, if_pos (nI_le (by omega) (by omega))]
    · rw [m_RRef_in__L80, if_pos (nI_le (by omega) (by omega))]
  | succ d ih =>
    intro k p fuel fuel' b u pf hk hf hf' hS hub
    obtain ⟨fu, rfl, hfu⟩ := fu1 hf
    obtain ⟨fv, rfl, hfv⟩ := fu1 hf'
    obtain ⟨S1, S2, S3, S4⟩ := hS
    have hl := C_len (hbT (n, b)) (p := p) (by omega)
    rw [qt] at hl
    obtain ⟨l, hld⟩ : ∃ l, l = tl (g_tape g).1.2 p := ⟨_, rfl⟩
    rw [← hld] at S1 S2 S4 hl
    have hrc : 1 ≤ 1 + bod l ∧ 1 + bod l ≤ 1000 := by unfold bod; omega
    have e1 : numF (g_Rtape r0).2 (p + 9) 2 = numF (g_tape g).1.2 (p + 9) 2 := numF_congr (fun i _ h2 => (he i (by omega)).symm)
    have b1 := r_number (x := g_Rtape r0) (a := p + 9) (K := 2) (by rw [hrt]; omega) (by rw [hrt]; omega) (by omega)
    rw [e1] at b1
    have c9 : nI p + 9 = nI (p + 9) := by rw [n9, nI_add]
    have c2 : (2 : Int32) = nI 2 := n2
    have e1b : (1 : Int32) + nI (bod l) = nI (1 + bod l) := by rw [n1, nI_add]
    have el : (numF (g_tape g).1.2 (p + 9) 2).toInt32 = nI l := by rw [hld]; exact (tl_s _ p).1
    have hT : g_trial (s_trial g (n, b)) = (n, b) := by simp only [q_trial]
    have k1 := C_firstRun (x := (n, b)) (n := n) rfl hn hrc
    have k2 := R_room (g := s_Rplaces (s_Rused r0 (512, u)) (12, pf)) (f := u) (n := n) (by simp only [qR_used]) (by simp only [qR_rows]; exact hrw) hn hrc
    rw [runF_congr (b := u) (b' := b) (1 + bod l) (n - 2) 0 2 (fun j j1 j2 => hub j j1 (by omega))] at k2
    have ck : (nI k).toNatClampNeg = k := nI_clamp (by omega)
    have k0 : ¬ (nI k < 0 ∨ 12 ≤ k) := by
      have := nI_in (c := k) (N := 12) (by omega) (by omega)
      rw [ck] at this
      exact this
    have hrtp : g_Rtape (s_Rplaces (s_Rused r0 (512, u)) (12, pf)) = g_Rtape r0 := by simp only [qR_tape]
    have hrpl : g_Rplaces (s_Rplaces (s_Rused r0 (512, u)) (12, pf)) = (12, pf) := by simp only [qR_places]
    have runC : m_Log_isRoomForSavepoint_L51 (fu + 1) (s_trial g (n, b)) (nI c) (nI p) (nI k) = if rv (runF b (1 + bod l) (n - 2) 0 2) = (-1) then some (0, s_trial g (n, b)) else ((m_Room_take (n, b) (rv (runF b (1 + bod l) (n - 2) 0 2)) (nI (1 + bod l))).bind fun q11 => (m_Log_behindPart (s_trial (s_trial g (n, b)) q11) (nI p)).bind fun q12 => m_Log_isRoomForSavepoint_L51 fu (s_trial (s_trial g (n, b)) q11) (nI c) q12 (nI (k + 1))) := by
      rw [m_Log_isRoomForSavepoint_L51, if_neg (nI_ge (by omega) (by omega)), bs hl, bs (C_rowsOfPart (by omega)), hT, bs k1, nI_1]
    have runR : m_RRef_in__L80 (fv + 1) (s_Rplaces (s_Rused r0 (512, u)) (12, pf)) (nI c) (nI p) (nI k) = if rv (runF b (1 + bod l) (n - 2) 0 2) = (-1) then some ((-4), s_Rplaces (s_Rused r0 (512, u)) (12, pf)) else m_RRef_in__L135 (fun (g28 : St_Ref) (v2_29 : Int32) (v3_30 : Int32) (v4_31 : Int32) (v5_32 : Int32) => m_RRef_in__L80 fv g28 v2_29 (v3_30 + (11 + v5_32)) (v4_31 + 1)) FU (s_Rplaces (s_Rused r0 (512, u)) (12, upd pf k (rv (runF b (1 + bod l) (n - 2) 0 2)))) (nI c) (nI p) (nI k) (nI l) (rv (runF b (1 + bod l) (n - 2) 0 2)) 0 := by
      rw [m_RRef_in__L80, if_neg (nI_ge (by omega) (by omega)), hrtp, c9, c2, bs b1, el, bs (R_bodies (by omega)), e1b, bs k2, hrpl, ck, if_neg k0, sr_pl]
    rw [runC, runR]
    cases hrun : runF b (1 + bod l) (n - 2) 0 2 with
    | none =>
      left
      refine ⟨b, u, pf, ?_, ?_⟩
      · rw [if_pos (rv_none rfl)]
      · rw [if_pos (rv_none rfl)]
    | some w =>
      obtain ⟨s1, s2, s3⟩ := runF_spec (n - 2) 0 2 w (by omega) (fun j j1 j2 => absurd j2 (by omega)) hrun
      have hrv : rv (some w) = nI w := rfl
      have hne : ¬ rv (some w) = (-1) := nI_m1 (by omega)
      have hbe := C_behind (hbT (n, setF b w (1 + bod l) 1)) (p := p) (by omega)
      rw [qt, ← hld] at hbe
      have hi := R_i135 (r := r0) (pl := (12, upd pf k (nI w))) (fun (g28 : St_Ref) (v2_29 : Int32) (v3_30 : Int32) (v4_31 : Int32) (v5_32 : Int32) => m_RRef_in__L80 fv g28 v2_29 (v3_30 + (11 + v5_32)) (v4_31 + 1)) (nI c) (nI p) (nI k) (len := l) (w := w) S2 (by omega) (1 + bod l) FU 0 u (by omega) (FU_lt (by omega))
      rw [Nat.add_zero] at hi
      have runC2 : (if rv (some w) = (-1) then some (0, s_trial g (n, b)) else ((m_Room_take (n, b) (rv (some w)) (nI (1 + bod l))).bind fun q11 => (m_Log_behindPart (s_trial (s_trial g (n, b)) q11) (nI p)).bind fun q12 => m_Log_isRoomForSavepoint_L51 fu (s_trial (s_trial g (n, b)) q11) (nI c) q12 (nI (k + 1)))) = m_Log_isRoomForSavepoint_L51 fu (s_trial g (n, setF b w (1 + bod l) 1)) (nI c) (nI (p + 11 + l)) (nI (k + 1)) := by
        rw [if_neg hne, hrv, bs (C_take (x := (n, b)) rfl hn.2 (by omega))]
        refine Eq.trans (bs (show m_Log_behindPart (s_trial (s_trial g (n, b)) (n, setF b w (1 + bod l) 1)) (nI p) = _ from hbe)) ?_
        rw [ss_trial]
      have runR2 : (if rv (some w) = (-1) then some ((-4), s_Rplaces (s_Rused r0 (512, u)) (12, pf)) else m_RRef_in__L135 (fun (g28 : St_Ref) (v2_29 : Int32) (v3_30 : Int32) (v4_31 : Int32) (v5_32 : Int32) => m_RRef_in__L80 fv g28 v2_29 (v3_30 + (11 + v5_32)) (v4_31 + 1)) FU (s_Rplaces (s_Rused r0 (512, u)) (12, upd pf k (rv (some w)))) (nI c) (nI p) (nI k) (nI l) (rv (some w)) 0) = m_RRef_in__L80 fv (s_Rplaces (s_Rused r0 (512, setF u w (1 + bod l) 1)) (12, upd pf k (nI w))) (nI c) (nI (p + 11 + l)) (nI (k + 1)) := by
        rw [if_neg hne, hrv]
        refine Eq.trans hi ?_
        show m_RRef_in__L80 fv _ (nI c) (nI p + (11 + nI l)) (nI k + 1) = _
        rw [n11, nI_add, nI_add, ← Nat.add_assoc, nI_1]
      rw [runC2, runR2]
      rw [hld] at S4
      rcases ih (k + 1) (p + 11 + l) fu fv (setF b w (1 + bod l) 1) (setF u w (1 + bod l) 1) (upd pf k (nI w)) (by omega) (by omega) (by omega) (by rw [hld]; exact S4) (fun j j1 j2 => by
        unfold setF
        by_cases hj : w ≤ j ∧ j < w + (1 + bod l)
        · rw [if_pos hj, if_pos hj]
        · rw [if_neg hj, if_neg hj]; exact hub j j1 j2) with ⟨b', u', pf', y1, y2⟩ | ⟨b', u', pf', ws, y1, y2, y3, y4, y5⟩
      · left
        exact ⟨b', u', pf', y1, y2⟩
      · right
        refine ⟨b', u', pf', fun i => Nat.casesOn (motive := fun _ => Nat) i w (fun i => ws i), y1, y2, ⟨?_, ?_⟩, fun i hi2 => ?_, fun j hj => ?_⟩
        · rw [← hld]; exact hrun
        · rw [← hld]; exact y3
        · cases i with
          | zero =>
            show pf' (k + 0) = nI w
            rw [Nat.add_zero, y5 k (by omega)]
            exact if_pos rfl
          | succ i =>
            show pf' (k + (i + 1)) = nI (ws i)
            rw [← y4 i (by omega), show k + (i + 1) = k + 1 + i by omega]
        · rw [y5 j (by omega)]
          exact if_neg (by omega)
