-- keep
theorem lst_upd {α : Type} {f f' : Nat → α} {P j : Nat} {z : α} (hj : j < P) (h : ∀ k, k < P → f' k = if k = j then z else f k) : (f j :: lst f' P).Perm (z :: lst f P) := by
  obtain ⟨b, rfl⟩ : ∃ b, P = j + (b + 1) := ⟨P - j - 1, by omega⟩
  have e1 : lst f' j = lst f j := lst_congr (fun k hk => by rw [h k (by omega), if_neg (by omega)])
  have e2 : lst (fun k => f' (j + k)) (b + 1) = z :: lst (fun k => f (j + (k + 1))) b := by
    rw [lst_cons]
    congr 1
    · show f' (j + 0) = z
      rw [h _ (by omega), if_pos (by omega)]
    · refine lst_congr (fun k hk => ?_)
      show f' (j + (k + 1)) = f (j + (k + 1))
      rw [h _ (by omega), if_neg (by omega)]
  rw [lst_app f' j (b + 1), e1, e2, lst_app f j (b + 1), lst_cons (fun k => f (j + k)) b]
  show (f j :: (lst f j ++ z :: lst (fun k => f (j + (k + 1))) b)).Perm (z :: (lst f j ++ f j :: lst (fun k => f (j + (k + 1))) b))
  refine List.Perm.trans (List.Perm.cons _ List.perm_middle) ?_
  refine List.Perm.trans (List.Perm.swap _ _ _) ?_
  exact List.Perm.cons _ List.perm_middle.symm
noncomputable def esOf (x : St_Parts) (t : T3) (pn : Nat → Int32) (k : Nat) : Int32 × Int32 × Int64 := match m_Parts_find x (pn k) with
  | some v => (pn k, (crow x v.toNatClampNeg).2.2.2.1, numF t.1 (32 * ((crow x v.toNatClampNeg).2.2.2.1).toNatClampNeg + 16) 8)
  | none => (0, 0, 0)
theorem EsOk_of {n : Nat} {x : St_Parts} {lp : List PQ} {t : T3} {pn pn' : Nat → Int32} {c : Nat} (hP : PC n x lp) (hn : n ≤ 512) (hfit : ∀ q, q ∈ lp → FitP n q) (h : ∀ k, k < c → ∃ q, q ∈ lp ∧ q.1 = pn k) (he : ∀ k, k < c → pn' k = pn k) : EsOk x lp.length t n pn' c (esOf x t pn) := by
  intro k hk
  have h512 := hP.1.2.2
  rcases P_find hP.1 (pn k) with ⟨e1, e2⟩ | ⟨i, hi, e1, e2⟩
  · obtain ⟨q, hq, e⟩ := h k hk
    obtain ⟨i, hi, rfl⟩ := ((PC_tc hP).2 q).mp hq
    exact absurd e (e2 i hi)
  · obtain ⟨_, _, l, w, -, -, -, -, -, -, -, q8, q9, q10⟩ := hfit _ (PC_mem hP hi)
    refine ⟨i, w, hi, by rw [he k hk]; exact e1, by rw [he k hk]; exact e2, q8, by omega, ?_⟩
    unfold esOf
    rw [e1, he k hk]
    simp only
    rw [nI_clamp (show i < 2 ^ 31 by omega), q8, nI_clamp (by omega)]
theorem mls_eq {c : Nat} (hc : c ≤ 12) {pn pn' : Nat → Int32} {a b : Nat} (h : mls (nI c) pn a = mls (nI c) pn' b) {k : Nat} (hk : k < c) : pn (12 * a + k) = pn' (12 * b + k) := by
  unfold mls at h
  rw [nI_clamp (by omega)] at h
  exact List.map_inj_left.mp h k (List.mem_range.mpr hk)
theorem mls_lst {c : Nat} (hc : c ≤ 12) (pn : Nat → Int32) (a : Nat) : mls (nI c) pn a = lst (fun k => pn (12 * a + k)) c := by
  unfold mls lst
  rw [nI_clamp (by omega)]
theorem ss_kept (g : St_Log) (a b : St_Marks) : s_kept (s_kept g a) b = s_kept g b := rfl
theorem C_kp_L {Q Q2 N : Nat} {g : St_Log} {x : St_Marks} (hx : ML N x Q) {p c a : Nat} (hp : p < Q) (hc : x.2.1.2 p = nI c) (hc2 : c ≤ 12) (hM : ML 6 (g_made g) Q2) (ha : a < Q2) (hca : (g_made g).2.1.2 a = nI c) {y : St_Marks} (hy : m_Marks_remove (g_made g) (nI a) = some y) : ∀ (d fuel i : Nat), i + d = c → d < fuel → m_Log_keep_L98 fuel (s_kept g (mfl x p (fun k => (g_made g).2.2.2.1.2 (12 * a + k)) i)) (nI a) (nI c) (nI p) (nI i) = some (1, s_made (s_kept g (mfl x p (fun k => (g_made g).2.2.2.1.2 (12 * a + k)) c)) y) := by
  intro d
  induction d with
  | zero =>
    intro fuel i hi hf
    obtain ⟨fu, rfl, -⟩ := fu1 hf
    rw [m_Log_keep_L98, if_pos (nI_le (by omega) (by omega))]
    simp only [q_made]
    rw [bs hy, show i = c by omega]
  | succ d ih =>
    intro fuel i hi hf
    obtain ⟨fu, rfl, hf'⟩ := fu1 hf
    rw [m_Log_keep_L98, if_neg (nI_ge (by omega) (by omega))]
    simp only [q_made, q_kept, ss_kept]
    have hpa := M_partAt hM ha hca hc2 (nI i)
    rw [if_neg (show ¬ (nI i < 0 ∨ nI c ≤ nI i) from fun e => e.elim (nI_pos (by omega)) (nI_ge (by omega) (by omega))), nI_clamp (by omega)] at hpa
    refine Eq.trans (bs hpa) ?_
    have hs := M_setPart (ML_mfl hx p (fun k => (g_made g).2.2.2.1.2 (12 * a + k)) i) (k := p) (i := i) (c := c) hp hc hc2 (by omega) ((g_made g).2.2.2.1.2 (12 * a + i))
    refine Eq.trans (bs hs) ?_
    have e : mpt (mfl x p (fun k => (g_made g).2.2.2.1.2 (12 * a + k)) i) p i ((g_made g).2.2.2.1.2 (12 * a + i)) = mfl x p (fun k => (g_made g).2.2.2.1.2 (12 * a + k)) (i + 1) := mfl_step x p (fun k => (g_made g).2.2.2.1.2 (12 * a + k)) i
    rw [e, nI_1]
    exact ih fu (i + 1) (by omega) (by omega)
theorem Abs_keep {n : Nat} {lp : List PQ} {lk lm lm' : List MKQ} {GP GM : Nat} {m : MKQ} {c w : Nat} (h : Abs n lp lk lm GP GM) (hp : (m :: lm').Perm lm) (hc : m.2.1 = nI c) (D : Int64) (hw : 2 ≤ w) (hw2 : w + (1 + ent c) ≤ n) (hn : n ≤ 512) (hf : ∀ j, w ≤ j → j < w + (1 + ent c) → cov (ivs lp lk) j = 0) : Abs n lp ((m.1, m.2.1, nI w, D, m.2.2.2.2) :: lk) lm' GP GM := by
  obtain ⟨h1, h2, h3, h4, h5, h6, h7⟩ := Abs_perm (List.Perm.refl _) (List.Perm.refl _) hp.symm h
  obtain ⟨⟨a, c', p1, p2, p3, p4, p5, p6, p7, p8⟩, k2, k3, k4⟩ := h3 m List.mem_cons_self
  have ecc : c' = c := by
    rw [hc] at p4
    by_cases hb : c < 2 ^ 31
    · exact ((nI_eq hb (by omega)).mp p4).symm
    · unfold ent at hw2
      omega
  subst ecc
  refine ⟨h1, fun z hz => ?_, fun z hz => h3 z (List.mem_cons_of_mem _ hz), ?_, ?_, h6, h7⟩
  · rcases List.mem_cons.mp hz with rfl | hz
    · exact ⟨⟨a, c', w, p1, p2, p3, p4, p5, p6, rfl, hw, by omega⟩, k2, k3⟩
    · exact h2 z hz
  · have e : mIv (m.1, m.2.1, nI w, D, m.2.2.2.2) = (w, 1 + ent c') := by
      unfold mIv
      show ((nI w).toNatClampNeg, 1 + ent (m.2.1).toNatClampNeg) = _
      rw [hc, nI_clamp (by omega), nI_clamp (by omega)]
    have hj : DJ n (mIv (m.1, m.2.1, nI w, D, m.2.2.2.2) :: ivs lp lk) := by
      rw [e]
      exact DJ_cons h4 ⟨hw, by show 1 ≤ 1 + ent c'; omega, hw2⟩ hf
    refine DJ_perm ?_ hj
    unfold ivs
    rw [List.map_cons]
    exact List.perm_middle.symm
  · have hj : (m :: (lk ++ lm')).Pairwise (fun a b => a.1 ≠ b.1) := (List.perm_middle.pairwise_iff (fun hr => hr.symm)).mp h5
    obtain ⟨q1, q2⟩ := List.pairwise_cons.mp hj
    exact List.pairwise_cons.mpr ⟨q1, q2⟩
theorem BT_takeK {n : Nat} {x : St_Room} {lp : List PQ} {lk : List MKQ} {m : MKQ} {c w : Nat} (h : BT n x (ivs lp lk)) (hc : m.2.1 = nI c) (hc2 : c ≤ 12) (hw : w < 2 ^ 31) (D : Int64) : BT n (n, setF x.2 w (1 + ent c) 1) (ivs lp ((m.1, m.2.1, nI w, D, m.2.2.2.2) :: lk)) := by
  have e : mIv (m.1, m.2.1, nI w, D, m.2.2.2.2) = (w, 1 + ent c) := by
    unfold mIv
    show ((nI w).toNatClampNeg, 1 + ent (m.2.1).toNatClampNeg) = _
    rw [hc, nI_clamp (by omega), nI_clamp (by omega)]
  refine BT_perm (l := (w, 1 + ent c) :: ivs lp lk) ?_ (BT_take h _ _)
  unfold ivs
  rw [List.map_cons, e]
  exact List.perm_middle.symm
theorem st_keep {n : Nat} {g : St_Log} {r : St_Ref} (h : Rel n g r) (v : Int32) : ∃ a g' r', m_Log_keep g v = some (a, g') ∧ m_RRef_keep r v = some (a, r') ∧ Rel n g' r' := by
  obtain ⟨⟨hn, hC, hR, ht, ho, hts⟩, hT⟩ := id h
  unfold m_Log_keep m_RRef_keep
  by_cases hop : g_isOpen g = 0
  · exact ⟨-3, g, r, by rw [if_pos hop], by rw [if_pos (by rw [← ho]; exact hop)], h⟩
  · have ho1 := open_1 hC hop
    have hop' : ¬ g_Ropen r = 0 := by rw [← ho]; exact hop
    rw [if_neg hop, if_neg hop']
    obtain ⟨lp, lk, lm, L, GP, GM, hTC, hTR, hL, hA, hN, hH⟩ := hT ho1
    have lr : (g_RmRow r).1 = 270 := ri_mRow hR
    have hML := hTR.2.2.1
    rcases F3 hR hTC.2.1 hTC.2.2.1 hTR.2 hL hA.2.2.2.2.1 v with ⟨a1, a2, a3, a4⟩ | ⟨i, j, hi, hj, a1, a2, a3, a4, a5, a6⟩ | ⟨i, j, hi, hj, a1, a2, a3, a4, a5, a6⟩
    · exact ⟨-1, g, r, by rw [bs a2, if_pos rfl], by rw [bs a3, if_pos rfl], h⟩
    · refine ⟨-1, g, r, by rw [bs a2, if_pos rfl], ?_, h⟩
      obtain ⟨_, _, w, _, _, _, _, _, _, p7, _, p9⟩ := (hA.2.1 _ a5).1
      have e : (g_RmRow r).2 j = nI w := (congrArg (fun z : MKQ => z.2.2.1) a4).trans p7
      rw [bs a3, if_neg (nI_m1 (by omega)), lr, if_neg (nI_in (by omega) (by omega)), nI_clamp (by omega), e, if_neg (nI_m1 (by omega))]
    · have hlm : lm.length ≤ 6 := hTC.2.2.1.1.1.2.2.1
      obtain ⟨⟨_, c, _, _, _, p4, p5, p6, p7, p8⟩, hRis, hNum, hmem⟩ := hA.2.2.1 _ a5
      have e7 : (g_RmRow r).2 j = (-1) := (congrArg (fun z : MKQ => z.2.2.1) a4).trans p7
      have ecR : (g_RmCount r).2 j = nI c := (congrArg (fun z : MKQ => z.2.1) a4).trans p4
      have ecC : (g_made g).2.1.2 i = nI c := p4
      have enR : (g_RmNumber r).2 j = v := (congrArg (fun z : MKQ => z.1) a4).trans a6
      have enC : (g_made g).1.2 i = v := a6
      have elst : mls (nI c) (g_RmPart r).2 j = mls (nI c) (g_made g).2.2.2.1.2 i := by
        have := congrArg (fun z : MKQ => z.2.2.2.2) a4
        have h2 : mls ((g_RmCount r).2 j) (g_RmPart r).2 j = mls ((g_made g).2.1.2 i) (g_made g).2.2.2.1.2 i := this
        rw [ecR, ecC] at h2
        exact h2
      have hpn : ∀ k, k < c → (g_RmPart r).2 (12 * j + k) = (g_made g).2.2.2.1.2 (12 * i + k) := fun k hk => mls_eq p6 elst hk
      have hin : ∀ k, k < c → ∃ q, q ∈ lp ∧ q.1 = (g_made g).2.2.2.1.2 (12 * i + k) := by
        intro k hk
        refine hmem _ ?_
        show _ ∈ mls ((g_made g).2.1.2 i) (g_made g).2.2.2.1.2 i
        rw [ecC, mls_lst p6]
        exact mem_lst.mpr ⟨k, hk, rfl⟩
      have hfit : ∀ q, q ∈ lp → FitP n q := fun q hq => (hA.1 q hq).1
      obtain ⟨f, u1, u2⟩ := used_bits hR hn.2 hA hTC.2.2.2 hTR.1 hTR.2 hL
      have hR1 : RI n (s_Rused r (512, f)) := rs_used (v := (512, f)) hR rfl
      have hF1 : FrK r (s_Rused r (512, f)) := by refine ⟨?_, ?_, ?_, ?_, ?_, ?_⟩ <;> simp only [qf_Med, qf_Tap, qf_Par, qf_Mrk, qf_Hd, qf_Ls]
      have hrc : 1 ≤ 1 + ent c ∧ 1 + ent c ≤ 1000 := by unfold ent; omega
      have he6 : ent c ≤ 6 := by unfold ent; omega
      have k1 := C_firstRun (x := g_room g) hTC.2.2.2.1 hn hrc
      have k2 := R_room (g := s_Rused r (512, f)) (f := f) (by simp only [qR_used]) (by simp only [qR_rows]; exact ri_rows hR) hn hrc
      rw [runF_congr (b := f) (b' := (g_room g).2) (1 + ent c) (n - 2) 0 2 (fun j j1 j2 => u2 j j1 (by omega))] at k2
      have e1b : (1 : Int32) + nI (ent c) = nI (1 + ent c) := by rw [n1, nI_add]
      have hcA := M_countAt hTC.2.2.1.1.1 hi
      rw [ecC] at hcA
      rw [bs a2, if_neg (nI_m1 (by omega)), bs hcA, bs (C_rowsOfMark (by omega)), bs k1, bs a3, if_neg (nI_m1 (by omega)), lr, if_neg (nI_in (by omega) (by omega)), nI_clamp (by omega), e7, if_pos rfl, bs u1]
      simp only [qR_mCount]
      have i270 : ¬ (nI j < 0 ∨ 270 ≤ j) := by
        have := nI_in (c := j) (N := 270) (by omega) (by omega)
        rw [nI_clamp (by omega)] at this
        exact this
      rw [show (g_RmCount r).1 = 270 from ri_mCount hR, if_neg i270, ecR, bs (R_entries (by omega)), e1b, bs k2]
      have hRu : Rel n g (s_Rused r (512, f)) := by
        refine Rel_fr h ?_ (fun e => e) rfl rfl rfl rfl rfl rfl rfl rfl hF1.2.2.1 hF1.2.2.2.1 hF1.2.2.2.2.2 hF1.2.2.2.2.1
        refine ⟨hn, hC, hR1, ?_, ?_, ?_⟩
        · rw [rtri_fr hF1.1]; exact ht
        · simp only [qR_open]; exact ho
        · simp only [qR_tape, qR_taped]; exact hts
      cases hrun : runF (g_room g).2 (1 + ent c) (n - 2) 0 2 with
      | none => exact ⟨-4, g, _, by rw [if_pos (rv_none rfl)], by rw [if_pos (rv_none rfl)], hRu⟩
      | some w =>
        obtain ⟨s1, s2, s3⟩ := runF_spec (n - 2) 0 2 w (by omega) (fun j j1 j2 => absurd j2 (by omega)) hrun
        have hne : ¬ rv (some w) = (-1) := nI_m1 (by omega)
        have hrv : rv (some w) = nI w := rfl
        rw [if_neg hne, if_neg hne, hrv]
        have hm := ci_medium hC
        obtain ⟨t, htd⟩ : ∃ t, t = tri (g_medium g) := ⟨_, rfl⟩
        have hmk : g_medium g = mk3 n t := by rw [htd]; exact g_mk3 hC
        have hpw : Pw t.2.1 := by rw [htd]; exact hm.2.1
        have hby : ∀ k, By (t.1 k) := by rw [htd]; exact hm.2.2
        have htr : rtri r = t := by rw [htd]; exact ht.symm
        obtain ⟨es, hesd⟩ : ∃ es, es = esOf (g_parts g) t (fun k => (g_made g).2.2.2.1.2 (12 * i + k)) := ⟨_, rfl⟩
        have hesC : EsOk (g_parts g) lp.length t n (fun k => (g_made g).2.2.2.1.2 (12 * i + k)) c es := by rw [hesd]; exact EsOk_of hTC.1 hn.2 hfit hin (fun _ _ => rfl)
        have hesR : EsOk (g_parts g) lp.length t n (fun k => (g_RmPart r).2 (12 * j + k)) c es := by rw [hesd]; exact EsOk_of hTC.1 hn.2 hfit hin hpn
        obtain ⟨im, d1, d2, d3⟩ := C_drawMark hmk hn (ci_image hC) hTC.1 hTC.2.2.1.1.1 hi ecC ⟨p5, p6⟩ hesC
        rw [enC] at d2
        obtain ⟨sI, hsI⟩ := id d3
        have hcl : m_RRef_clearDraft (s_Rused r (512, f)) = some (s_Rdraft (s_Rused r (512, f)) (256, fun _ => 0)) := R_clear (g := s_Rused r (512, f)) (ri_draft hR1)
        have hkp := R_kp_L (n := n) (r := r) (lp := lp) (x := g_parts g) (t := t) (by rw [← htr]; rfl) hTR.1 hTC.1 hn.2 (j := j) (c := c) (w := w) (by omega) ecR ⟨p5, p6⟩ (by omega) v hesR c FU 0 (s_Rdraft (s_Rused r (512, f)) (256, fun _ => 0)) (fun _ => 0) (rs_draft hR1 ⟨rfl, fun _ _ => rfl⟩) (hF1.tr (by refine ⟨?_, ?_, ?_, ?_, ?_, ?_⟩ <;> simp only [qf_Med, qf_Tap, qf_Par, qf_Mrk, qf_Hd, qf_Ls])) (by simp only [qR_draft]) (fun _ => By0) (fun _ _ => rfl) (by omega) (FU_lt (by omega))
        rw [htr] at hkp
        obtain ⟨I, hI⟩ : ∃ I, I = markImg (entsF es c 0 (fun _ => 0)) c v := ⟨_, rfl⟩
        obtain ⟨D, hD⟩ : ∃ D, D = digF (entsF es c 0 (fun _ => 0)) 32 (32 * ent c) := ⟨_, rfl⟩
        rw [← hI, ← hD] at hkp
        rw [← hD] at d1
        rw [← hI] at d2
        have hIB : ∀ k, By (I k) := by rw [hI]; exact By_mark (By_ents es _ _ _ (fun _ => By0)) _ _
        have hT2 := C_take (x := g_room g) (n := n) (a := w) (c := 1 + ent c) hTC.2.2.2.1 hn.2 (by omega)
        have hw1 := C_writeImage (n := n) (g := s_image g im) (t := t) (im := im) (by simp only [q_medium]; exact hmk) (by simp only [q_isOpen]; exact ho1) rfl hsI (by rw [d2]; exact hIB) hn.1 hn.2 (row := w) (count := 1 + ent c) (by omega) (by omega) (by simp only [q_room]; exact hT2) hpw
        rw [show 1 + ent c - 1 = ent c by omega, d2] at hw1
        have q1 := wrM_ok I w (ent c) 1 t
        have q2 := wrM_pw I w (ent c) 1 t hpw
        have q3 := wrM_by I hIB w (ent c) 1 t hby
        obtain ⟨q, hq⟩ : ∃ q, q = wrM I w (ent c) 1 t := ⟨_, rfl⟩
        rw [← hq] at hw1 q1 q2 q3 hkp
        obtain ⟨r', o1, o2, o3, o4, o5, o6, o7, o8, o9, o10, o11⟩ := hkp
        rw [bs d1, bs (C_rowsOfMark (by omega)), bs hw1, bs hcl]
        simp only
        obtain ⟨G1, hG1⟩ : ∃ G1, G1 = s_room (wi n (s_image g im) q) (n, setF (g_room g).2 w (1 + ent c) 1) := ⟨_, rfl⟩
        have hCG1 : CI n G1 := by rw [hG1]; exact cs_room (CI_wi (cs_image hC d3) hn q1 q2 q3) (kRm_set (ci_room hC).2 (Or.inr rfl))
        have gt : g_tape G1 = g_tape g := by rw [hG1]; simp only [wi, q_tape]
        have gm : g_medium G1 = mk3 n q.2 := by rw [hG1]; simp only [wi, q_medium]
        have go : g_isOpen G1 = q.1 := by rw [hG1]; simp only [wi, q_isOpen]
        have gp : g_parts G1 = g_parts g := by rw [hG1]; simp only [wi, q_parts]
        have gk : g_kept G1 = g_kept g := by rw [hG1]; simp only [wi, q_kept]
        have gd : g_made G1 = g_made g := by rw [hG1]; simp only [wi, q_made]
        have gow : g_owners G1 = g_owners g := by rw [hG1]; simp only [wi, q_owners]
        have gse : g_serial G1 = g_serial g := by rw [hG1]; simp only [wi, q_serial]
        have ggm : g_greatestMark G1 = g_greatestMark g := by rw [hG1]; simp only [wi, q_greatestMark]
        have ggp : g_greatestPart G1 = g_greatestPart g := by rw [hG1]; simp only [wi, q_greatestPart]
        have gro : g_room G1 = (n, setF (g_room g).2 w (1 + ent c) 1) := by rw [hG1]; simp only [q_room]
        rw [← hG1]
        by_cases hz : q.1 = 0
        · refine ⟨-5, G1, r', by rw [if_pos hz], o1.trans (by rw [if_pos hz]), ⟨hn, hCG1, o2, ?_, ?_, ?_⟩, fun e => ?_⟩
          · rw [gm, o3]; rfl
          · rw [go, hz, o4 hz]
          · rw [gt, e_tape o6, e_taped o6]; exact hts
          · rw [go, hz] at e
            exact absurd e (by decide)
        · have h1 : q.1 = 1 := q1.resolve_left hz
          obtain ⟨y, lm', y1, y2, y3⟩ := MC_remove hTC.2.2.1 hi
          have hmE : mrow (g_made g) i = (v, nI c, (-1), 0, mls (nI c) (g_made g).2.2.2.1.2 i) := by
            refine Prod.ext enC (Prod.ext ecC (Prod.ext p7 (Prod.ext p8 ?_)))
            show mls ((g_made g).2.1.2 i) _ i = _
            rw [ecC]
          have hA' := Abs_keep (w := w) hA y3 p4 D (by omega) (by omega) hn.2 (fun j j1 j2 => (hTC.2.2.2.2 j (by omega) (by omega)).mp (s3 j j1 j2))
          have hB' := BT_takeK (w := w) (m := mrow (g_made g) i) hTC.2.2.2 p4 p6 (by omega) D
          have hroom := Abs_room hA' hn.2
          rw [List.length_cons] at hroom
          have hfr : ∀ m, m ∈ lk → m.1 ≠ v := by
            intro m hmk2 e
            have hd := (List.pairwise_append.mp hA.2.2.2.2.1).2.2 _ hmk2 _ a5
            exact hd (by rw [e, a6])
          have hMK : MC (n / 2) (g_kept G1) lk := by rw [gk]; exact hTC.2.1
          obtain ⟨x', p, z1, z2, z3, z4, z5⟩ := MC_add hMK (by omega) v (nI w) D p6 hfr
          obtain ⟨lk', b1, b2⟩ := z5 (fun k => (g_made g).2.2.2.1.2 (12 * i + k))
          have hkl := C_kp_L (N := n / 2) (g := G1) (x := x') z3.1 z2 z4 p6 (by rw [gd]; exact hTC.2.2.1.1.1) hi (by rw [gd]; exact ecC) (y := y) (by rw [gd]; exact y1) c FU 0 (by omega) (FU_lt (by omega))
          rw [gd, mfl_0] at hkl
          have hnew : (v, nI c, nI w, D, lst (fun k => (g_made g).2.2.2.1.2 (12 * i + k)) c) = ((mrow (g_made g) i).1, (mrow (g_made g) i).2.1, nI w, D, (mrow (g_made g) i).2.2.2.2) := by
            rw [hmE, mls_lst p6]
          rw [hnew] at b2
          have hLp : (mrow (g_made g) i :: lst (qrow r') L.length).Perm (((mrow (g_made g) i).1, (mrow (g_made g) i).2.1, nI w, D, (mrow (g_made g) i).2.2.2.2) :: L) := by
            have := lst_upd (f := qrow r) (f' := qrow r') (P := L.length) (z := ((mrow (g_made g) i).1, (mrow (g_made g) i).2.1, nI w, D, (mrow (g_made g) i).2.2.2.2)) hj (fun k _ => by
              rw [o11 h1 k]
              by_cases hk : k = j
              · rw [if_pos hk, if_pos hk, hmE, ecR, enR, elst]
              · rw [if_neg hk, if_neg hk])
            rw [a4, hTR.2.2.2.1] at this
            exact this
          have hLfin : (lst (qrow r') L.length).Perm (lk' ++ lm') := by
            have : (mrow (g_made g) i :: lst (qrow r') L.length).Perm (mrow (g_made g) i :: (lk' ++ lm')) := by
              refine hLp.trans ?_
              refine (List.Perm.cons _ (hL.trans ((List.Perm.append_left lk y3.symm).trans List.perm_middle))).trans ?_
              refine (List.Perm.swap _ _ _).trans ?_
              refine List.Perm.cons _ ?_
              exact List.Perm.append_right lm' b2.symm
            exact this.cons_inv
          have hK12 : ∀ m, m ∈ lst (qrow r') L.length → K12 m := by
            intro m hmm
            obtain ⟨k, hk, rfl⟩ := mem_lst.mp hmm
            rw [o11 h1 k]
            by_cases hkj : k = j
            · rw [if_pos hkj]
              exact ⟨c, p5, p6, ecR⟩
            · rw [if_neg hkj]
              exact hTR.2.2.2.2 _ (MR_mem hTR.2 hk)
          refine ⟨1, s_made (s_kept G1 (mfl x' p (fun k => (g_made g).2.2.2.1.2 (12 * i + k)) c)) y, r', ?_, ?_, ⟨hn, cs_made (cs_kept hCG1 ⟨_, b1.1.1⟩) ⟨_, y2.1.1⟩, o2, ?_, ?_, ?_⟩, fun _ => ⟨lp, lk', lm', lst (qrow r') L.length, GP, GM, ⟨?_, ?_, ?_, ?_⟩, ⟨PR_fr o7 hTR.1, ⟨?_, ?_, ?_, hK12⟩⟩, hLfin, ?_, ⟨?_, ?_, ?_, ?_⟩, ?_⟩⟩
          · rw [if_neg hz, bs z1, n0]; exact hkl
          · exact o1.trans (by rw [if_neg hz])
          · simp only [q_medium]; rw [gm, o3]; rfl
          · simp only [q_isOpen]; rw [go, h1, o5 h1, ← ho, ho1]
          · simp only [q_tape]; rw [gt, e_tape o6, e_taped o6]; exact hts
          · simp only [q_parts]; rw [gp]; exact hTC.1
          · simp only [q_kept]; exact b1
          · simp only [q_made]; exact y2
          · simp only [q_room]; rw [gro]
            exact BT_perm (ivs_perm (List.Perm.refl _) b2.symm) hB'
          · rw [lst_len, o10]; exact hTR.2.1
          · rw [lst_len]; exact hTR.2.2.1
          · rw [lst_len]
          · exact Abs_perm (List.Perm.refl _) b2.symm (List.Perm.refl _) hA'
          · simp only [q_greatestPart]; rw [ggp]; exact hN.1
          · rw [e_lastPart o9]; exact hN.2.1
          · simp only [q_greatestMark]; rw [ggm]; exact hN.2.2.1
          · rw [e_lastMark o9]; exact hN.2.2.2
          · exact Hds_fr (by simp only [q_owners]; exact gow) (by simp only [q_serial]; exact gse) o8 hH
