-- MARKS ARE DROPPED
theorem lst_drop {α : Type} (f : Nat → α) (i b : Nat) : (lst f (i + b)).drop i = lst (fun k => f (i + k)) b := by
  rw [lst_app]
  exact List.drop_left' (lst_len f i)
theorem Abs_dropK {n : Nat} {lp : List PQ} {m : MKQ} {lk lm : List MKQ} {GP GM : Nat} (h : Abs n lp (m :: lk) lm GP GM) : Abs n lp lk lm GP GM := by
  obtain ⟨h1, h2, h3, h4, h5, h6⟩ := h
  refine ⟨h1, fun z hz => h2 z (List.mem_cons_of_mem _ hz), h3, ?_, (List.pairwise_cons.mp h5).2, h6⟩
  have hp : (ivs lp (m :: lk)).Perm (mIv m :: ivs lp lk) := by
    unfold ivs
    rw [List.map_cons]
    exact List.perm_middle
  exact DJ_tail (DJ_perm hp h4)
/-- while MARKS and PARTS are dropped -/
def DI (n : Nat) (t : T3) (g : St_Log) (r : St_Ref) (lp : List PQ) (lk lm L : List MKQ) (GP GM : Nat) : Prop := CI n g ∧ RI n r ∧ g_medium g = mk3 n t ∧ rtri r = t ∧ g_isOpen g = 1 ∧ g_Ropen r = 1 ∧ MC 6 (g_made g) lm ∧ BT n (g_room g) (ivs lp lk) ∧ PR r lp ∧ MR r L ∧ L.Perm (lk ++ lm) ∧ Abs n lp lk lm GP GM
/-- what dropping leaves -/
def DF (g g' : St_Log) (r r' : St_Ref) : Prop := g_tape g' = g_tape g ∧ g_made g' = g_made g ∧ g_owners g' = g_owners g ∧ g_serial g' = g_serial g ∧ g_greatestPart g' = g_greatestPart g ∧ g_greatestMark g' = g_greatestMark g ∧ fTap r' = fTap r ∧ fHd r' = fHd r ∧ fLs r' = fLs r
theorem DF.rf (g : St_Log) (r : St_Ref) : DF g g r r := ⟨rfl, rfl, rfl, rfl, rfl, rfl, rfl, rfl, rfl⟩
theorem DF.tr {g g' g'' : St_Log} {r r' r'' : St_Ref} (h : DF g g' r r') (k : DF g' g'' r' r'') : DF g g'' r r'' := ⟨k.1.trans h.1, k.2.1.trans h.2.1, k.2.2.1.trans h.2.2.1, k.2.2.2.1.trans h.2.2.2.1, k.2.2.2.2.1.trans h.2.2.2.2.1, k.2.2.2.2.2.1.trans h.2.2.2.2.2.1, k.2.2.2.2.2.2.1.trans h.2.2.2.2.2.2.1, k.2.2.2.2.2.2.2.1.trans h.2.2.2.2.2.2.2.1, k.2.2.2.2.2.2.2.2.trans h.2.2.2.2.2.2.2.2⟩
theorem DF_tb {n : Nat} {g g' : St_Log} {r r' : St_Ref} {q : Int32 × T3} (h : TbC n g g' q) (k : TbR n r r' q) : DF g g' r r' := ⟨h.2.2.2.2.2.2.1, h.2.2.2.2.2.1, h.2.2.2.2.2.2.2.1, h.2.2.2.2.2.2.2.2.1, h.2.2.2.2.2.2.2.2.2.1, h.2.2.2.2.2.2.2.2.2.2, k.2.2.2.2.1, k.2.2.2.2.2.2.2.1, k.2.2.2.2.2.2.2.2⟩
/-- power went -/
def Lost (n : Nat) (g0 g : St_Log) (r0 r : St_Ref) : Prop := CI n g ∧ RI n r ∧ tri (g_medium g) = rtri r ∧ g_isOpen g = 0 ∧ g_Ropen r = 0 ∧ g_tape g = g_tape g0 ∧ fTap r = fTap r0
theorem removeF {N P : Nat} {x : St_Marks} (h : MS N x P) {c : Nat} (hc : c ≤ P) : ∃ x', m_Marks_removeFirst x (nI c) = some x' ∧ MC N x' (lst (fun k => mrow x (c + k)) (P - c)) := by
  obtain ⟨x', a1, a2, a3⟩ := ML_removeFirst h.1 hc
  refine ⟨x', a1, ?_, ?_⟩
  · rw [lst_len]
    exact MS_of h (by omega) a2 a3
  · rw [lst_len]
    exact lst_congr (fun k hk => by rw [a3 k hk, Nat.add_comm])
theorem dm_L {n pp c : Nat} {lp : List PQ} {lm : List MKQ} {xk : St_Marks} {len GP GM : Nat} (hn : 4 ≤ n ∧ n ≤ 512) (hX : MS (n / 2) xk len) (hlen : len = c + pp) (v2 : Int32) : ∀ (d i fuel fuel' : Nat) (t : T3) (g : St_Log) (r : St_Ref) (L : List MKQ), i + d = c → d < fuel → d < fuel' → g_kept g = xk → PC n (g_parts g) lp → DI n t g r lp (lst (fun k => mrow xk (i + k)) (len - i)) lm L GP GM → (∃ g' r', m_Log_dropMarks_L2 fuel g (nI c) (nI i) = some (0, g') ∧ m_RRef_drop_L78 fuel' r (nI pp) v2 = some ((-5), r') ∧ Lost n g g' r r') ∨ (∃ g' r' t' L', m_Log_dropMarks_L2 fuel g (nI c) (nI i) = some (1, g') ∧ m_RRef_drop_L78 fuel' r (nI pp) v2 = m_RRef_drop_L135 FU r' v2 0 0 1 ∧ MC (n / 2) (g_kept g') (lst (fun k => mrow xk (c + k)) (len - c)) ∧ PC n (g_parts g') lp ∧ DI n t' g' r' lp (lst (fun k => mrow xk (c + k)) (len - c)) lm L' GP GM ∧ DF g g' r r') := by
  have hlN := hX.1.2.2.1
  have hN2 := hX.1.2.2.2.1
  obtain ⟨xk', e1, e2⟩ := removeF hX (c := c) (by omega)
  intro d
  induction d with
  | zero =>
    intro i fuel fuel' t g r L hi hf hf' hk hP hD
    obtain ⟨fu, rfl, -⟩ := fu1 hf
    obtain ⟨fv, rfl, -⟩ := fu1 hf'
    obtain ⟨hC, hR, hm, htr, ho, hro, hMM, hB, hPR, hMR, hL, hA⟩ := id hD
    have hic : i = c := by omega
    subst hic
    have cnt := (R_count hR hn.2 hMR hL hA).2
    rw [lst_len] at cnt
    right
    refine ⟨s_kept g xk', r, t, L, ?_, ?_, ?_, ?_, ⟨cs_kept hC ⟨_, e2.1.1⟩, hR, ?_, htr, ?_, hro, ?_, ?_, hPR, hMR, hL, hA⟩, ⟨?_, ?_, ?_, ?_, ?_, ?_, rfl, rfl, rfl⟩⟩
    · rw [m_Log_dropMarks_L2, if_pos (Int32.le_refl _), hk, bs e1, ho, if_neg e11]
    · rw [m_RRef_drop_L78, bs cnt, if_pos (nI_le (by omega) (by omega))]
    · simp only [q_kept]; exact e2
    · simp only [q_parts]; exact hP
    · simp only [q_medium]; exact hm
    · simp only [q_isOpen]; exact ho
    · simp only [q_made]; exact hMM
    · simp only [q_room]; exact hB
    · simp only [q_tape]
    · simp only [q_made]
    · simp only [q_owners]
    · simp only [q_serial]
    · simp only [q_greatestPart]
    · simp only [q_greatestMark]
  | succ d ih =>
    intro i fuel fuel' t g r L hi hf hf' hk hP hD
    obtain ⟨fu, rfl, hfu⟩ := fu1 hf
    obtain ⟨fv, rfl, hfv⟩ := fu1 hf'
    obtain ⟨hC, hR, hm, htr, ho, hro, hMM, hB, hPR, hMR, hL, hA⟩ := id hD
    have hil : i < len := by omega
    have hsp : lst (fun k => mrow xk (i + k)) (len - i) = mrow xk i :: lst (fun k => mrow xk (i + 1 + k)) (len - (i + 1)) := by
      rw [show len - i = (len - (i + 1)) + 1 by omega, lst_cons]
      have : (fun k => mrow xk (i + (k + 1))) = fun k => mrow xk (i + 1 + k) := funext fun k => by rw [show i + (k + 1) = i + 1 + k by omega]
      rw [this]
      rfl
    obtain ⟨rest, hrest⟩ : ∃ rest, rest = lst (fun k => mrow xk (i + 1 + k)) (len - (i + 1)) := ⟨_, rfl⟩
    have hlr : rest.length = len - (i + 1) := by rw [hrest, lst_len]
    rw [hsp, ← hrest] at hD hB hL hA
    obtain ⟨m, hmd⟩ : ∃ m, m = mrow xk i := ⟨_, rfl⟩
    rw [← hmd] at hD hB hL hA
    obtain ⟨_, cc, w, _, _, _, p4, p5, p6, p7, p8, p9⟩ := (hA.2.1 m List.mem_cons_self).1
    have he6 : ent cc ≤ 6 := by unfold ent; omega
    have a1 : m_Marks_rowAt (g_kept g) (nI i) = some (nI w) := by
      rw [hk, M_rowAt hX.1 hil]
      rw [hmd] at p7
      exact congrArg some p7
    have a2 : m_Marks_countAt (g_kept g) (nI i) = some (nI cc) := by
      rw [hk, M_countAt hX.1 hil]
      rw [hmd] at p4
      exact congrArg some p4
    obtain ⟨q, q01, g1, r1, b1, b2, hTC, hroom, hTR⟩ := tb_both (w := w) (k := 1 + ent cc) hn hC hR hm htr ho (by omega)
    -- the reference finds the same MARK
    have cnt := (R_count hR hn.2 hMR hL hA).2
    have hkr : ∀ z, z ∈ m :: rest → z.2.2.1 ≠ (-1) := by
      intro z hz e
      obtain ⟨_, _, w', _, _, _, _, _, _, s7, _, s9⟩ := (hA.2.1 z hz).1
      rw [s7] at e
      exact nI_m1 (by omega) e
    have hLm : m ∈ L := hL.mem_iff.mpr (List.mem_append.mpr (Or.inl List.mem_cons_self))
    have hLl := hMR.2.1
    obtain ⟨o', y1, y2, -, y4⟩ := R_old_L hR hMR L.length FU 0 none (by omega) (FU_lt (by omega)) (fun i e => (by cases e))
    obtain ⟨jm, hjm, ejm⟩ := MR_ex hMR hLm
    obtain ⟨j, ej, lej⟩ := y4 jm (by omega) hjm (by rw [ejm]; exact hkr m List.mem_cons_self)
    obtain ⟨hj, hjr⟩ := y2 j ej
    have hjm2 : qrow r j = m := by
      have hin : qrow r j ∈ m :: rest := by
        rcases List.mem_append.mp (hL.mem_iff.mp (MR_mem hMR hj)) with z | z
        · exact z
        · obtain ⟨_, _, _, _, _, _, _, _, s7, _⟩ := (hA.2.2.1 _ z).1
          exact absurd s7 hjr
      rcases List.mem_cons.mp hin with z | z
      · exact z
      · rw [hrest] at z
        obtain ⟨k, hk2, ek⟩ := mem_lst.mp z
        have hlt : (mrow xk i).1 < (mrow xk (i + 1 + k)).1 := hX.2 i (i + 1 + k) (by omega) (by omega)
        rw [ejm, ← ek, hmd] at lej
        exact absurd lej (Int32.not_le.mpr hlt)
    have old : m_RRef_oldest r = some (nI j) := by
      unfold m_RRef_oldest
      refine Eq.trans (show m_RRef_oldest_L4 r FU (-1) 0 = _ from y1) ?_
      rw [ej]; rfl
    have ew : (g_RmRow r).2 j = nI w := by
      have := congrArg (fun z : MKQ => z.2.2.1) hjm2
      exact this.trans p7
    have ec : (g_RmCount r).2 j = nI cc := by
      have := congrArg (fun z : MKQ => z.2.1) hjm2
      exact this.trans p4
    have cj : (nI j).toNatClampNeg = j := nI_clamp (by omega)
    have j0 : ¬ (nI j < 0 ∨ 270 ≤ j) := by
      have := nI_in (c := j) (N := 270) (by omega) (by omega)
      rw [cj] at this
      exact this
    have e1e : (1 : Int32) + nI (ent cc) = nI (1 + ent cc) := by rw [n1, nI_add]
    have runR : m_RRef_drop_L78 (fv + 1) r (nI pp) v2 = if q.1 = 0 then some ((-5), r1) else ((m_RRef_forgetMark r1 (nI j)).bind fun q38 => m_RRef_drop_L78 fv q38 (nI pp) v2) := by
      rw [m_RRef_drop_L78, bs cnt, if_neg (show ¬ nI (m :: rest).length ≤ nI pp by rw [List.length_cons, hlr]; exact nI_ge (by omega) (by omega)), bs old, show (g_RmRow r).1 = 270 from ri_mRow hR, show (g_RmCount r).1 = 270 from ri_mCount hR, cj, if_neg j0, if_neg j0, ec, ew, bs (R_entries (by omega)), e1e, bs b2]
    have runC : m_Log_dropMarks_L2 (fu + 1) g (nI c) (nI i) = m_Log_dropMarks_L2 fu g1 (nI c) (nI (i + 1)) := by
      rw [m_Log_dropMarks_L2, if_neg (nI_ge (by omega) (by omega)), ho, if_neg e10, bs a1, bs a2, bs (C_rowsOfMark (by omega)), bs b1, nI_1]
    rw [runC, runR]
    by_cases hz : q.1 = 0
    · left
      obtain ⟨fw, rfl, -⟩ := fu1 (k := 0) (fuel := fu) (by omega)
      have go : g_isOpen g1 = 0 := by rw [hTC.2.2.1]; exact hz
      have hk1 : g_kept g1 = xk := by rw [hTC.2.2.2.2.1]; exact hk
      refine ⟨s_kept g1 xk', r1, ?_, by rw [if_pos hz], cs_kept hTC.1 ⟨_, e2.1.1⟩, hTR.1, ?_, ?_, hTR.2.2.1 hz, ?_, hTR.2.2.2.2.1⟩
      · rw [m_Log_dropMarks_L2, hk1, bs e1, go]
        by_cases hcc : nI c ≤ nI (i + 1)
        · rw [if_pos hcc, if_neg e01]
        · rw [if_neg hcc, if_pos rfl, if_neg e01]
      · simp only [q_medium]; rw [hTC.2.1, hTR.2.1]; rfl
      · simp only [q_isOpen]; exact go
      · simp only [q_tape]; exact hTC.2.2.2.2.2.2.1
    · have h1 : q.1 = 1 := q01.resolve_left hz
      have hMR1 : MR r1 L := MR_fr hTR.2.2.2.2.2.2.1 hMR
      have hqj : qrow r1 j = m := by
        have e3 := hTR.2.2.2.2.2.2.1
        have : qrow r1 j = qrow r j := by
          unfold qrow
          rw [e_mNumber e3, e_mRow e3, e_mCount e3, e_mDigest e3, e_mPart e3]
        rw [this]; exact hjm2
      obtain ⟨r2, L2, f1, f2, f3, f4, f5⟩ := R_forgetMark hTR.1 hMR1 hj
      rw [hqj] at f5
      have hL2 : L2.Perm (rest ++ lm) := (f5.trans (hL.trans (List.Perm.refl _))).cons_inv
      have hA2 := Abs_dropK hA
      have hmI : mIv m = (w, 1 + ent cc) := by
        unfold mIv
        rw [p4, p7, nI_clamp (by omega), nI_clamp (by omega)]
      have hpm : (ivs lp (m :: rest)).Perm ((w, 1 + ent cc) :: ivs lp rest) := by
        unfold ivs
        rw [List.map_cons, hmI]
        exact List.perm_middle
      have hB2 : BT n (g_room g1) (ivs lp rest) := by
        rw [hroom]
        exact BT_free (BT_perm hpm hB) (DJ_perm hpm hA.2.2.2.1)
      have hD2 : DI n q.2 g1 r2 lp rest lm L2 GP GM := by
        refine ⟨hTC.1, f2, hTC.2.1, ?_, ?_, ?_, ?_, hB2, PR_fr (f3.2.2.1.trans hTR.2.2.2.2.2.1) hPR, f4, hL2, hA2⟩
        · rw [rtri_fr f3.1]; exact hTR.2.1
        · rw [hTC.2.2.1]; exact h1
        · rw [e_open f3.1, hTR.2.2.2.1 h1]; exact hro
        · rw [hTC.2.2.2.2.2.1]; exact hMM
      rw [hrest] at hD2
      have hDF1 : DF g g1 r r2 := (DF_tb hTC hTR).tr ⟨rfl, rfl, rfl, rfl, rfl, rfl, f3.2.1, f3.2.2.2.1, f3.2.2.2.2⟩
      rw [if_neg hz, bs f1]
      rcases ih (i + 1) fu fv q.2 g1 r2 L2 (by omega) (by omega) (by omega) (by rw [hTC.2.2.2.2.1]; exact hk) (by rw [hTC.2.2.2.1]; exact hP) hD2 with ⟨g', r', s1, s2, s3⟩ | ⟨g', r', t', L', s1, s2, s3, s4, s5, s6⟩
      · left
        refine ⟨g', r', s1, s2, s3.1, s3.2.1, s3.2.2.1, s3.2.2.2.1, s3.2.2.2.2.1, s3.2.2.2.2.2.1.trans hDF1.1, s3.2.2.2.2.2.2.trans hDF1.2.2.2.2.2.2.1⟩
      · right
        exact ⟨g', r', t', L', s1, s2, s3, s4, s5, hDF1.tr s6⟩
