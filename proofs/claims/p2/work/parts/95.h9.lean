-- MARKS ON BOTH SIDES: finding one, giving one up
theorem pw_un {l : List MKQ} (h : l.Pairwise (fun a b => a.1 ≠ b.1)) {a b : MKQ} (ha : a ∈ l) (hb : b ∈ l) (e : a.1 = b.1) : a = b := by
  induction l with
  | nil => cases ha
  | cons c l ih =>
    obtain ⟨h1, h2⟩ := List.pairwise_cons.mp h
    rcases List.mem_cons.mp ha with ea | ha'
    · rcases List.mem_cons.mp hb with eb | hb'
      · rw [ea, eb]
      · rw [ea] at e
        exact absurd e (h1 b hb')
    · rcases List.mem_cons.mp hb with eb | hb'
      · rw [eb] at e
        exact absurd e.symm (h1 a ha')
      · exact ih h2 ha' hb'
theorem C_findM {N : Nat} {x : St_Marks} {l : List MKQ} (h : MC N x l) (v : Int32) : (m_Marks_find x v = some (-1) ∧ ∀ m, m ∈ l → m.1 ≠ v) ∨ ∃ i, i < l.length ∧ m_Marks_find x v = some (nI i) ∧ (mrow x i).1 = v := by
  rcases M_find h.1 v with ⟨e1, e2⟩ | ⟨k, hk, e1, e2⟩
  · left
    refine ⟨e1, fun m hm => ?_⟩
    obtain ⟨k, hk, rfl⟩ := MC_ex h hm
    exact e2 k hk
  · right
    exact ⟨k, hk, e1, e2⟩
/-- a number: of a kept MARK, of one not kept, of none -/
theorem F3 {n N : Nat} {r : St_Ref} {xk xm : St_Marks} {lk lm L : List MKQ} (hR : RI n r) (hk : MC N xk lk) (hm : MC 6 xm lm) (hM : MR r L) (hL : L.Perm (lk ++ lm)) (hu : (lk ++ lm).Pairwise (fun a b => a.1 ≠ b.1)) (v : Int32) : (m_Marks_find xk v = some (-1) ∧ m_Marks_find xm v = some (-1) ∧ m_RRef_findMark r v = some (-1) ∧ ∀ m, m ∈ L → m.1 ≠ v) ∨ (∃ i j, i < lk.length ∧ j < L.length ∧ m_Marks_find xk v = some (nI i) ∧ m_Marks_find xm v = some (-1) ∧ m_RRef_findMark r v = some (nI j) ∧ qrow r j = mrow xk i ∧ mrow xk i ∈ lk ∧ (mrow xk i).1 = v) ∨ (∃ i j, i < lm.length ∧ j < L.length ∧ m_Marks_find xk v = some (-1) ∧ m_Marks_find xm v = some (nI i) ∧ m_RRef_findMark r v = some (nI j) ∧ qrow r j = mrow xm i ∧ mrow xm i ∈ lm ∧ (mrow xm i).1 = v) := by
  have hLu : L.Pairwise (fun a b => a.1 ≠ b.1) := (hL.pairwise_iff (fun hr => hr.symm)).mpr hu
  have hRf := R_findMark hR hM.1 hM.2.1 v
  rcases C_findM hk v with ⟨a1, a2⟩ | ⟨i, hi, a1, a2⟩
  · rcases C_findM hm v with ⟨b1, b2⟩ | ⟨i, hi, b1, b2⟩
    · left
      have hno : ∀ m, m ∈ L → m.1 ≠ v := fun m hmm => by
        rcases List.mem_append.mp (hL.mem_iff.mp hmm) with z | z
        · exact a2 m z
        · exact b2 m z
      refine ⟨a1, b1, ?_, hno⟩
      rcases hRf with ⟨c1, c2⟩ | ⟨j, hj, c1, c2⟩
      · exact c1
      · exact absurd c2 (hno _ (MR_mem hM hj))
    · right; right
      have hmem := MC_mem hm hi
      have hmL : mrow xm i ∈ L := hL.mem_iff.mpr (List.mem_append.mpr (Or.inr hmem))
      rcases hRf with ⟨c1, c2⟩ | ⟨j, hj, c1, c2⟩
      · obtain ⟨j, hj, e⟩ := MR_ex hM hmL
        exact absurd (by rw [e]; exact b2) (c2 j hj)
      · exact ⟨i, j, hi, hj, a1, b1, c1, pw_un hLu (MR_mem hM hj) hmL (by rw [c2, b2]), hmem, b2⟩
  · right; left
    have hmem := MC_mem hk hi
    have hmL : mrow xk i ∈ L := hL.mem_iff.mpr (List.mem_append.mpr (Or.inl hmem))
    have b1 : m_Marks_find xm v = some (-1) := by
      rcases C_findM hm v with ⟨b1, b2⟩ | ⟨i2, hi2, b1, b2⟩
      · exact b1
      · have hd := (List.pairwise_append.mp hu).2.2 _ hmem _ (MC_mem hm hi2)
        exact absurd (by rw [a2, b2]) hd
    rcases hRf with ⟨c1, c2⟩ | ⟨j, hj, c1, c2⟩
    · obtain ⟨j, hj, e⟩ := MR_ex hM hmL
      exact absurd (by rw [e]; exact a2) (c2 j hj)
    · exact ⟨i, j, hi, hj, a1, b1, c1, pw_un hLu (MR_mem hM hj) hmL (by rw [c2, a2]), hmem, a2⟩
theorem MC_remove {N : Nat} {x : St_Marks} {l : List MKQ} (h : MC N x l) {a : Nat} (ha : a < l.length) : ∃ x' l', m_Marks_remove x (nI a) = some x' ∧ MC N x' l' ∧ (mrow x a :: l').Perm l := by
  obtain ⟨x', a1, a2, a3⟩ := M_remove h.1 ha
  have hp := lst_del (f := mrow x) (f' := mrow x') ha a3
  rw [h.2] at hp
  exact ⟨x', lst (mrow x') (l.length - 1), a1, ⟨by rw [lst_len]; exact a2, by rw [lst_len]⟩, hp⟩
theorem Abs_give {n : Nat} {lp : List PQ} {lk lm lm' : List MKQ} {GP GM : Nat} {m : MKQ} (h : Abs n lp lk lm GP GM) (hp : (m :: lm').Perm lm) : Abs n lp lk lm' GP GM := by
  obtain ⟨h1, h2, h3, h4, h5, h6⟩ := Abs_perm (List.Perm.refl _) (List.Perm.refl _) hp.symm h
  exact ⟨h1, h2, fun z hz => h3 z (List.mem_cons_of_mem _ hz), h4, h5.sublist ((List.sublist_cons_self m lm').append_left lk), h6⟩
theorem give_perm {L L' lk lm lm' : List MKQ} {m : MKQ} (h1 : (m :: L').Perm L) (h2 : L.Perm (lk ++ lm)) (h3 : (m :: lm').Perm lm) : L'.Perm (lk ++ lm') := by
  have h4 : (m :: L').Perm (m :: (lk ++ lm')) := h1.trans (h2.trans ((List.Perm.append_left lk h3.symm).trans List.perm_middle))
  exact h4.cons_inv
theorem st_give {n : Nat} {g : St_Log} {r : St_Ref} (h : Rel n g r) (v : Int32) : ∃ a g' r', m_Log_give g v = some (a, g') ∧ m_RRef_give r v = some (a, r') ∧ Rel n g' r' := by
  obtain ⟨⟨hn, hC, hR, ht, ho, hts⟩, hT⟩ := id h
  unfold m_Log_give m_RRef_give
  by_cases hop : g_isOpen g = 0
  · exact ⟨-3, g, r, by rw [if_pos hop], by rw [if_pos (by rw [← ho]; exact hop)], h⟩
  · have ho1 := open_1 hC hop
    rw [if_neg hop, if_neg (by rw [← ho]; exact hop)]
    obtain ⟨lp, lk, lm, L, GP, GM, hTC, hTR, hL, hA, hN, hH⟩ := hT ho1
    have lr : (g_RmRow r).1 = 270 := ri_mRow hR
    have hML := hTR.2.2.1
    rcases F3 hR hTC.2.1 hTC.2.2.1 hTR.2 hL hA.2.2.2.2.1 v with ⟨a1, a2, a3, a4⟩ | ⟨i, j, hi, hj, a1, a2, a3, a4, a5, a6⟩ | ⟨i, j, hi, hj, a1, a2, a3, a4, a5, a6⟩
    · exact ⟨-1, g, r, by rw [bs a2, if_pos rfl], by rw [bs a3, if_pos rfl], h⟩
    · refine ⟨-1, g, r, by rw [bs a2, if_pos rfl], ?_, h⟩
      obtain ⟨_, _, w, _, _, _, _, _, _, p7, _, p9⟩ := (hA.2.1 _ a5).1
      have e : (g_RmRow r).2 j = nI w := by
        have := congrArg (fun z : MKQ => z.2.2.1) a4
        exact this.trans p7
      rw [bs a3, if_neg (nI_m1 (by omega)), lr, if_neg (nI_in (by omega) (by omega)), nI_clamp (by omega), e, if_neg (nI_m1 (by omega))]
    · obtain ⟨x', l', b1, b2, b3⟩ := MC_remove hTC.2.2.1 hi
      obtain ⟨r', L', c1, c2, c3, c4, c5⟩ := R_forgetMark hR hTR.2 hj
      obtain ⟨_, _, _, _, _, _, _, _, p7, _⟩ := (hA.2.2.1 _ a5).1
      have e : (g_RmRow r).2 j = (-1) := by
        have := congrArg (fun z : MKQ => z.2.2.1) a4
        exact this.trans p7
      have hlm : lm.length ≤ 6 := hTC.2.2.1.1.1.2.2.1
      refine ⟨1, s_made g x', r', ?_, ?_, ?_, fun _ => ⟨lp, lk, l', L', GP, GM, ⟨?_, ?_, ?_, ?_⟩, ⟨PR_fr c3.2.2.1 hTR.1, c4⟩, ?_, Abs_give hA b3, ?_, ?_⟩⟩
      · rw [bs a2, if_neg (nI_m1 (by omega)), bs b1]
      · rw [bs a3, if_neg (nI_m1 (by omega)), lr, if_neg (nI_in (by omega) (by omega)), nI_clamp (by omega), e, if_pos rfl, bs c1]
      · refine ⟨hn, cs_made hC ⟨_, b2.1.1⟩, c2, ?_, ?_, ?_⟩
        · simp only [q_medium]
          rw [ht]
          unfold rtri
          rw [e_medium c3.1, e_cutIn c3.1, e_written c3.1]
        · simp only [q_isOpen]; rw [e_open c3.1]; exact ho
        · simp only [q_tape]; rw [e_tape c3.2.1, e_taped c3.2.1]; exact hts
      · simp only [q_parts]; exact hTC.1
      · simp only [q_kept]; exact hTC.2.1
      · simp only [q_made]; exact b2
      · simp only [q_room]; exact hTC.2.2.2
      · rw [a4] at c5
        exact give_perm c5 hL b3
      · exact Nums_fr rfl rfl c3.2.2.2.2 hN
      · exact Hds_fr rfl rfl c3.2.2.2.1 hH
-- HOW MANY
theorem R_cnt_L {n : Nat} {r : St_Ref} {M : Nat} (hR : RI n r) (hm : g_Rmarks r = nI M) (hM : M ≤ 270) (b : Bool) : ∀ (d fuel k a : Nat), k + d = M → d < fuel → m_RRef_count_L4 r fuel (if b then 1 else 0) (nI a) (nI k) = some (nI (a + (lst (fun i => qrow r (k + i)) d).countP (fun m => decide (m.2.2.1 = (-1)) != b))) := by
  have lr : (g_RmRow r).1 = 270 := ri_mRow hR
  intro d
  induction d with
  | zero =>
    intro fuel k a hk hf
    obtain ⟨fu, rfl, -⟩ := fu1 hf
    rw [m_RRef_count_L4, hm, if_pos (nI_le (by omega) (by omega))]
    rfl
  | succ d ih =>
    intro fuel k a hk hf
    obtain ⟨fu, rfl, hf'⟩ := fu1 hf
    rw [m_RRef_count_L4, hm, if_neg (nI_ge (by omega) (by omega)), lr, if_neg (nI_in (by omega) (by omega)), nI_clamp (by omega), nI_1, nI_1, n0, nI_add, Nat.add_zero, lst_cons]
    have e : (fun i => qrow r (k + (i + 1))) = fun i => qrow r (k + 1 + i) := funext fun i => by rw [show k + (i + 1) = k + 1 + i by omega]
    rw [List.countP_cons, e]
    have i0 := ih fu (k + 1) a (by omega) (by omega)
    have i1 := ih fu (k + 1) (a + 1) (by omega) (by omega)
    rw [n0] at i0 i1
    by_cases hz : (g_RmRow r).2 k = (-1)
    · rw [if_pos hz]
      have hd : decide ((qrow r (k + 0)).2.2.1 = (-1)) = true := decide_eq_true hz
      cases b with
      | false =>
        rw [if_pos (by decide), i1]
        rw [hd]
        congr 2
        show a + 1 + _ = a + (_ + 1)
        omega
      | true =>
        rw [if_neg (by decide), show nI (a + 0) = nI a from rfl, i0, hd]
        rfl
    · rw [if_neg hz]
      have hd : decide ((qrow r (k + 0)).2.2.1 = (-1)) = false := decide_eq_false hz
      cases b with
      | false =>
        rw [if_neg (by decide), show nI (a + 0) = nI a from rfl, i0, hd]
        rfl
      | true =>
        rw [if_pos (by decide), i1, hd]
        congr 2
        show a + 1 + _ = a + (_ + 1)
        omega
theorem R_count {n : Nat} {r : St_Ref} {lk lm L : List MKQ} {lp : List PQ} {GP GM : Nat} (hR : RI n r) (hn : n ≤ 512) (hM : MR r L) (hL : L.Perm (lk ++ lm)) (hA : Abs n lp lk lm GP GM) : m_RRef_count r 0 = some (nI lm.length) ∧ m_RRef_count r 1 = some (nI lk.length) := by
  have hk : ∀ m, m ∈ lk → ¬ m.2.2.1 = (-1) := by
    intro m hm e
    obtain ⟨_, _, w, _, _, _, _, _, _, p7, _, p9⟩ := (hA.2.1 _ hm).1
    rw [p7] at e
    exact nI_m1 (by omega) e
  have hm : ∀ m, m ∈ lm → m.2.2.1 = (-1) := by
    intro m hm
    obtain ⟨_, _, _, _, _, _, _, _, p7, _⟩ := (hA.2.2.1 _ hm).1
    exact p7
  have e0 : ∀ b, (lst (fun i => qrow r (0 + i)) L.length).countP (fun m => decide (m.2.2.1 = (-1)) != b) = lk.countP (fun m => decide (m.2.2.1 = (-1)) != b) + lm.countP (fun m => decide (m.2.2.1 = (-1)) != b) := by
    intro b
    have : (fun i => qrow r (0 + i)) = qrow r := funext fun i => by rw [Nat.zero_add]
    rw [this, hM.2.2.1, hL.countP_eq, List.countP_append]
  unfold m_RRef_count
  constructor
  · have h := R_cnt_L hR hM.1 hM.2.1 false L.length FU 0 0 (by omega) (FU_lt (by have := hM.2.1; omega))
    rw [e0, Nat.zero_add] at h
    rw [n0]
    have k1 : lk.countP (fun m => decide (m.2.2.1 = (-1)) != false) = 0 := by
      rw [List.countP_eq_zero]
      intro m hmm
      simp [hk m hmm]
    have k2 : lm.countP (fun m => decide (m.2.2.1 = (-1)) != false) = lm.length := by
      rw [List.countP_eq_length]
      intro m hmm
      simp [hm m hmm]
    rw [k1, k2, Nat.zero_add] at h
    exact h
  · have h := R_cnt_L hR hM.1 hM.2.1 true L.length FU 0 0 (by omega) (FU_lt (by have := hM.2.1; omega))
    rw [e0, Nat.zero_add] at h
    rw [n0]
    have k1 : lk.countP (fun m => decide (m.2.2.1 = (-1)) != true) = lk.length := by
      rw [List.countP_eq_length]
      intro m hmm
      simp [hk m hmm]
    have k2 : lm.countP (fun m => decide (m.2.2.1 = (-1)) != true) = 0 := by
      rw [List.countP_eq_zero]
      intro m hmm
      simp [hm m hmm]
    rw [k1, k2, Nat.add_zero] at h
    exact h
