-- WHO NAMES A PART
def namB (v : Int32) (m : MKQ) : Bool := decide (v ∈ m.2.2.2.2)
theorem C_iN_L {N P : Nat} {x : St_Marks} (h : ML N x P) {i c : Nat} (hi : i < P) (hc : x.2.1.2 i = nI c) (hc2 : c ≤ 12) (v : Int32) : ∀ (d fuel k : Nat), k + d = c → d < fuel → m_Marks_isNaming_L2 x fuel (nI i) v (nI k) = some (if v ∈ lst (fun j => x.2.2.2.1.2 (12 * i + (k + j))) d then 1 else 0) := by
  intro d
  induction d with
  | zero =>
    intro fuel k hk hf
    obtain ⟨fu, rfl, -⟩ := fu1 hf
    rw [m_Marks_isNaming_L2, bs (M_countAt h hi), hc, if_pos (nI_le (by omega) (by omega)), lst_zero, if_neg (by simp)]
  | succ d ih =>
    intro fuel k hk hf
    obtain ⟨fu, rfl, hf'⟩ := fu1 hf
    have hpa := M_partAt h hi hc hc2 (nI k)
    rw [if_neg (show ¬ (nI k < 0 ∨ nI c ≤ nI k) from fun e => e.elim (nI_pos (by omega)) (nI_ge (by omega) (by omega))), nI_clamp (by omega)] at hpa
    rw [m_Marks_isNaming_L2, bs (M_countAt h hi), hc, if_neg (nI_ge (by omega) (by omega)), bs hpa, lst_cons]
    have e : (fun j => x.2.2.2.1.2 (12 * i + (k + (j + 1)))) = fun j => x.2.2.2.1.2 (12 * i + (k + 1 + j)) := funext fun j => by rw [show k + (j + 1) = k + 1 + j by omega]
    rw [e, Nat.add_zero]
    by_cases hv : x.2.2.2.1.2 (12 * i + k) = v
    · rw [if_pos hv, if_pos (List.mem_cons.mpr (Or.inl hv.symm))]
    · rw [if_neg hv, nI_1, ih fu (k + 1) (by omega) (by omega)]
      by_cases hm : v ∈ lst (fun j => x.2.2.2.1.2 (12 * i + (k + 1 + j))) d
      · rw [if_pos hm, if_pos (List.mem_cons_of_mem _ hm)]
      · rw [if_neg hm, if_neg (fun e => (List.mem_cons.mp e).elim (fun z => hv z.symm) hm)]
theorem C_isNaming {N P : Nat} {x : St_Marks} (h : ML N x P) {i : Nat} (hi : i < P) (v : Int32) : m_Marks_isNaming x (nI i) v = some (if namB v (mrow x i) then 1 else 0) := by
  have hP := h.2.2.1
  obtain ⟨c, hc2, hc⟩ := h.2.2.2.2 i (by omega)
  unfold m_Marks_isNaming
  refine Eq.trans (show m_Marks_isNaming_L2 x FU (nI i) v 0 = _ from C_iN_L h hi hc hc2 v c FU 0 (by omega) (FU_lt (by omega))) ?_
  have e : lst (fun j => x.2.2.2.1.2 (12 * i + (0 + j))) c = (mrow x i).2.2.2.2 := by
    show _ = mls (x.2.1.2 i) _ i
    rw [hc, mls_lst hc2]
    exact lst_congr (fun k _ => by rw [Nat.zero_add])
  rw [e]
  unfold namB
  by_cases hm : v ∈ (mrow x i).2.2.2.2
  · rw [if_pos hm, if_pos (decide_eq_true hm)]
  · rw [if_neg hm, if_neg (by simp [hm])]
theorem C_cN_L {N P : Nat} {x : St_Marks} (h : ML N x P) (v : Int32) : ∀ (d fuel k a : Nat), k + d = P → d < fuel → m_Marks_countNaming_L4 x fuel v (nI a) (nI k) = some (nI (a + (lst (fun j => mrow x (k + j)) d).countP (namB v))) := by
  have hP := h.2.2.1
  have hN := h.2.2.2.1
  intro d
  induction d with
  | zero =>
    intro fuel k a hk hf
    obtain ⟨fu, rfl, -⟩ := fu1 hf
    rw [m_Marks_countNaming_L4, h.2.1, if_pos (nI_le (by omega) (by omega))]; rfl
  | succ d ih =>
    intro fuel k a hk hf
    obtain ⟨fu, rfl, hf'⟩ := fu1 hf
    have e : (fun j => mrow x (k + (j + 1))) = fun j => mrow x (k + 1 + j) := funext fun j => by rw [show k + (j + 1) = k + 1 + j by omega]
    rw [m_Marks_countNaming_L4, h.2.1, if_neg (nI_ge (by omega) (by omega)), bs (C_isNaming h (show k < P by omega) v), lst_cons, e, List.countP_cons, nI_1 k, nI_1 a]
    show _ = some (nI (a + (_ + if namB v (mrow x k) = true then 1 else 0)))
    by_cases hv : namB v (mrow x k) = true
    · rw [if_pos hv, if_neg (by decide), ih fu (k + 1) (a + 1) (by omega) (by omega), if_pos hv]
      congr 2
      omega
    · rw [if_neg hv, if_pos rfl, ih fu (k + 1) a (by omega) (by omega), if_neg hv]
      rfl
theorem C_countNaming {N : Nat} {x : St_Marks} {l : List MKQ} (h : MC N x l) (v : Int32) : m_Marks_countNaming x v = some (nI (l.countP (namB v))) := by
  have h1 := h.1.1.2.2.1
  have h2 := h.1.1.2.2.2.1
  have k := C_cN_L h.1.1 v l.length FU 0 0 (by omega) (FU_lt (by omega))
  have e : lst (fun j => mrow x (0 + j)) l.length = l := by
    rw [lst_congr (g := mrow x) (fun j _ => by rw [Nat.zero_add])]; exact h.2
  rw [e, Nat.zero_add] at k
  exact k
theorem R_nm15 {n : Nat} {r : St_Ref} (hR : RI n r) (kk : Int32 → Int32 → Int32 → Option Int32) {k c : Nat} (hk : k < 270) (hc : (g_RmCount r).2 k = nI c) (hc2 : c ≤ 12) (v : Int32) : ∀ (d fuel i a : Nat), i + d = c → d < fuel → m_RRef_named0_L15 r kk fuel v (nI a) (nI k) (nI i) = kk v (nI (a + (lst (fun j => (g_RmPart r).2 (12 * k + (i + j))) d).count v)) (nI k) := by
  have l1 : (g_RmCount r).1 = 270 := ri_mCount hR
  have l2 : (g_RmPart r).1 = 3240 := ri_mPart hR
  intro d
  induction d with
  | zero =>
    intro fuel i a hi hf
    obtain ⟨fu, rfl, -⟩ := fu1 hf
    rw [m_RRef_named0_L15, l1, if_neg (nI_in hk (by omega)), nI_clamp (by omega), hc, if_pos (nI_le (by omega) (by omega))]; rfl
  | succ d ih =>
    intro fuel i a hi hf
    obtain ⟨fu, rfl, hf'⟩ := fu1 hf
    have e : (fun j => (g_RmPart r).2 (12 * k + (i + (j + 1)))) = fun j => (g_RmPart r).2 (12 * k + (i + 1 + j)) := funext fun j => by rw [show i + (j + 1) = i + 1 + j by omega]
    rw [m_RRef_named0_L15, l1, if_neg (nI_in hk (by omega)), nI_clamp (show k < 2 ^ 31 by omega), hc, if_neg (nI_ge (by omega) (by omega)), n12, pk_mul, nI_add, l2, if_neg (nI_in (by omega) (by omega)), nI_clamp (show 12 * k + i < 2 ^ 31 by omega), lst_cons, e, List.count_cons, nI_1 i, nI_1 a]
    by_cases hv : (g_RmPart r).2 (12 * k + i) = v
    · rw [if_pos hv, ih fu (i + 1) (a + 1) (by omega) (by omega), if_pos (show ((g_RmPart r).2 (12 * k + (i + 0)) == v) = true by rw [Nat.add_zero, hv]; exact beq_self_eq_true v)]
      congr 2
      omega
    · rw [if_neg hv, n0, nI_add, show nI (a + 0) = nI a from rfl, ih fu (i + 1) a (by omega) (by omega), if_neg (show ¬ ((g_RmPart r).2 (12 * k + (i + 0)) == v) = true by rw [Nat.add_zero]; exact fun e => hv (eq_of_beq e))]
      rfl
def cntS (v : Int32) (l : List MKQ) : Nat := (l.map (fun m => m.2.2.2.2.count v)).sum
theorem R_nm4 {n : Nat} {r : St_Ref} {M : Nat} (hR : RI n r) (hm : g_Rmarks r = nI M) (hM : M ≤ 270) (h12 : ∀ k, k < M → K12 (qrow r k)) (v : Int32) : ∀ (d fuel k a : Nat), k + d = M → d < fuel → m_RRef_named0_L4 r fuel v (nI a) (nI k) = some (nI (a + cntS v (lst (fun j => qrow r (k + j)) d))) := by
  intro d
  induction d with
  | zero =>
    intro fuel k a hk hf
    obtain ⟨fu, rfl, -⟩ := fu1 hf
    rw [m_RRef_named0_L4, hm, if_pos (nI_le (by omega) (by omega))]; rfl
  | succ d ih =>
    intro fuel k a hk hf
    obtain ⟨fu, rfl, hf'⟩ := fu1 hf
    obtain ⟨c, -, hc2, hc⟩ := h12 k (by omega)
    have hc' : (g_RmCount r).2 k = nI c := hc
    have e : (fun j => qrow r (k + (j + 1))) = fun j => qrow r (k + 1 + j) := funext fun j => by rw [show k + (j + 1) = k + 1 + j by omega]
    rw [m_RRef_named0_L4, hm, if_neg (nI_ge (by omega) (by omega)), n0]
    refine Eq.trans (R_nm15 hR (fun (v1_6 : Int32) (v2_7 : Int32) (v3_8 : Int32) => m_RRef_named0_L4 r fu v1_6 v2_7 (v3_8 + 1)) (k := k) (c := c) (by omega) hc' hc2 v c FU 0 a (by omega) (FU_lt (by omega))) ?_
    show m_RRef_named0_L4 r fu v (nI (a + (lst (fun j => (g_RmPart r).2 (12 * k + (0 + j))) c).count v)) (nI k + 1) = _
    have e2 : lst (fun j => (g_RmPart r).2 (12 * k + (0 + j))) c = (qrow r k).2.2.2.2 := by
      show _ = mls ((g_RmCount r).2 k) _ k
      rw [hc', mls_lst hc2]
      exact lst_congr (fun j _ => by rw [Nat.zero_add])
    rw [e2, nI_1, ih fu (k + 1) _ (by omega) (by omega), lst_cons, e]
    congr 2
    unfold cntS
    rw [List.map_cons, List.sum_cons]
    show _ = a + ((qrow r k).2.2.2.2.count v + _)
    omega
theorem Ris_nodup {GP : Nat} (hG : GP ≤ 1000000000) {m : MKQ} (h : Ris GP m) : m.2.2.2.2.Nodup := by
  obtain ⟨ns, a1, -, -, -, a5, a6⟩ := h
  rw [a1]
  unfold List.Nodup
  rw [List.pairwise_map]
  refine List.Pairwise.imp_of_mem (fun {a b} ha hb hab => ?_) a5
  intro e
  have := (nI_eq (by have := a6 a ha; omega) (by have := a6 b hb; omega)).mp e
  omega
theorem cntS_eq (v : Int32) : ∀ (l : List MKQ), (∀ m, m ∈ l → m.2.2.2.2.Nodup) → cntS v l = l.countP (namB v) := by
  intro l
  induction l with
  | nil => intro _; rfl
  | cons m l ih =>
    intro h
    have h1 := (h m List.mem_cons_self).count (a := v)
    have h2 := ih (fun z hz => h z (List.mem_cons_of_mem _ hz))
    rw [List.countP_cons, ← h2]
    unfold cntS
    rw [List.map_cons, List.sum_cons, h1, Nat.add_comm]
    congr 1
    unfold namB
    by_cases hm : v ∈ m.2.2.2.2
    · rw [if_pos hm, if_pos (decide_eq_true hm)]
    · rw [if_neg hm, if_neg (by simp [hm])]
/-- how many MARKS name a PART, on both sides -/
theorem w_named {n : Nat} {g : St_Log} {r : St_Ref} {lp : List PQ} {lk lm L : List MKQ} {GP GM : Nat} (hR : RI n r) (hk : MC (n / 2) (g_kept g) lk) (hm : MC 6 (g_made g) lm) (hM : MR r L) (hL : L.Perm (lk ++ lm)) (hA : Abs n lp lk lm GP GM) (v : Int32) : m_Log_countNaming g v = some (nI ((lk ++ lm).countP (namB v))) ∧ m_RRef_named0 r v = some (nI ((lk ++ lm).countP (namB v))) := by
  constructor
  · unfold m_Log_countNaming
    rw [bs (C_countNaming hk v), bs (C_countNaming hm v), nI_add, List.countP_append]
  · have k := R_nm4 hR hM.1 hM.2.1 (fun k hk => hM.2.2.2 _ (MR_mem hM hk)) v L.length FU 0 0 (by omega) (FU_lt (by have := hM.2.1; omega))
    have e : lst (fun j => qrow r (0 + j)) L.length = L := by
      rw [lst_congr (g := qrow r) (fun j _ => by rw [Nat.zero_add])]; exact hM.2.2.1
    rw [e, Nat.zero_add, cntS_eq v L (fun m hmm => ?_), hL.countP_eq] at k
    · exact k
    · rcases List.mem_append.mp (hL.mem_iff.mp hmm) with z | z
      · exact Ris_nodup hA.2.2.2.2.2.1 (hA.2.1 m z).2.1
      · exact Ris_nodup hA.2.2.2.2.2.1 (hA.2.2.1 m z).2.1
theorem st_named {n : Nat} {g : St_Log} {r : St_Ref} (h : Rel n g r) (v : Int32) : ∃ a, m_Log_named g v = some a ∧ m_RRef_named r v = some a := by
  obtain ⟨⟨hn, hC, hR, ht, ho, hts⟩, hT⟩ := id h
  unfold m_Log_named m_RRef_named
  by_cases hop : g_isOpen g = 0
  · exact ⟨-3, by rw [if_pos hop], by rw [if_pos (by rw [← ho]; exact hop)]⟩
  · have ho1 := open_1 hC hop
    have hop' : ¬ g_Ropen r = 0 := by rw [← ho]; exact hop
    obtain ⟨lp, lk, lm, L, GP, GM, hTC, hTR, hL, hA, hN, hH⟩ := hT ho1
    obtain ⟨w1, w2⟩ := w_named hR hTC.2.1 hTC.2.2.1 hTR.2 hL hA v
    exact ⟨_, by rw [if_neg hop, bs w1], by rw [if_neg hop', bs w2]⟩
