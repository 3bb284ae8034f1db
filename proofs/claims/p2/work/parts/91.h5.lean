-- THE SAME THINGS ON BOTH SIDES
def PC (n : Nat) (x : St_Parts) (lp : List PQ) : Prop := PS n x lp.length ∧ lst (crow x) lp.length = lp
def PR (r : St_Ref) (lp : List PQ) : Prop := TR r lp.length (fun q => q ∈ lp)
theorem PC_tc {n : Nat} {x : St_Parts} {lp : List PQ} (h : PC n x lp) : TC n x lp.length (fun q => q ∈ lp) := by
  refine ⟨h.1, fun q => ?_⟩
  have e := h.2
  constructor
  · intro hq
    rw [← e] at hq
    exact mem_lst.mp hq
  · intro hq
    rw [← e]
    exact mem_lst.mpr hq
theorem PC_mem {n : Nat} {x : St_Parts} {lp : List PQ} (h : PC n x lp) {k : Nat} (hk : k < lp.length) : crow x k ∈ lp := ((PC_tc h).2 _).mpr ⟨k, hk, rfl⟩
theorem PR_mem {r : St_Ref} {lp : List PQ} (h : PR r lp) {k : Nat} (hk : k < lp.length) : rrow r k ∈ lp := (h.2.1 _).mpr ⟨k, hk, rfl⟩
theorem TR_congr {r : St_Ref} {P : Nat} {T T' : PQ → Prop} (h : TR r P T) (e : ∀ q, T q ↔ T' q) : TR r P T' := ⟨h.1, fun q => (e q).symm.trans (h.2.1 q), h.2.2⟩
theorem TR_fr {r r' : St_Ref} {P : Nat} {T : PQ → Prop} (e : fPar r' = fPar r) (h : TR r P T) : TR r' P T := by
  have e1 := e_pNumber e
  have e2 := e_pGroup e
  have e3 := e_pPosition e
  have e4 := e_pLength e
  have e5 := e_pRow e
  have e6 := e_parts e
  have er : ∀ k, rrow r' k = rrow r k := by
    intro k
    unfold rrow
    rw [e1, e2, e3, e4, e5]
  obtain ⟨⟨⟨l1, l2, l3, l4, l5⟩, hp, hP⟩, h2, h3⟩ := h
  refine ⟨⟨⟨by rw [e1]; exact l1, by rw [e2]; exact l2, by rw [e3]; exact l3, by rw [e4]; exact l4, by rw [e5]; exact l5⟩, by rw [e6]; exact hp, hP⟩, fun q => ?_, fun i j hi hj he => ?_⟩
  · rw [h2 q]
    exact ⟨fun ⟨k, hk, e⟩ => ⟨k, hk, by rw [er]; exact e⟩, fun ⟨k, hk, e⟩ => ⟨k, hk, by rw [← er]; exact e⟩⟩
  · rw [er, er] at he
    exact h3 i j hi hj he
theorem PR_fr {r r' : St_Ref} {lp : List PQ} (e : fPar r' = fPar r) (h : PR r lp) : PR r' lp := TR_fr e h
theorem MR_fr {r r' : St_Ref} {L : List MKQ} (e : fMrk r' = fMrk r) (h : MR r L) : MR r' L := by
  have er : qrow r' = qrow r := by
    funext k
    unfold qrow
    rw [e_mNumber e, e_mRow e, e_mCount e, e_mDigest e, e_mPart e]
  exact ⟨by rw [e_marks e]; exact h.1, h.2.1, by rw [er]; exact h.2.2.1, h.2.2.2⟩
/-- the numbers of a MARK's PARTS rise, up to GP -/
def Ris (GP : Nat) (m : MKQ) : Prop := ∃ ns : List Nat, m.2.2.2.2 = ns.map nI ∧ m.2.1 = nI ns.length ∧ 1 ≤ ns.length ∧ ns.length ≤ 12 ∧ ns.Pairwise (fun a b => a < b) ∧ ∀ a, a ∈ ns → 1 ≤ a ∧ a ≤ GP
def NumLe (G : Nat) (v : Int32) : Prop := ∃ a : Nat, 1 ≤ a ∧ a ≤ G ∧ v = nI a
def ivs (lp : List PQ) (lk : List MKQ) : List (Nat × Nat) := lp.map pIv ++ lk.map mIv
def Abs (n : Nat) (lp : List PQ) (lk lm : List MKQ) (GP GM : Nat) : Prop := (∀ q, q ∈ lp → FitP n q ∧ NumLe GP q.1) ∧ (∀ m, m ∈ lk → FitK n m ∧ Ris GP m ∧ NumLe GM m.1) ∧ (∀ m, m ∈ lm → FitM m ∧ Ris GP m ∧ NumLe GM m.1 ∧ ∀ v, v ∈ m.2.2.2.2 → ∃ q, q ∈ lp ∧ q.1 = v) ∧ DJ n (ivs lp lk) ∧ (lk ++ lm).Pairwise (fun a b => a.1 ≠ b.1) ∧ GP ≤ 1000000000 ∧ GM ≤ 1000000000
def BT (n : Nat) (x : St_Room) (l : List (Nat × Nat)) : Prop := x.1 = n ∧ ∀ r, 2 ≤ r → r < n → (x.2 r = 0 ↔ cov l r = 0)
theorem BT_perm {n : Nat} {x : St_Room} {l l' : List (Nat × Nat)} (p : l.Perm l') (h : BT n x l) : BT n x l' := ⟨h.1, fun r h1 h2 => by rw [← cov_perm p r]; exact h.2 r h1 h2⟩
theorem ivs_perm {lp lp' : List PQ} {lk lk' : List MKQ} (p : lp.Perm lp') (q : lk.Perm lk') : (ivs lp lk).Perm (ivs lp' lk') := List.Perm.append (p.map _) (q.map _)
theorem Abs_perm {n : Nat} {lp lp' : List PQ} {lk lk' lm lm' : List MKQ} {GP GM : Nat} (p : lp.Perm lp') (q : lk.Perm lk') (s : lm.Perm lm') (h : Abs n lp lk lm GP GM) : Abs n lp' lk' lm' GP GM := by
  obtain ⟨h1, h2, h3, h4, h5, h6⟩ := h
  refine ⟨fun z hz => h1 z (p.mem_iff.mpr hz), fun z hz => h2 z (q.mem_iff.mpr hz), fun z hz => ?_, DJ_perm (ivs_perm p q) h4, ((List.Perm.append q s).pairwise_iff (fun hr => hr.symm)).mp h5, h6⟩
  obtain ⟨k1, k2, k3, k4⟩ := h3 z (s.mem_iff.mpr hz)
  exact ⟨k1, k2, k3, fun v hv => by obtain ⟨w, hw, e⟩ := k4 v hv; exact ⟨w, p.mem_iff.mp hw, e⟩⟩
theorem pIv_of {n : Nat} {q : PQ} (h : FitP n q) (hn : n ≤ 512) : 1 ≤ (pIv q).2 := by unfold pIv; exact Nat.le_add_right _ _
theorem mIv_of {n : Nat} {m : MKQ} (h : FitK n m) (hn : n ≤ 512) : 2 ≤ (mIv m).2 := by
  obtain ⟨a, c, w, -, -, -, q4, q5, q6, -⟩ := h
  unfold mIv ent
  rw [q4, nI_clamp (by omega)]
  show 2 ≤ 1 + (c + 1) / 2
  omega
/-- so much fits the rows -/
theorem Abs_room {n : Nat} {lp : List PQ} {lk lm : List MKQ} {GP GM : Nat} (h : Abs n lp lk lm GP GM) (hn : n ≤ 512) : lp.length + 2 * lk.length ≤ n - 2 := by
  have h1 := DJ_sum h.2.2.2.1
  unfold ivs at h1
  rw [lens_app] at h1
  have h2 := lens_ge (l := lp.map pIv) (c := 1) (fun i hi => by
    obtain ⟨q, hq, rfl⟩ := List.mem_map.mp hi
    exact pIv_of (h.1 q hq).1 hn)
  have h3 := lens_ge (l := lk.map mIv) (c := 2) (fun i hi => by
    obtain ⟨q, hq, rfl⟩ := List.mem_map.mp hi
    exact mIv_of (h.2.1 q hq).1 hn)
  rw [List.length_map] at h2 h3
  omega
theorem FitM_notK {n : Nat} {m : MKQ} (h : FitM m) (hn : n ≤ 512) : ¬ FitK n m := by
  rintro ⟨_, _, w, _, _, _, _, _, _, p7, _, p9⟩
  obtain ⟨_, _, _, _, _, _, _, _, q7, _⟩ := h
  rw [q7] at p7
  exact m1_nI (by omega) p7
/-- the reference's used rows are the class's taken ones -/
theorem used_bits {n : Nat} {r : St_Ref} {x : St_Room} {lp : List PQ} {lk lm L : List MKQ} {GP GM : Nat} (hR : RI n r) (hn : n ≤ 512) (hA : Abs n lp lk lm GP GM) (hB : BT n x (ivs lp lk)) (hP : PR r lp) (hM : MR r L) (hL : L.Perm (lk ++ lm)) : ∃ f, m_RRef_marksUsed r = some (s_Rused r (512, f)) ∧ ∀ w, 2 ≤ w → w < n → (f w = 0 ↔ x.2 w = 0) := by
  obtain ⟨h1, h2, h3, h4, h5, h6⟩ := id hA
  have hfM : ∀ k, k < L.length → FitK n (qrow r k) ∨ FitM (qrow r k) := by
    intro k hk
    rcases List.mem_append.mp (hL.mem_iff.mp (MR_mem hM hk)) with hm | hm
    · exact Or.inl (h2 _ hm).1
    · exact Or.inr (h3 _ hm).1
  obtain ⟨f, a1, a2⟩ := R_marksUsed hR hn hP.1.2.1 hP.1.2.2 (fun k hk => (h1 _ (PR_mem hP hk)).1) hM.1 hM.2.1 hfM
  refine ⟨f, a1, fun w w1 w2 => ?_⟩
  rw [a2 w (by omega), hB.2 w w1 w2, cov_pos]
  unfold ivs
  constructor
  · rintro ⟨-, z2, z3⟩ i hi
    rcases List.mem_append.mp hi with hi | hi
    · obtain ⟨q, hq, rfl⟩ := List.mem_map.mp hi
      obtain ⟨k, hk, rfl⟩ := (hP.2.1 q).mp hq
      exact z2 k hk
    · obtain ⟨m, hm, rfl⟩ := List.mem_map.mp hi
      obtain ⟨k, hk, rfl⟩ := MR_ex hM (hL.mem_iff.mpr (List.mem_append.mpr (Or.inl hm)))
      exact z3 k hk (h2 _ hm).1
  · intro z
    refine ⟨⟨w1, w2⟩, fun j hj => z _ (List.mem_append.mpr (Or.inl (List.mem_map.mpr ⟨_, PR_mem hP hj, rfl⟩))), fun j hj hK => ?_⟩
    rcases List.mem_append.mp (hL.mem_iff.mp (MR_mem hM hj)) with hm | hm
    · exact z _ (List.mem_append.mpr (Or.inr (List.mem_map.mpr ⟨_, hm, rfl⟩)))
    · exact absurd hK (FitM_notK (h3 _ hm).1 hn)
/-- always the same: medium, power, TAPE, open or not -/
def Cor (n : Nat) (g : St_Log) (r : St_Ref) : Prop := (4 ≤ n ∧ n ≤ 512) ∧ CI n g ∧ RI n r ∧ tri (g_medium g) = rtri r ∧ g_isOpen g = g_Ropen r ∧ ∃ ts : Nat, BB 2000 (g_tape g) ts ∧ g_Rtaped r = nI ts ∧ ∀ j, j < ts → (g_tape g).1.2 j = (g_Rtape r).2 j
/-- the same while it is open: numbers -/
def Nums (g : St_Log) (r : St_Ref) (GP GM : Nat) : Prop := g_greatestPart g = nI GP ∧ g_RlastPart r = nI GP ∧ g_greatestMark g = nI GM ∧ g_RlastMark r = nI GM
def Hds (g : St_Log) (r : St_Ref) : Prop := ∃ (ow : Nat → Int32) (S : Nat), g_owners g = (8, ow) ∧ g_Rowners r = (8, ow) ∧ g_serial g = nI S ∧ g_Rserial r = nI S ∧ S ≤ 1000000000 ∧ ∀ j, j < 8 → ∃ o : Nat, o ≤ 65535 ∧ ow j = nI o
def TabC (n : Nat) (g : St_Log) (lp : List PQ) (lk lm : List MKQ) : Prop := PC n (g_parts g) lp ∧ MC (n / 2) (g_kept g) lk ∧ MC 6 (g_made g) lm ∧ BT n (g_room g) (ivs lp lk)
def TabR (r : St_Ref) (lp : List PQ) (L : List MKQ) : Prop := PR r lp ∧ MR r L
def Tab (n : Nat) (g : St_Log) (r : St_Ref) : Prop := ∃ (lp : List PQ) (lk lm L : List MKQ) (GP GM : Nat), TabC n g lp lk lm ∧ TabR r lp L ∧ L.Perm (lk ++ lm) ∧ Abs n lp lk lm GP GM ∧ Nums g r GP GM ∧ Hds g r
def Rel (n : Nat) (g : St_Log) (r : St_Ref) : Prop := Cor n g r ∧ (g_isOpen g = 1 → Tab n g r)
theorem TabC_fr {n : Nat} {g g' : St_Log} {lp : List PQ} {lk lm : List MKQ} (e1 : g_parts g' = g_parts g) (e2 : g_kept g' = g_kept g) (e3 : g_made g' = g_made g) (e4 : g_room g' = g_room g) (h : TabC n g lp lk lm) : TabC n g' lp lk lm := by
  unfold TabC
  rw [e1, e2, e3, e4]; exact h
theorem TabR_fr {r r' : St_Ref} {lp : List PQ} {L : List MKQ} (e1 : fPar r' = fPar r) (e2 : fMrk r' = fMrk r) (h : TabR r lp L) : TabR r' lp L := ⟨PR_fr e1 h.1, MR_fr e2 h.2⟩
theorem Nums_fr {g g' : St_Log} {r r' : St_Ref} {GP GM : Nat} (e1 : g_greatestPart g' = g_greatestPart g) (e2 : g_greatestMark g' = g_greatestMark g) (e3 : fLs r' = fLs r) (h : Nums g r GP GM) : Nums g' r' GP GM := by
  unfold Nums
  rw [e1, e2, e_lastPart e3, e_lastMark e3]; exact h
theorem Hds_fr {g g' : St_Log} {r r' : St_Ref} (e1 : g_owners g' = g_owners g) (e2 : g_serial g' = g_serial g) (e3 : fHd r' = fHd r) (h : Hds g r) : Hds g' r' := by
  unfold Hds
  rw [e1, e2, e_owners e3, e_serial e3]; exact h
theorem Tab_fr {n : Nat} {g g' : St_Log} {r r' : St_Ref} (e1 : g_parts g' = g_parts g) (e2 : g_kept g' = g_kept g) (e3 : g_made g' = g_made g) (e4 : g_room g' = g_room g) (e5 : g_greatestPart g' = g_greatestPart g) (e6 : g_greatestMark g' = g_greatestMark g) (e7 : g_owners g' = g_owners g) (e8 : g_serial g' = g_serial g) (f1 : fPar r' = fPar r) (f2 : fMrk r' = fMrk r) (f3 : fLs r' = fLs r) (f4 : fHd r' = fHd r) (h : Tab n g r) : Tab n g' r' := by
  obtain ⟨lp, lk, lm, L, GP, GM, h1, h2, h3, h4, h5, h6⟩ := h
  exact ⟨lp, lk, lm, L, GP, GM, TabC_fr e1 e2 e3 e4 h1, TabR_fr f1 f2 h2, h3, h4, Nums_fr e5 e6 f3 h5, Hds_fr e7 e8 f4 h6⟩
