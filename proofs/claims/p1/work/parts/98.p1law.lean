theorem lg0 (a : Int64) : lg_cmp a a = 0 := by
  unfold lg_cmp
  simp
theorem p1_fin (xs : Nat → Int32) (g : St_Log) (r : St_Ref) : lawL xs 5 2 g r (1 + 4) = some 1 := by
  rw [lawL, if_pos (by decide)]
set_option maxHeartbeats 4000000 in
theorem p1_pure (xs : Nat → Int32) {L : Nat} (hL : L ≤ 5) : ∃ g r, m_Log_init (if Int32.ofNat L ≤ 0 then 0 else xs 0) = some g ∧ m_RRef_init (if Int32.ofNat L ≤ 0 then 0 else xs 0) = some r ∧ lawL xs L 3 g r 1 = some 1 := by
  obtain ⟨n, h4, h5, e1, e2⟩ := i_both (if Int32.ofNat L ≤ 0 then 0 else xs 0)
  refine ⟨_, _, e1, e2, ?_⟩
  rw [lawL]
  by_cases h : L < 5
  · rw [if_pos (by rcases (show L = 0 ∨ L = 1 ∨ L = 2 ∨ L = 3 ∨ L = 4 by omega) with rfl | rfl | rfl | rfl | rfl <;> decide)]
  · have hL5 : L = 5 := by omega
    subst hL5
    have a1 : ¬ ((1 + 1 : Int32) < 0 ∨ 5 ≤ (1 + 1 : Int32).toNatClampNeg) := by decide
    have a2 : ¬ ((1 + 2 : Int32) < 0 ∨ 5 ≤ (1 + 2 : Int32).toNatClampNeg) := by decide
    have a3 : ¬ ((1 + 3 : Int32) < 0 ∨ 5 ≤ (1 + 3 : Int32).toNatClampNeg) := by decide
    rw [if_neg (by decide), if_neg (by decide)]
    by_cases c0 : (xs (1 : Int32).toNatClampNeg &&& 31) = 0
    · rw [if_pos c0]
      obtain ⟨a, g, r, b1, b2⟩ := o_feed (n := n) h4 ((jlshl (((xs (((1 : Int32) + 1)).toNatClampNeg)).toInt64) 32) ||| ((((xs (((1 : Int32) + 2)).toNatClampNeg)).toInt64) &&& 4294967295)) (xs (((1 : Int32) + 3)).toNatClampNeg)
      simp only [if_neg a1, if_neg a2, if_neg a3]
      rw [bs b1, bs b2, if_pos rfl]
      exact p1_fin xs _ _
    rw [if_neg c0]
    by_cases c1 : (xs (1 : Int32).toNatClampNeg &&& 31) = 1
    · rw [if_pos c1]
      obtain ⟨a, g, r, b1, b2⟩ := o_wipe (n := n)  
      rw [bs b1, bs b2, if_pos rfl]
      exact p1_fin xs _ _
    rw [if_neg c1]
    by_cases c2 : (xs (1 : Int32).toNatClampNeg &&& 31) = 2
    · rw [if_pos c2]
      obtain ⟨a, g, r, b1, b2⟩ := o_part (n := n) h4 h5 (xs (((1 : Int32) + 1)).toNatClampNeg) ((jlshl (((xs (((1 : Int32) + 2)).toNatClampNeg)).toInt64) 32) ||| ((((xs (((1 : Int32) + 3)).toNatClampNeg)).toInt64) &&& 4294967295))
      simp only [if_neg a1, if_neg a2, if_neg a3]
      rw [bs b1, bs b2, if_pos rfl]
      exact p1_fin xs _ _
    rw [if_neg c2]
    by_cases c3 : (xs (1 : Int32).toNatClampNeg &&& 31) = 3
    · rw [if_pos c3]
      obtain ⟨a, g, r, b1, b2⟩ := o_mark (n := n)  (xs (((1 : Int32) + 1)).toNatClampNeg)
      simp only [if_neg a1, if_neg a2, if_neg a3]
      rw [bs b1, bs b2, if_pos rfl]
      exact p1_fin xs _ _
    rw [if_neg c3]
    by_cases c4 : (xs (1 : Int32).toNatClampNeg &&& 31) = 4
    · rw [if_pos c4]
      obtain ⟨a, g, r, b1, b2⟩ := o_keep (n := n)  (xs (((1 : Int32) + 1)).toNatClampNeg)
      simp only [if_neg a1, if_neg a2, if_neg a3]
      rw [bs b1, bs b2, if_pos rfl]
      exact p1_fin xs _ _
    rw [if_neg c4]
    by_cases c5 : (xs (1 : Int32).toNatClampNeg &&& 31) = 5
    · rw [if_pos c5]
      obtain ⟨a, g, r, b1, b2⟩ := o_give (n := n)  (xs (((1 : Int32) + 1)).toNatClampNeg)
      simp only [if_neg a1, if_neg a2, if_neg a3]
      rw [bs b1, bs b2, if_pos rfl]
      exact p1_fin xs _ _
    rw [if_neg c5]
    by_cases c6 : (xs (1 : Int32).toNatClampNeg &&& 31) = 6
    · rw [if_pos c6]
      obtain ⟨a, g, r, b1, b2⟩ := o_owner (n := n) h4 h5 (xs (((1 : Int32) + 1)).toNatClampNeg)
      simp only [if_neg a1, if_neg a2, if_neg a3]
      rw [bs b1, bs b2, if_pos rfl]
      exact p1_fin xs _ _
    rw [if_neg c6]
    by_cases c7 : (xs (1 : Int32).toNatClampNeg &&& 31) = 7
    · rw [if_pos c7]
      obtain ⟨a, g, r, b1, b2⟩ := o_drop (n := n)  (xs (((1 : Int32) + 1)).toNatClampNeg)
      simp only [if_neg a1, if_neg a2, if_neg a3]
      rw [bs b1, bs b2, if_pos rfl]
      exact p1_fin xs _ _
    rw [if_neg c7]
    by_cases c8 : (xs (1 : Int32).toNatClampNeg &&& 31) = 8
    · rw [if_pos c8]
      obtain ⟨a, g, r, b1, b2⟩ := o_cut (n := n)  (xs (((1 : Int32) + 1)).toNatClampNeg)
      simp only [if_neg a1, if_neg a2, if_neg a3]
      rw [bs b1, bs b2, if_pos rfl]
      exact p1_fin xs _ _
    rw [if_neg c8]
    by_cases c9 : (xs (1 : Int32).toNatClampNeg &&& 31) = 9
    · rw [if_pos c9]
      obtain ⟨a, g, r, b1, b2⟩ := o_close (n := n)  
      rw [bs b1, bs b2, if_pos rfl]
      exact p1_fin xs _ _
    rw [if_neg c9]
    by_cases c10 : (xs (1 : Int32).toNatClampNeg &&& 31) = 10
    · rw [if_pos c10]
      obtain ⟨a, g, r, b1, b2⟩ := o_open (n := n) h4 h5 
      rw [bs b1, bs b2, if_pos rfl]
      exact p1_fin xs _ _
    rw [if_neg c10]
    by_cases c11 : (xs (1 : Int32).toNatClampNeg &&& 31) = 11
    · rw [if_pos c11]
      obtain ⟨a, b1, b2⟩ := o_usable (n := n)  
      rw [bs b1, bs b2, if_pos rfl]
      exact p1_fin xs _ _
    rw [if_neg c11]
    by_cases c12 : (xs (1 : Int32).toNatClampNeg &&& 31) = 12
    · rw [if_pos c12]
      obtain ⟨a, b1, b2⟩ := o_whole (n := n) h5 (xs (((1 : Int32) + 1)).toNatClampNeg)
      simp only [if_neg a1, if_neg a2, if_neg a3]
      rw [bs b1, bs b2, if_pos rfl]
      exact p1_fin xs _ _
    rw [if_neg c12]
    by_cases c13 : (xs (1 : Int32).toNatClampNeg &&& 31) = 13
    · rw [if_pos c13]
      obtain ⟨a, b1, b2⟩ := o_marks (n := n) h5 (xs (((1 : Int32) + 1)).toNatClampNeg)
      simp only [if_neg a1, if_neg a2, if_neg a3]
      rw [bs b1, bs b2, if_pos rfl]
      exact p1_fin xs _ _
    rw [if_neg c13]
    by_cases c14 : (xs (1 : Int32).toNatClampNeg &&& 31) = 14
    · rw [if_pos c14]
      obtain ⟨a, b1, b2⟩ := o_markOf (n := n) h5 (xs (((1 : Int32) + 1)).toNatClampNeg) (xs (((1 : Int32) + 2)).toNatClampNeg)
      simp only [if_neg a1, if_neg a2, if_neg a3]
      rw [bs b1, bs b2, if_pos rfl]
      exact p1_fin xs _ _
    rw [if_neg c14]
    by_cases c15 : (xs (1 : Int32).toNatClampNeg &&& 31) = 15
    · rw [if_pos c15]
      obtain ⟨a, b1, b2⟩ := o_partOf (n := n) h5 (xs (((1 : Int32) + 1)).toNatClampNeg) (xs (((1 : Int32) + 2)).toNatClampNeg)
      simp only [if_neg a1, if_neg a2, if_neg a3]
      rw [bs b1, bs b2, if_pos (lg0 _)]
      exact p1_fin xs _ _
    rw [if_neg c15]
    by_cases c16 : (xs (1 : Int32).toNatClampNeg &&& 31) = 16
    · rw [if_pos c16]
      obtain ⟨a, b1, b2⟩ := o_partByte (n := n) h5 (xs (((1 : Int32) + 1)).toNatClampNeg) (xs (((1 : Int32) + 2)).toNatClampNeg)
      simp only [if_neg a1, if_neg a2, if_neg a3]
      rw [bs b1, bs b2, if_pos rfl]
      exact p1_fin xs _ _
    rw [if_neg c16]
    by_cases c17 : (xs (1 : Int32).toNatClampNeg &&& 31) = 17
    · rw [if_pos c17]
      obtain ⟨a, b1, b2⟩ := o_named (n := n)  (xs (((1 : Int32) + 1)).toNatClampNeg)
      simp only [if_neg a1, if_neg a2, if_neg a3]
      rw [bs b1, bs b2, if_pos rfl]
      exact p1_fin xs _ _
    rw [if_neg c17]
    by_cases c18 : (xs (1 : Int32).toNatClampNeg &&& 31) = 18
    · rw [if_pos c18]
      obtain ⟨a, b1, b2⟩ := o_badAt (n := n) h4 h5 
      rw [bs b1, bs b2, if_pos rfl]
      exact p1_fin xs _ _
    rw [if_neg c18]
    by_cases c19 : (xs (1 : Int32).toNatClampNeg &&& 31) = 19
    · rw [if_pos c19]
      obtain ⟨a, g, r, b1, b2⟩ := o_poke (n := n) h4 h5 (xs (((1 : Int32) + 1)).toNatClampNeg) (xs (((1 : Int32) + 2)).toNatClampNeg) (xs (((1 : Int32) + 3)).toNatClampNeg)
      simp only [if_neg a1, if_neg a2, if_neg a3]
      rw [bs b1, bs b2, if_pos rfl]
      exact p1_fin xs _ _
    rw [if_neg c19]
    by_cases c20 : (xs (1 : Int32).toNatClampNeg &&& 31) = 20
    · rw [if_pos c20]
      obtain ⟨a, b1, b2⟩ := o_byteAt (n := n) h4 h5 (xs (((1 : Int32) + 1)).toNatClampNeg) (xs (((1 : Int32) + 2)).toNatClampNeg)
      simp only [if_neg a1, if_neg a2, if_neg a3]
      rw [bs b1, bs b2, if_pos rfl]
      exact p1_fin xs _ _
    rw [if_neg c20]
    by_cases c21 : (xs (1 : Int32).toNatClampNeg &&& 31) = 21
    · rw [if_pos c21]
      obtain ⟨a, g, r, b1, b2⟩ := o_out (n := n) h5 (xs (((1 : Int32) + 1)).toNatClampNeg) (xs (((1 : Int32) + 2)).toNatClampNeg)
      simp only [if_neg a1, if_neg a2, if_neg a3]
      rw [bs b1, bs b2, if_pos rfl]
      exact p1_fin xs _ _
    rw [if_neg c21]
    by_cases c22 : (xs (1 : Int32).toNatClampNeg &&& 31) = 22
    · rw [if_pos c22]
      obtain ⟨a, g, r, b1, b2⟩ := o_in (n := n)  
      rw [bs b1, bs b2, if_pos rfl]
      exact p1_fin xs _ _
    rw [if_neg c22]
    by_cases c23 : (xs (1 : Int32).toNatClampNeg &&& 31) = 23
    · rw [if_pos c23]
      obtain ⟨a, g, b1, b2⟩ := o_equal (n := n) h5 (xs (((1 : Int32) + 1)).toNatClampNeg) (xs (((1 : Int32) + 2)).toNatClampNeg)
      simp only [if_neg a1, if_neg a2, if_neg a3]
      rw [bs b1, bs b2, if_pos rfl]
      exact p1_fin xs _ _
    rw [if_neg c23]
    by_cases c24 : (xs (1 : Int32).toNatClampNeg &&& 31) = 24
    · rw [if_pos c24]
      obtain ⟨a, r, b1, b2⟩ := o_told (n := n) h4 h5 (xs (((1 : Int32) + 1)).toNatClampNeg)
      simp only [if_neg a1, if_neg a2, if_neg a3]
      rw [bs b1, bs b2, if_pos rfl]
      exact p1_fin xs _ _
    rw [if_neg c24]
    exact p1_fin xs _ _
theorem whole_start {p : Program} {e : Env} {s : State} {m : MethodId} {below : List Frame} {meth : Method} {c : Code} (l : Launch) {b L : Nat} {xs : Nat → Int32} (hL : L ≤ 5) (C0 : lw_At p s m meth c b L xs) : W p l e room_1 s m #[Value.ref b] below meth c s.heap [] 0 0 (lw_Z below #[Value.ref b] s) (entryFrame m ([Value.ref b] : List Value).toArray 4) := by
  obtain ⟨g, r, h1, h2, h3⟩ := p1_pure xs hL
  exact law_start l C0 g r h1 h2 3 h3
