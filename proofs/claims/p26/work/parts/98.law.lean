-- THE LAW'S LOOP, OUT OF THE RELATION (printed by wip/gen/lawend.py)
set_option maxHeartbeats 8000000 in
theorem lw_pure {n L : Nat} (hL : L ≤ 2049) (xs : Nat → Int32) : ∀ (d fuel i : Nat) (g : St_Log) (r : St_Ref), Rel n g r → L ≤ i + 3 + 4 * d → i ≤ L + 4 → d < fuel → lawL xs L fuel g r (nI i) = some 1 := by
  intro d
  induction d with
  | zero =>
    intro fuel i g r h hi hiL hf
    obtain ⟨fu, rfl, -⟩ := fu1 hf
    rw [lawL, if_pos (lw_stop hL (by omega) (by omega))]
  | succ d ih =>
    intro fuel i g r h hi hiL hf
    obtain ⟨fu, rfl, hfu⟩ := fu1 hf
    rw [lawL]
    by_cases hst : L ≤ i + 3
    · rw [if_pos (lw_stop hL (by omega) hst)]
    have a0 : ¬ (nI i < 0 ∨ L ≤ (nI i).toNatClampNeg) := nI_in (by omega) (by omega)
    have a1 : ¬ (nI i + 1 < 0 ∨ L ≤ (nI i + 1).toNatClampNeg) := lw_in (k := 1) hL (by omega) n1
    have a2 : ¬ (nI i + 2 < 0 ∨ L ≤ (nI i + 2).toNatClampNeg) := lw_in (k := 2) hL (by omega) n2
    have a3 : ¬ (nI i + 3 < 0 ∨ L ≤ (nI i + 3).toNatClampNeg) := lw_in (k := 3) hL (by omega) (by decide +kernel)
    have e4 : nI i + 4 = nI (i + 4) := by rw [n4, nI_add]
    have go : ∀ (g' : St_Log) (r' : St_Ref), Rel n g' r' → lawL xs L fu g' r' (nI i + 4) = some 1 := fun g' r' h' => by
      rw [e4]
      exact ih fu (i + 4) g' r' h' (by omega) (by omega) (by omega)
    rw [if_neg (lw_go hL (by omega)), if_neg a0]
    by_cases c0 : (xs (nI i).toNatClampNeg &&& 31) = 0
    · rw [if_pos c0]
      obtain ⟨a, g', r', b1, b2, h'⟩ := st_feed h ((jlshl (((xs ((nI i + 1)).toNatClampNeg)).toInt64) 32) ||| ((((xs ((nI i + 2)).toNatClampNeg)).toInt64) &&& 4294967295)) (xs ((nI i + 3)).toNatClampNeg)
      simp only [if_neg a1, if_neg a2, if_neg a3]
      rw [bs b1, bs b2]
      exact go g' r' h'
    rw [if_neg c0]
    by_cases c1 : (xs (nI i).toNatClampNeg &&& 31) = 1
    · rw [if_pos c1]
      obtain ⟨a, g', r', b1, b2, h'⟩ := st_wipe h 
      rw [bs b1, bs b2]
      exact go g' r' h'
    rw [if_neg c1]
    by_cases c2 : (xs (nI i).toNatClampNeg &&& 31) = 2
    · rw [if_pos c2]
      obtain ⟨a, g', r', b1, b2, h'⟩ := st_part h (xs ((nI i + 1)).toNatClampNeg) ((jlshl (((xs ((nI i + 2)).toNatClampNeg)).toInt64) 32) ||| ((((xs ((nI i + 3)).toNatClampNeg)).toInt64) &&& 4294967295))
      simp only [if_neg a1, if_neg a2, if_neg a3]
      rw [bs b1, bs b2]
      exact go g' r' h'
    rw [if_neg c2]
    by_cases c3 : (xs (nI i).toNatClampNeg &&& 31) = 3
    · rw [if_pos c3]
      obtain ⟨a, g', r', b1, b2, h'⟩ := st_mark h (xs ((nI i + 1)).toNatClampNeg)
      simp only [if_neg a1]
      rw [bs b1, bs b2]
      exact go g' r' h'
    rw [if_neg c3]
    by_cases c4 : (xs (nI i).toNatClampNeg &&& 31) = 4
    · rw [if_pos c4]
      obtain ⟨a, g', r', b1, b2, h'⟩ := st_keep h (xs ((nI i + 1)).toNatClampNeg)
      simp only [if_neg a1]
      rw [bs b1, bs b2]
      exact go g' r' h'
    rw [if_neg c4]
    by_cases c5 : (xs (nI i).toNatClampNeg &&& 31) = 5
    · rw [if_pos c5]
      obtain ⟨a, g', r', b1, b2, h'⟩ := st_give h (xs ((nI i + 1)).toNatClampNeg)
      simp only [if_neg a1]
      rw [bs b1, bs b2]
      exact go g' r' h'
    rw [if_neg c5]
    by_cases c6 : (xs (nI i).toNatClampNeg &&& 31) = 6
    · rw [if_pos c6]
      obtain ⟨a, g', r', b1, b2, h'⟩ := st_owner h (xs ((nI i + 1)).toNatClampNeg)
      simp only [if_neg a1]
      rw [bs b1, bs b2]
      exact go g' r' h'
    rw [if_neg c6]
    by_cases c7 : (xs (nI i).toNatClampNeg &&& 31) = 7
    · rw [if_pos c7]
      obtain ⟨a, g', r', b1, b2, h'⟩ := st_drop h (xs ((nI i + 1)).toNatClampNeg)
      simp only [if_neg a1]
      rw [bs b1, bs b2]
      exact go g' r' h'
    rw [if_neg c7]
    by_cases c8 : (xs (nI i).toNatClampNeg &&& 31) = 8
    · rw [if_pos c8]
      obtain ⟨a, g', r', b1, b2, h'⟩ := st_cut h (xs ((nI i + 1)).toNatClampNeg)
      simp only [if_neg a1]
      rw [bs b1, bs b2]
      exact go g' r' h'
    rw [if_neg c8]
    by_cases c9 : (xs (nI i).toNatClampNeg &&& 31) = 9
    · rw [if_pos c9]
      obtain ⟨a, g', r', b1, b2, h'⟩ := st_close h 
      rw [bs b1, bs b2]
      exact go g' r' h'
    rw [if_neg c9]
    by_cases c10 : (xs (nI i).toNatClampNeg &&& 31) = 10
    · rw [if_pos c10]
      obtain ⟨a, g', r', b1, b2, h'⟩ := st_open h 
      rw [bs b1, bs b2]
      exact go g' r' h'
    rw [if_neg c10]
    by_cases c11 : (xs (nI i).toNatClampNeg &&& 31) = 11
    · rw [if_pos c11]
      obtain ⟨a, b, b1, b2⟩ := st_usable h 
      rw [bs b1, bs b2]
      exact go g r h
    rw [if_neg c11]
    by_cases c12 : (xs (nI i).toNatClampNeg &&& 31) = 12
    · rw [if_pos c12]
      obtain ⟨a, b, b1, b2⟩ := st_whole h (xs ((nI i + 1)).toNatClampNeg)
      simp only [if_neg a1]
      rw [bs b1, bs b2]
      exact go g r h
    rw [if_neg c12]
    by_cases c13 : (xs (nI i).toNatClampNeg &&& 31) = 13
    · rw [if_pos c13]
      obtain ⟨a, b1, b2⟩ := st_marks h (xs ((nI i + 1)).toNatClampNeg)
      simp only [if_neg a1]
      rw [bs b1, bs b2]
      exact go g r h
    rw [if_neg c13]
    by_cases c14 : (xs (nI i).toNatClampNeg &&& 31) = 14
    · rw [if_pos c14]
      obtain ⟨a, b1, b2⟩ := st_markOf h (xs ((nI i + 1)).toNatClampNeg) (xs ((nI i + 2)).toNatClampNeg)
      simp only [if_neg a1, if_neg a2]
      rw [bs b1, bs b2]
      exact go g r h
    rw [if_neg c14]
    by_cases c15 : (xs (nI i).toNatClampNeg &&& 31) = 15
    · rw [if_pos c15]
      obtain ⟨a, b1, b2⟩ := st_partOf h (xs ((nI i + 1)).toNatClampNeg) (xs ((nI i + 2)).toNatClampNeg)
      simp only [if_neg a1, if_neg a2]
      rw [bs b1, bs b2]
      exact go g r h
    rw [if_neg c15]
    by_cases c16 : (xs (nI i).toNatClampNeg &&& 31) = 16
    · rw [if_pos c16]
      obtain ⟨a, b1, b2⟩ := st_partByte h (xs ((nI i + 1)).toNatClampNeg) (xs ((nI i + 2)).toNatClampNeg)
      simp only [if_neg a1, if_neg a2]
      rw [bs b1, bs b2]
      exact go g r h
    rw [if_neg c16]
    by_cases c17 : (xs (nI i).toNatClampNeg &&& 31) = 17
    · rw [if_pos c17]
      obtain ⟨a, b1, b2⟩ := st_named h (xs ((nI i + 1)).toNatClampNeg)
      simp only [if_neg a1]
      rw [bs b1, bs b2]
      exact go g r h
    rw [if_neg c17]
    by_cases c18 : (xs (nI i).toNatClampNeg &&& 31) = 18
    · rw [if_pos c18]
      obtain ⟨a, b1, b2⟩ := st_badAt h 
      rw [bs b1, bs b2]
      exact go g r h
    rw [if_neg c18]
    by_cases c19 : (xs (nI i).toNatClampNeg &&& 31) = 19
    · rw [if_pos c19]
      obtain ⟨a, g', r', b1, b2, h'⟩ := st_poke h (xs ((nI i + 1)).toNatClampNeg) (xs ((nI i + 2)).toNatClampNeg) (xs ((nI i + 3)).toNatClampNeg)
      simp only [if_neg a1, if_neg a2, if_neg a3]
      rw [bs b1, bs b2]
      exact go g' r' h'
    rw [if_neg c19]
    by_cases c20 : (xs (nI i).toNatClampNeg &&& 31) = 20
    · rw [if_pos c20]
      obtain ⟨a, b1, b2⟩ := st_byteAt h (xs ((nI i + 1)).toNatClampNeg) (xs ((nI i + 2)).toNatClampNeg)
      simp only [if_neg a1, if_neg a2]
      rw [bs b1, bs b2]
      exact go g r h
    rw [if_neg c20]
    by_cases c21 : (xs (nI i).toNatClampNeg &&& 31) = 21
    · rw [if_pos c21]
      obtain ⟨a, b, g', r', b1, b2, h'⟩ := st_out h (xs ((nI i + 1)).toNatClampNeg) (xs ((nI i + 2)).toNatClampNeg)
      simp only [if_neg a1, if_neg a2]
      rw [bs b1, bs b2]
      exact go g' r' h'
    rw [if_neg c21]
    by_cases c22 : (xs (nI i).toNatClampNeg &&& 31) = 22
    · rw [if_pos c22]
      obtain ⟨a, g', r', b1, b2, h'⟩ := st_in h 
      rw [bs b1, bs b2]
      exact go g' r' h'
    rw [if_neg c22]
    by_cases c23 : (xs (nI i).toNatClampNeg &&& 31) = 23
    · rw [if_pos c23]
      obtain ⟨a, b, g', b1, b2, h'⟩ := st_equal h (xs ((nI i + 1)).toNatClampNeg) (xs ((nI i + 2)).toNatClampNeg)
      simp only [if_neg a1, if_neg a2]
      rw [bs b1, bs b2]
      exact go g' r h'
    rw [if_neg c23]
    by_cases c24 : (xs (nI i).toNatClampNeg &&& 31) = 24
    · rw [if_pos c24]
      obtain ⟨a, r', b1, b2, h'⟩ := st_told h (xs ((nI i + 1)).toNatClampNeg)
      simp only [if_neg a1]
      rw [bs b1, bs b2, if_pos rfl]
      exact go g r' h'
    rw [if_neg c24]
    exact go g r h
theorem whole_start {p : Program} {e : Env} {s : State} {m : MethodId} {below : List Frame} {meth : Method} {c : Code} (l : Launch) {b L : Nat} {xs : Nat → Int32} (hL : L ≤ 2049) (C0 : lw_At p s m meth c b L xs) : W p l e room_1 s m #[Value.ref b] below meth c s.heap [] 0 0 (lw_Z below #[Value.ref b] s) (entryFrame m ([Value.ref b] : List Value).toArray 4) := by
  obtain ⟨n, h4, h5, e1, e2⟩ := i_both (if Int32.ofNat L ≤ 0 then 0 else xs 0)
  have h3 := lw_pure (n := n) (L := L) hL xs 600 601 1 (G0 n) (R0 n) (Rel_0 h4 h5) (by omega) (by omega) (by omega)
  exact law_start l C0 (G0 n) (R0 n) e1 e2 601 h3
