set_option maxHeartbeats 4000000 in
theorem c_cell (l : Launch) (b L sz : Nat) (xs : Nat → Int32) : Met l y_Law_cell (cws y_Law_cell b_Law_cell 2 (some .int)) (RM 0 0) (PreX b L xs [.ref b, .int 0] sz) (QRr (.int (if Int32.ofNat L ≤ 0 then 0 else xs 0)) (va_A [] sz)) 0 0 (va_A [] sz) := by
  refine Met.ofW (cc := b_Law_cell) (maxL := 2) (ret := some .int) (by decide) rfl ?_
  intro p e s m args below meth c s₁ B hml hv
  obtain ⟨rfl, hsz, hX, hbl⟩ := hv
  subst hsz
  have hx := B.exec
  have hb := B.bytes
  have hbA : ¬ va_A [] s.heap.size b := by
    rintro (⟨k, e, h⟩ | z)
    · simp at h
    · omega
  have hS : va_S (va_A [] s.heap.size) s.heap s.heap [] := va_S.rf
  rw [lg_entry_eq]
  have hl := lv_entry ([.ref b, .int 0]) (n := 2) (Nat.le_of_ble_eq_true rfl)
  generalize (lg_sl ([.ref b, .int 0]) ++ List.replicate (2 - (lg_sl ([.ref b, .int 0])).length) Slot.unset).toArray = ls at hl ⊢
  have hl : lv_has ls 2 [(0, .ref b), (1, .int 0)] := hl
  refine lv_iload_n hx hb d_cell_0 rfl (lv_at hl 1 rfl) ?_
  refine lv_aload_n hx hb d_cell_1 rfl (lv_at hl 0 rfl) ?_
  refine va_slen hx hb hX hbl hbA hS d_cell_2 ?_
  refine lv_icmp_ge (tgt := 12) hx hb d_cell_3 (by decide) (fun c1 => ?_) (fun c1 => ?_)
  · rw [if_pos c1]
    refine lv_iconst (v := 0) hx hb d_cell_12 (by decide) ?_
    exact W.iret hx hb B.returns (fun _ ht _ => And.intro rfl (hS.F ht)) hS.2.2 d_cell_13 B.notSynchronized
  · rw [if_neg c1]
    have hin : vp_in 0 L := by
      rintro (h | h)
      · exact absurd h (by decide)
      · have h0 : L = 0 := Nat.le_zero.mp (show L ≤ 0 from h)
        subst h0
        exact c1 (by decide)
    refine lv_aload_n hx hb d_cell_6 rfl (lv_at hl 0 rfl) ?_
    refine lv_iload_n hx hb d_cell_7 rfl (lv_at hl 1 rfl) ?_
    refine va_sld hx hb hX hbl hbA hS hin d_cell_8 ?_
    refine lv_goto (tgt := 13) hx hb d_cell_9 (by decide) ?_
    exact W.iret hx hb B.returns (fun _ ht _ => And.intro rfl (hS.F ht)) hS.2.2 d_cell_13 B.notSynchronized
noncomputable def lawL (xs : Nat → Int32) (L : Nat) : Nat → St_Log → St_Ref → Int32 → Option Int32
  | 0, _, _, _ => none
  | n + 1, g, r, v3 => if ((Int32.ofNat L) - 4) < v3 then
    (some 1)
    else
    (if v3 < 0 ∨ L ≤ (v3).toNatClampNeg then none else if ((xs (v3).toNatClampNeg) &&& 31) = 0 then
      (if (v3 + 1) < 0 ∨ L ≤ ((v3 + 1)).toNatClampNeg then none else if (v3 + 2) < 0 ∨ L ≤ ((v3 + 2)).toNatClampNeg then none else if (v3 + 3) < 0 ∨ L ≤ ((v3 + 3)).toNatClampNeg then none else (m_Log_feed g ((jlshl (((xs ((v3 + 1)).toNatClampNeg)).toInt64) 32) ||| ((((xs ((v3 + 2)).toNatClampNeg)).toInt64) &&& 4294967295)) (xs ((v3 + 3)).toNatClampNeg)).bind fun q7 => if (v3 + 1) < 0 ∨ L ≤ ((v3 + 1)).toNatClampNeg then none else if (v3 + 2) < 0 ∨ L ≤ ((v3 + 2)).toNatClampNeg then none else if (v3 + 3) < 0 ∨ L ≤ ((v3 + 3)).toNatClampNeg then none else (m_RRef_feed r ((jlshl (((xs ((v3 + 1)).toNatClampNeg)).toInt64) 32) ||| ((((xs ((v3 + 2)).toNatClampNeg)).toInt64) &&& 4294967295)) (xs ((v3 + 3)).toNatClampNeg)).bind fun q11 => if q7.1 = q11.1 then
        (lawL xs L n q7.2 q11.2 (v3 + 4))
        else
        (some 0))
      else if ((xs (v3).toNatClampNeg) &&& 31) = 1 then
      ((m_Log_wipe g).bind fun q14 => (m_RRef_wipe r).bind fun q15 => if q14.1 = q15.1 then
        (lawL xs L n q14.2 q15.2 (v3 + 4))
        else
        (some 0))
      else if ((xs (v3).toNatClampNeg) &&& 31) = 2 then
      (if (v3 + 1) < 0 ∨ L ≤ ((v3 + 1)).toNatClampNeg then none else if (v3 + 2) < 0 ∨ L ≤ ((v3 + 2)).toNatClampNeg then none else if (v3 + 3) < 0 ∨ L ≤ ((v3 + 3)).toNatClampNeg then none else (m_Log_part g (xs ((v3 + 1)).toNatClampNeg) ((jlshl (((xs ((v3 + 2)).toNatClampNeg)).toInt64) 32) ||| ((((xs ((v3 + 3)).toNatClampNeg)).toInt64) &&& 4294967295))).bind fun q21 => if (v3 + 1) < 0 ∨ L ≤ ((v3 + 1)).toNatClampNeg then none else if (v3 + 2) < 0 ∨ L ≤ ((v3 + 2)).toNatClampNeg then none else if (v3 + 3) < 0 ∨ L ≤ ((v3 + 3)).toNatClampNeg then none else (m_RRef_part r (xs ((v3 + 1)).toNatClampNeg) ((jlshl (((xs ((v3 + 2)).toNatClampNeg)).toInt64) 32) ||| ((((xs ((v3 + 3)).toNatClampNeg)).toInt64) &&& 4294967295))).bind fun q25 => if q21.1 = q25.1 then
        (lawL xs L n q21.2 q25.2 (v3 + 4))
        else
        (some 0))
      else if ((xs (v3).toNatClampNeg) &&& 31) = 3 then
      (if (v3 + 1) < 0 ∨ L ≤ ((v3 + 1)).toNatClampNeg then none else (m_Log_mark g (xs ((v3 + 1)).toNatClampNeg)).bind fun q29 => if (v3 + 1) < 0 ∨ L ≤ ((v3 + 1)).toNatClampNeg then none else (m_RRef_mark r (xs ((v3 + 1)).toNatClampNeg)).bind fun q31 => if q29.1 = q31.1 then
        (lawL xs L n q29.2 q31.2 (v3 + 4))
        else
        (some 0))
      else if ((xs (v3).toNatClampNeg) &&& 31) = 4 then
      (if (v3 + 1) < 0 ∨ L ≤ ((v3 + 1)).toNatClampNeg then none else (m_Log_keep g (xs ((v3 + 1)).toNatClampNeg)).bind fun q35 => if (v3 + 1) < 0 ∨ L ≤ ((v3 + 1)).toNatClampNeg then none else (m_RRef_keep r (xs ((v3 + 1)).toNatClampNeg)).bind fun q37 => if q35.1 = q37.1 then
        (lawL xs L n q35.2 q37.2 (v3 + 4))
        else
        (some 0))
      else if ((xs (v3).toNatClampNeg) &&& 31) = 5 then
      (if (v3 + 1) < 0 ∨ L ≤ ((v3 + 1)).toNatClampNeg then none else (m_Log_give g (xs ((v3 + 1)).toNatClampNeg)).bind fun q41 => if (v3 + 1) < 0 ∨ L ≤ ((v3 + 1)).toNatClampNeg then none else (m_RRef_give r (xs ((v3 + 1)).toNatClampNeg)).bind fun q43 => if q41.1 = q43.1 then
        (lawL xs L n q41.2 q43.2 (v3 + 4))
        else
        (some 0))
      else if ((xs (v3).toNatClampNeg) &&& 31) = 6 then
      (if (v3 + 1) < 0 ∨ L ≤ ((v3 + 1)).toNatClampNeg then none else (m_Log_owner g (xs ((v3 + 1)).toNatClampNeg)).bind fun q47 => if (v3 + 1) < 0 ∨ L ≤ ((v3 + 1)).toNatClampNeg then none else (m_RRef_owner r (xs ((v3 + 1)).toNatClampNeg)).bind fun q49 => if q47.1 = q49.1 then
        (lawL xs L n q47.2 q49.2 (v3 + 4))
        else
        (some 0))
      else if ((xs (v3).toNatClampNeg) &&& 31) = 7 then
      (if (v3 + 1) < 0 ∨ L ≤ ((v3 + 1)).toNatClampNeg then none else (m_Log_drop g (xs ((v3 + 1)).toNatClampNeg)).bind fun q53 => if (v3 + 1) < 0 ∨ L ≤ ((v3 + 1)).toNatClampNeg then none else (m_RRef_drop r (xs ((v3 + 1)).toNatClampNeg)).bind fun q55 => if q53.1 = q55.1 then
        (lawL xs L n q53.2 q55.2 (v3 + 4))
        else
        (some 0))
      else if ((xs (v3).toNatClampNeg) &&& 31) = 8 then
      (if (v3 + 1) < 0 ∨ L ≤ ((v3 + 1)).toNatClampNeg then none else (m_Log_cut g (xs ((v3 + 1)).toNatClampNeg)).bind fun q59 => if (v3 + 1) < 0 ∨ L ≤ ((v3 + 1)).toNatClampNeg then none else (m_RRef_cut r (xs ((v3 + 1)).toNatClampNeg)).bind fun q61 => if q59.1 = q61.1 then
        (lawL xs L n q59.2 q61.2 (v3 + 4))
        else
        (some 0))
      else if ((xs (v3).toNatClampNeg) &&& 31) = 9 then
      ((m_Log_close g).bind fun q64 => (m_RRef_close r).bind fun q65 => if q64.1 = q65.1 then
        (lawL xs L n q64.2 q65.2 (v3 + 4))
        else
        (some 0))
      else if ((xs (v3).toNatClampNeg) &&& 31) = 10 then
      ((m_Log_open_ g).bind fun q68 => (m_RRef_open_ r).bind fun q69 => if q68.1 = q69.1 then
        (lawL xs L n q68.2 q69.2 (v3 + 4))
        else
        (some 0))
      else if ((xs (v3).toNatClampNeg) &&& 31) = 11 then
      ((m_Log_usable g).bind fun q72 => (m_RRef_usable r).bind fun q73 => if q72 = q73 then
        (lawL xs L n g r (v3 + 4))
        else
        (some 0))
      else if ((xs (v3).toNatClampNeg) &&& 31) = 12 then
      (if (v3 + 1) < 0 ∨ L ≤ ((v3 + 1)).toNatClampNeg then none else (m_Log_whole g (xs ((v3 + 1)).toNatClampNeg)).bind fun q77 => if (v3 + 1) < 0 ∨ L ≤ ((v3 + 1)).toNatClampNeg then none else (m_RRef_whole r (xs ((v3 + 1)).toNatClampNeg)).bind fun q79 => if q77 = q79 then
        (lawL xs L n g r (v3 + 4))
        else
        (some 0))
      else if ((xs (v3).toNatClampNeg) &&& 31) = 13 then
      (if (v3 + 1) < 0 ∨ L ≤ ((v3 + 1)).toNatClampNeg then none else (m_Log_marks g (xs ((v3 + 1)).toNatClampNeg)).bind fun q83 => if (v3 + 1) < 0 ∨ L ≤ ((v3 + 1)).toNatClampNeg then none else (m_RRef_marks r (xs ((v3 + 1)).toNatClampNeg)).bind fun q85 => if q83 = q85 then
        (lawL xs L n g r (v3 + 4))
        else
        (some 0))
      else if ((xs (v3).toNatClampNeg) &&& 31) = 14 then
      (if (v3 + 1) < 0 ∨ L ≤ ((v3 + 1)).toNatClampNeg then none else if (v3 + 2) < 0 ∨ L ≤ ((v3 + 2)).toNatClampNeg then none else (m_Log_markOf g (xs ((v3 + 1)).toNatClampNeg) (xs ((v3 + 2)).toNatClampNeg)).bind fun q90 => if (v3 + 1) < 0 ∨ L ≤ ((v3 + 1)).toNatClampNeg then none else if (v3 + 2) < 0 ∨ L ≤ ((v3 + 2)).toNatClampNeg then none else (m_RRef_markOf r (xs ((v3 + 1)).toNatClampNeg) (xs ((v3 + 2)).toNatClampNeg)).bind fun q93 => if q90 = q93 then
        (lawL xs L n g r (v3 + 4))
        else
        (some 0))
      else if ((xs (v3).toNatClampNeg) &&& 31) = 15 then
      (if (v3 + 1) < 0 ∨ L ≤ ((v3 + 1)).toNatClampNeg then none else if (v3 + 2) < 0 ∨ L ≤ ((v3 + 2)).toNatClampNeg then none else (m_Log_partOf g (xs ((v3 + 1)).toNatClampNeg) (xs ((v3 + 2)).toNatClampNeg)).bind fun q98 => if (v3 + 1) < 0 ∨ L ≤ ((v3 + 1)).toNatClampNeg then none else if (v3 + 2) < 0 ∨ L ≤ ((v3 + 2)).toNatClampNeg then none else (m_RRef_partOf r (xs ((v3 + 1)).toNatClampNeg) (xs ((v3 + 2)).toNatClampNeg)).bind fun q101 => if (lg_cmp q98 q101) = 0 then
        (lawL xs L n g r (v3 + 4))
        else
        (some 0))
      else if ((xs (v3).toNatClampNeg) &&& 31) = 16 then
      (if (v3 + 1) < 0 ∨ L ≤ ((v3 + 1)).toNatClampNeg then none else if (v3 + 2) < 0 ∨ L ≤ ((v3 + 2)).toNatClampNeg then none else (m_Log_partByte g (xs ((v3 + 1)).toNatClampNeg) (xs ((v3 + 2)).toNatClampNeg)).bind fun q106 => if (v3 + 1) < 0 ∨ L ≤ ((v3 + 1)).toNatClampNeg then none else if (v3 + 2) < 0 ∨ L ≤ ((v3 + 2)).toNatClampNeg then none else (m_RRef_partByte r (xs ((v3 + 1)).toNatClampNeg) (xs ((v3 + 2)).toNatClampNeg)).bind fun q109 => if q106 = q109 then
        (lawL xs L n g r (v3 + 4))
        else
        (some 0))
      else if ((xs (v3).toNatClampNeg) &&& 31) = 17 then
      (if (v3 + 1) < 0 ∨ L ≤ ((v3 + 1)).toNatClampNeg then none else (m_Log_named g (xs ((v3 + 1)).toNatClampNeg)).bind fun q113 => if (v3 + 1) < 0 ∨ L ≤ ((v3 + 1)).toNatClampNeg then none else (m_RRef_named r (xs ((v3 + 1)).toNatClampNeg)).bind fun q115 => if q113 = q115 then
        (lawL xs L n g r (v3 + 4))
        else
        (some 0))
      else if ((xs (v3).toNatClampNeg) &&& 31) = 18 then
      ((m_Log_badAt g).bind fun q118 => (m_RRef_badAt r).bind fun q119 => if q118 = q119 then
        (lawL xs L n g r (v3 + 4))
        else
        (some 0))
      else if ((xs (v3).toNatClampNeg) &&& 31) = 19 then
      (if (v3 + 1) < 0 ∨ L ≤ ((v3 + 1)).toNatClampNeg then none else if (v3 + 2) < 0 ∨ L ≤ ((v3 + 2)).toNatClampNeg then none else if (v3 + 3) < 0 ∨ L ≤ ((v3 + 3)).toNatClampNeg then none else (m_Log_poke g (xs ((v3 + 1)).toNatClampNeg) (xs ((v3 + 2)).toNatClampNeg) (xs ((v3 + 3)).toNatClampNeg)).bind fun q125 => if (v3 + 1) < 0 ∨ L ≤ ((v3 + 1)).toNatClampNeg then none else if (v3 + 2) < 0 ∨ L ≤ ((v3 + 2)).toNatClampNeg then none else if (v3 + 3) < 0 ∨ L ≤ ((v3 + 3)).toNatClampNeg then none else (m_RRef_poke r (xs ((v3 + 1)).toNatClampNeg) (xs ((v3 + 2)).toNatClampNeg) (xs ((v3 + 3)).toNatClampNeg)).bind fun q129 => if q125.1 = q129.1 then
        (lawL xs L n q125.2 q129.2 (v3 + 4))
        else
        (some 0))
      else if ((xs (v3).toNatClampNeg) &&& 31) = 20 then
      (if (v3 + 1) < 0 ∨ L ≤ ((v3 + 1)).toNatClampNeg then none else if (v3 + 2) < 0 ∨ L ≤ ((v3 + 2)).toNatClampNeg then none else (m_Log_byteAt g (xs ((v3 + 1)).toNatClampNeg) (xs ((v3 + 2)).toNatClampNeg)).bind fun q134 => if (v3 + 1) < 0 ∨ L ≤ ((v3 + 1)).toNatClampNeg then none else if (v3 + 2) < 0 ∨ L ≤ ((v3 + 2)).toNatClampNeg then none else (m_RRef_byteAt r (xs ((v3 + 1)).toNatClampNeg) (xs ((v3 + 2)).toNatClampNeg)).bind fun q137 => if q134 = q137 then
        (lawL xs L n g r (v3 + 4))
        else
        (some 0))
      else if ((xs (v3).toNatClampNeg) &&& 31) = 21 then
      (if (v3 + 1) < 0 ∨ L ≤ ((v3 + 1)).toNatClampNeg then none else if (v3 + 2) < 0 ∨ L ≤ ((v3 + 2)).toNatClampNeg then none else (m_Log_out g (xs ((v3 + 1)).toNatClampNeg) (xs ((v3 + 2)).toNatClampNeg)).bind fun q142 => if (v3 + 1) < 0 ∨ L ≤ ((v3 + 1)).toNatClampNeg then none else if (v3 + 2) < 0 ∨ L ≤ ((v3 + 2)).toNatClampNeg then none else (m_RRef_out r (xs ((v3 + 1)).toNatClampNeg) (xs ((v3 + 2)).toNatClampNeg)).bind fun q145 => if q142.1 = q145.1 then
        (lawL xs L n q142.2 q145.2 (v3 + 4))
        else
        (some 0))
      else if ((xs (v3).toNatClampNeg) &&& 31) = 22 then
      ((m_Log_in_ g).bind fun q148 => (m_RRef_in_ r).bind fun q149 => if q148.1 = q149.1 then
        (lawL xs L n q148.2 q149.2 (v3 + 4))
        else
        (some 0))
      else if ((xs (v3).toNatClampNeg) &&& 31) = 23 then
      (if (v3 + 1) < 0 ∨ L ≤ ((v3 + 1)).toNatClampNeg then none else if (v3 + 2) < 0 ∨ L ≤ ((v3 + 2)).toNatClampNeg then none else (m_Log_equal g (xs ((v3 + 1)).toNatClampNeg) (xs ((v3 + 2)).toNatClampNeg)).bind fun q154 => if (v3 + 1) < 0 ∨ L ≤ ((v3 + 1)).toNatClampNeg then none else if (v3 + 2) < 0 ∨ L ≤ ((v3 + 2)).toNatClampNeg then none else (m_RRef_equal r (xs ((v3 + 1)).toNatClampNeg) (xs ((v3 + 2)).toNatClampNeg)).bind fun q157 => if q154.1 = q157 then
        (lawL xs L n q154.2 r (v3 + 4))
        else
        (some 0))
      else if ((xs (v3).toNatClampNeg) &&& 31) = 24 then
      (if (v3 + 1) < 0 ∨ L ≤ ((v3 + 1)).toNatClampNeg then none else (m_Log_told g (xs ((v3 + 1)).toNatClampNeg)).bind fun q161 => if (v3 + 1) < 0 ∨ L ≤ ((v3 + 1)).toNatClampNeg then none else (m_RRef_told r (xs ((v3 + 1)).toNatClampNeg)).bind fun q163 => if q161 = q163.1 then
        (lawL xs L n g q163.2 (v3 + 4))
        else
        (some 0))
      else lawL xs L n g r (v3 + 4))
set_option maxHeartbeats 8000000 in
set_option maxRecDepth 100000 in
theorem k_law {p : Program} {l : Launch} {e : Env} {s : State} {m : MethodId} {below : List Frame} {meth : Method} {c : Code} {D : va_G} {ca : Nat → ClassId} {ad bd : Nat → Nat} {b L : Nat} {xs : Nat → Int32} (X : Cx p s m #[Value.ref b] meth c R_law code 4 ret D ca) (hX : va_X b L xs s s.heap) (hbl : b < s.heap.size) : ∀ (n : Nat) (g : St_Log) (r : St_Ref) (v3 : Int32), lawL xs L n g r v3 = some 1 → ∀ (H : Heap) (locs : List Loc), va_P D classes (wl_Log ca ad g ++ wl_Ref ca bd r) H → va_D (fun q : Nat => s.heap.size ≤ q) (wl_Log ca ad g ++ wl_Ref ca bd r) → va_S (fun q : Nat => s.heap.size ≤ q) s.heap H locs → ∀ ls : Array Slot, lv_has ls 4 [(0, .ref b), (1, .ref (ad 0)), (2, .ref (bd 0)), (3, .int v3)] → W p l e room_1 s m #[Value.ref b] below meth c H locs 54 71018 (lw_Z below #[Value.ref b] s) (F0 m 28 ls []) := by
  obtain ⟨hx, hb, hml, hr, hown, hts, hK, hlocks, -⟩ := id X
  have hA : ∀ q : Nat, s.heap.size ≤ q → (fun q : Nat => s.heap.size ≤ q) q := fun _ h => h
  have hbA : ¬ (fun q : Nat => s.heap.size ≤ q) b := Nat.not_le.mpr hbl
  intro n
  induction n with
  | zero =>
    intro g r v3 hm
    rw [lawL] at hm
    cases hm
  | succ n ih =>
    intro g r v3 hm H locs hP hD hS ls hl
    rw [lawL] at hm
    refine lv_iload_n hx hb d_law_28 rfl (lv_at hl 3 rfl) ?_
    refine lv_aload_n hx hb d_law_29 rfl (lv_at hl 0 rfl) ?_
    refine va_slen hx hb hX hbl hbA hS d_law_30 ?_
    refine lv_iconst (v := 4) hx hb d_law_31 (by decide) ?_
    refine lv_isub hx hb d_law_32 ?_
    refine lv_icmp_gt (tgt := 838) hx hb d_law_33 (by decide) (fun c1 => ?_) (fun c1 => ?_)
    · replace hm := ip c1 hm
      refine lv_iconst (v := 1) hx hb d_law_838 (by decide) ?_
      refine va_forget (fun q hq => hS.2.2 q hq) ?_
      refine W.widen (k := 600000) (n := 7302250) (Nat.le_of_ble_eq_true rfl) (Nat.le_of_ble_eq_true rfl) ?_
      exact lw_ret hx hb hr hlocks d_law_839
    · replace hm := ineg c1 hm
      refine lv_aload_n hx hb d_law_36 rfl (lv_at hl 0 rfl) ?_
      refine lv_iload_n hx hb d_law_37 rfl (lv_at hl 3 rfl) ?_
      obtain ⟨b2, hm⟩ := on hm
      refine va_sld hx hb hX hbl hbA hS b2 d_law_38 ?_
      refine lv_bipush (v := 31) hx hb d_law_39 (by decide) ?_
      refine lv_iand hx hb d_law_41 ?_
      by_cases c3 : ((xs (v3).toNatClampNeg) &&& 31) = 0
      · replace hm := ip c3 hm
        refine lv_tableIn (off := 114) (tgt := 156) hx hb d_law_42 (by rw [c3]; decide) (by rw [c3]; decide) (by rw [c3]; rfl) (by decide) ?_
        refine lv_aload_n hx hb d_law_156 rfl (lv_at hl 1 rfl) ?_
        refine lv_aload_n hx hb d_law_157 rfl (lv_at hl 0 rfl) ?_
        refine lv_iload_n hx hb d_law_158 rfl (lv_at hl 3 rfl) ?_
        refine lv_iconst (v := 1) hx hb d_law_159 (by decide) ?_
        refine lv_iadd hx hb d_law_160 ?_
        obtain ⟨b4, hm⟩ := on hm
        refine va_sld hx hb hX hbl hbA hS b4 d_law_161 ?_
        refine lv_i2l (v := (((xs ((v3 + 1)).toNatClampNeg)).toInt64)) hx hb d_law_162 rfl ?_
        refine lv_bipush (v := 32) hx hb d_law_163 (by decide) ?_
        refine lv_lshl (v := (jlshl (((xs ((v3 + 1)).toNatClampNeg)).toInt64) 32)) hx hb d_law_165 rfl ?_
        refine lv_aload_n hx hb d_law_166 rfl (lv_at hl 0 rfl) ?_
        refine lv_iload_n hx hb d_law_167 rfl (lv_at hl 3 rfl) ?_
        refine lv_iconst (v := 2) hx hb d_law_168 (by decide) ?_
        refine lv_iadd hx hb d_law_169 ?_
        obtain ⟨b5, hm⟩ := on hm
        refine va_sld hx hb hX hbl hbA hS b5 d_law_170 ?_
        refine lv_i2l (v := (((xs ((v3 + 2)).toNatClampNeg)).toInt64)) hx hb d_law_171 rfl ?_
        refine lv_ldc2 hx hb hown (hts _ wc_law_21) d_law_172 ?_
        refine lv_land hx hb d_law_175 ?_
        refine lv_lor hx hb d_law_176 ?_
        refine lv_aload_n hx hb d_law_177 rfl (lv_at hl 0 rfl) ?_
        refine lv_iload_n hx hb d_law_178 rfl (lv_at hl 3 rfl) ?_
        refine lv_iconst (v := 3) hx hb d_law_179 (by decide) ?_
        refine lv_iadd hx hb d_law_180 ?_
        obtain ⟨b6, hm⟩ := on hm
        refine va_sld hx hb hX hbl hbA hS b6 d_law_181 ?_
        obtain ⟨q7, hq7, hm⟩ := ob hm
        refine inv_mVg (C := R_Log) (As := [.long ((jlshl (((xs ((v3 + 1)).toNatClampNeg)).toInt64) 32) ||| ((((xs ((v3 + 2)).toNatClampNeg)).toInt64) &&& 4294967295)), .int (xs ((v3 + 3)).toNatClampNeg)]) (rest := []) (v := .int q7.1) (ws' := wl_Log ca ad q7.2 ++ wl_Ref ca bd r) X (c_Log_feed l D ca ad _ g ((jlshl (((xs ((v3 + 1)).toNatClampNeg)).toInt64) 32) ||| ((((xs ((v3 + 2)).toNatClampNeg)).toInt64) &&& 4294967295)) (xs ((v3 + 3)).toNatClampNeg) q7 hq7) g_law_23 yo_Log_feed ⟨Nat.le_of_ble_eq_true rfl, Nat.le_of_ble_eq_true rfl⟩ hl (va_Pl hP) (va_Dl hD) (jn_L hP hD rfl) (ci := 5) rfl rfl hS hA rfl rfl (Nat.le_of_ble_eq_true rfl) ⟨Nat.le_of_ble_eq_true rfl, Nat.le_of_ble_eq_true rfl⟩ d_law_182 (fun H locs hP hD hS => ?_)
        refine lv_aload_n hx hb d_law_185 rfl (lv_at hl 2 rfl) ?_
        refine lv_aload_n hx hb d_law_186 rfl (lv_at hl 0 rfl) ?_
        refine lv_iload_n hx hb d_law_187 rfl (lv_at hl 3 rfl) ?_
        refine lv_iconst (v := 1) hx hb d_law_188 (by decide) ?_
        refine lv_iadd hx hb d_law_189 ?_
        obtain ⟨b8, hm⟩ := on hm
        refine va_sld hx hb hX hbl hbA hS b8 d_law_190 ?_
        refine lv_i2l (v := (((xs ((v3 + 1)).toNatClampNeg)).toInt64)) hx hb d_law_191 rfl ?_
        refine lv_bipush (v := 32) hx hb d_law_192 (by decide) ?_
        refine lv_lshl (v := (jlshl (((xs ((v3 + 1)).toNatClampNeg)).toInt64) 32)) hx hb d_law_194 rfl ?_
        refine lv_aload_n hx hb d_law_195 rfl (lv_at hl 0 rfl) ?_
        refine lv_iload_n hx hb d_law_196 rfl (lv_at hl 3 rfl) ?_
        refine lv_iconst (v := 2) hx hb d_law_197 (by decide) ?_
        refine lv_iadd hx hb d_law_198 ?_
        obtain ⟨b9, hm⟩ := on hm
        refine va_sld hx hb hX hbl hbA hS b9 d_law_199 ?_
        refine lv_i2l (v := (((xs ((v3 + 2)).toNatClampNeg)).toInt64)) hx hb d_law_200 rfl ?_
        refine lv_ldc2 hx hb hown (hts _ wc_law_21) d_law_201 ?_
        refine lv_land hx hb d_law_204 ?_
        refine lv_lor hx hb d_law_205 ?_
        refine lv_aload_n hx hb d_law_206 rfl (lv_at hl 0 rfl) ?_
        refine lv_iload_n hx hb d_law_207 rfl (lv_at hl 3 rfl) ?_
        refine lv_iconst (v := 3) hx hb d_law_208 (by decide) ?_
        refine lv_iadd hx hb d_law_209 ?_
        obtain ⟨b10, hm⟩ := on hm
        refine va_sld hx hb hX hbl hbA hS b10 d_law_210 ?_
        obtain ⟨q11, hq11, hm⟩ := ob hm
        refine inv_mVg (C := R_RRef) (As := [.long ((jlshl (((xs ((v3 + 1)).toNatClampNeg)).toInt64) 32) ||| ((((xs ((v3 + 2)).toNatClampNeg)).toInt64) &&& 4294967295)), .int (xs ((v3 + 3)).toNatClampNeg)]) (rest := [.int q7.1]) (v := .int q11.1) (ws' := wl_Log ca ad q7.2 ++ wl_Ref ca bd q11.2) X (c_RRef_feed l D ca bd _ r ((jlshl (((xs ((v3 + 1)).toNatClampNeg)).toInt64) 32) ||| ((((xs ((v3 + 2)).toNatClampNeg)).toInt64) &&& 4294967295)) (xs ((v3 + 3)).toNatClampNeg) q11 hq11) g_law_27 yo_RRef_feed ⟨Nat.le_of_ble_eq_true rfl, Nat.le_of_ble_eq_true rfl⟩ hl (va_Pr hP) (va_Dr hD) (jn_R hP hD rfl) (ci := 6) rfl rfl hS hA rfl rfl (Nat.le_of_ble_eq_true rfl) ⟨Nat.le_of_ble_eq_true rfl, Nat.le_of_ble_eq_true rfl⟩ d_law_211 (fun H locs hP hD hS => ?_)
        refine lv_icmp_eq (tgt := 832) hx hb d_law_214 (by decide) (fun c12 => ?_) (fun c12 => ?_)
        · replace hm := ip c12 hm
          refine lv_iinc (v := (v3 + 4)) (lv' := [(3, .int (v3 + 4)), (0, .ref b), (1, .ref (ad 0)), (2, .ref (bd 0))]) hx hb d_law_832 hl (k := 3) rfl rfl (by decide) rfl (fun ls hl => ?_)
          have hl := lv_sub hl [1, 2, 3, 0] rfl
          replace hl : lv_has ls 4 [(0, .ref b), (1, .ref (ad 0)), (2, .ref (bd 0)), (3, .int (v3 + 4))] := hl
          refine lv_goto (tgt := 28) hx hb d_law_835 (by decide) ?_
          exact ih q7.2 q11.2 (v3 + 4) hm _ _ hP hD hS ls hl
        · replace hm := ineg c12 hm
          refine lv_iconst (v := 0) hx hb d_law_217 (by decide) ?_
          exact absurd hm (by decide)
      replace hm := ineg c3 hm
      by_cases c13 : ((xs (v3).toNatClampNeg) &&& 31) = 1
      · replace hm := ip c13 hm
        refine lv_tableIn (off := 177) (tgt := 219) hx hb d_law_42 (by rw [c13]; decide) (by rw [c13]; decide) (by rw [c13]; rfl) (by decide) ?_
        refine lv_aload_n hx hb d_law_219 rfl (lv_at hl 1 rfl) ?_
        obtain ⟨q14, hq14, hm⟩ := ob hm
        refine inv_mVg (C := R_Log) (As := []) (rest := []) (v := .int q14.1) (ws' := wl_Log ca ad q14.2 ++ wl_Ref ca bd r) X (c_Log_wipe l D ca ad _ g q14 hq14) g_law_28 yo_Log_wipe ⟨Nat.le_of_ble_eq_true rfl, Nat.le_of_ble_eq_true rfl⟩ hl (va_Pl hP) (va_Dl hD) (jn_L hP hD rfl) (ci := 5) rfl rfl hS hA rfl rfl (Nat.le_of_ble_eq_true rfl) ⟨Nat.le_of_ble_eq_true rfl, Nat.le_of_ble_eq_true rfl⟩ d_law_220 (fun H locs hP hD hS => ?_)
        refine lv_aload_n hx hb d_law_223 rfl (lv_at hl 2 rfl) ?_
        obtain ⟨q15, hq15, hm⟩ := ob hm
        refine inv_mVg (C := R_RRef) (As := []) (rest := [.int q14.1]) (v := .int q15.1) (ws' := wl_Log ca ad q14.2 ++ wl_Ref ca bd q15.2) X (c_RRef_wipe l D ca bd _ r q15 hq15) g_law_32 yo_RRef_wipe ⟨Nat.le_of_ble_eq_true rfl, Nat.le_of_ble_eq_true rfl⟩ hl (va_Pr hP) (va_Dr hD) (jn_R hP hD rfl) (ci := 6) rfl rfl hS hA rfl rfl (Nat.le_of_ble_eq_true rfl) ⟨Nat.le_of_ble_eq_true rfl, Nat.le_of_ble_eq_true rfl⟩ d_law_224 (fun H locs hP hD hS => ?_)
        refine lv_icmp_eq (tgt := 832) hx hb d_law_227 (by decide) (fun c16 => ?_) (fun c16 => ?_)
        · replace hm := ip c16 hm
          refine lv_iinc (v := (v3 + 4)) (lv' := [(3, .int (v3 + 4)), (0, .ref b), (1, .ref (ad 0)), (2, .ref (bd 0))]) hx hb d_law_832 hl (k := 3) rfl rfl (by decide) rfl (fun ls hl => ?_)
          have hl := lv_sub hl [1, 2, 3, 0] rfl
          replace hl : lv_has ls 4 [(0, .ref b), (1, .ref (ad 0)), (2, .ref (bd 0)), (3, .int (v3 + 4))] := hl
          refine lv_goto (tgt := 28) hx hb d_law_835 (by decide) ?_
          exact ih q14.2 q15.2 (v3 + 4) hm _ _ hP hD hS ls hl
        · replace hm := ineg c16 hm
          refine lv_iconst (v := 0) hx hb d_law_230 (by decide) ?_
          exact absurd hm (by decide)
      replace hm := ineg c13 hm
      by_cases c17 : ((xs (v3).toNatClampNeg) &&& 31) = 2
      · replace hm := ip c17 hm
        refine lv_tableIn (off := 190) (tgt := 232) hx hb d_law_42 (by rw [c17]; decide) (by rw [c17]; decide) (by rw [c17]; rfl) (by decide) ?_
        refine lv_aload_n hx hb d_law_232 rfl (lv_at hl 1 rfl) ?_
        refine lv_aload_n hx hb d_law_233 rfl (lv_at hl 0 rfl) ?_
        refine lv_iload_n hx hb d_law_234 rfl (lv_at hl 3 rfl) ?_
        refine lv_iconst (v := 1) hx hb d_law_235 (by decide) ?_
        refine lv_iadd hx hb d_law_236 ?_
        obtain ⟨b18, hm⟩ := on hm
        refine va_sld hx hb hX hbl hbA hS b18 d_law_237 ?_
        refine lv_aload_n hx hb d_law_238 rfl (lv_at hl 0 rfl) ?_
        refine lv_iload_n hx hb d_law_239 rfl (lv_at hl 3 rfl) ?_
        refine lv_iconst (v := 2) hx hb d_law_240 (by decide) ?_
        refine lv_iadd hx hb d_law_241 ?_
        obtain ⟨b19, hm⟩ := on hm
        refine va_sld hx hb hX hbl hbA hS b19 d_law_242 ?_
        refine lv_i2l (v := (((xs ((v3 + 2)).toNatClampNeg)).toInt64)) hx hb d_law_243 rfl ?_
        refine lv_bipush (v := 32) hx hb d_law_244 (by decide) ?_
        refine lv_lshl (v := (jlshl (((xs ((v3 + 2)).toNatClampNeg)).toInt64) 32)) hx hb d_law_246 rfl ?_
        refine lv_aload_n hx hb d_law_247 rfl (lv_at hl 0 rfl) ?_
        refine lv_iload_n hx hb d_law_248 rfl (lv_at hl 3 rfl) ?_
        refine lv_iconst (v := 3) hx hb d_law_249 (by decide) ?_
        refine lv_iadd hx hb d_law_250 ?_
        obtain ⟨b20, hm⟩ := on hm
        refine va_sld hx hb hX hbl hbA hS b20 d_law_251 ?_
        refine lv_i2l (v := (((xs ((v3 + 3)).toNatClampNeg)).toInt64)) hx hb d_law_252 rfl ?_
        refine lv_ldc2 hx hb hown (hts _ wc_law_21) d_law_253 ?_
        refine lv_land hx hb d_law_256 ?_
        refine lv_lor hx hb d_law_257 ?_
        obtain ⟨q21, hq21, hm⟩ := ob hm
        refine inv_mVg (C := R_Log) (As := [.int (xs ((v3 + 1)).toNatClampNeg), .long ((jlshl (((xs ((v3 + 2)).toNatClampNeg)).toInt64) 32) ||| ((((xs ((v3 + 3)).toNatClampNeg)).toInt64) &&& 4294967295))]) (rest := []) (v := .int q21.1) (ws' := wl_Log ca ad q21.2 ++ wl_Ref ca bd r) X (c_Log_part l D ca ad _ g (xs ((v3 + 1)).toNatClampNeg) ((jlshl (((xs ((v3 + 2)).toNatClampNeg)).toInt64) 32) ||| ((((xs ((v3 + 3)).toNatClampNeg)).toInt64) &&& 4294967295)) q21 hq21) g_law_33 yo_Log_part ⟨Nat.le_of_ble_eq_true rfl, Nat.le_of_ble_eq_true rfl⟩ hl (va_Pl hP) (va_Dl hD) (jn_L hP hD rfl) (ci := 5) rfl rfl hS hA rfl rfl (Nat.le_of_ble_eq_true rfl) ⟨Nat.le_of_ble_eq_true rfl, Nat.le_of_ble_eq_true rfl⟩ d_law_258 (fun H locs hP hD hS => ?_)
        refine lv_aload_n hx hb d_law_261 rfl (lv_at hl 2 rfl) ?_
        refine lv_aload_n hx hb d_law_262 rfl (lv_at hl 0 rfl) ?_
        refine lv_iload_n hx hb d_law_263 rfl (lv_at hl 3 rfl) ?_
        refine lv_iconst (v := 1) hx hb d_law_264 (by decide) ?_
        refine lv_iadd hx hb d_law_265 ?_
        obtain ⟨b22, hm⟩ := on hm
        refine va_sld hx hb hX hbl hbA hS b22 d_law_266 ?_
        refine lv_aload_n hx hb d_law_267 rfl (lv_at hl 0 rfl) ?_
        refine lv_iload_n hx hb d_law_268 rfl (lv_at hl 3 rfl) ?_
        refine lv_iconst (v := 2) hx hb d_law_269 (by decide) ?_
        refine lv_iadd hx hb d_law_270 ?_
        obtain ⟨b23, hm⟩ := on hm
        refine va_sld hx hb hX hbl hbA hS b23 d_law_271 ?_
        refine lv_i2l (v := (((xs ((v3 + 2)).toNatClampNeg)).toInt64)) hx hb d_law_272 rfl ?_
        refine lv_bipush (v := 32) hx hb d_law_273 (by decide) ?_
        refine lv_lshl (v := (jlshl (((xs ((v3 + 2)).toNatClampNeg)).toInt64) 32)) hx hb d_law_275 rfl ?_
        refine lv_aload_n hx hb d_law_276 rfl (lv_at hl 0 rfl) ?_
        refine lv_iload_n hx hb d_law_277 rfl (lv_at hl 3 rfl) ?_
        refine lv_iconst (v := 3) hx hb d_law_278 (by decide) ?_
        refine lv_iadd hx hb d_law_279 ?_
        obtain ⟨b24, hm⟩ := on hm
        refine va_sld hx hb hX hbl hbA hS b24 d_law_280 ?_
        refine lv_i2l (v := (((xs ((v3 + 3)).toNatClampNeg)).toInt64)) hx hb d_law_281 rfl ?_
        refine lv_ldc2 hx hb hown (hts _ wc_law_21) d_law_282 ?_
        refine lv_land hx hb d_law_285 ?_
        refine lv_lor hx hb d_law_286 ?_
        obtain ⟨q25, hq25, hm⟩ := ob hm
        refine inv_mVg (C := R_RRef) (As := [.int (xs ((v3 + 1)).toNatClampNeg), .long ((jlshl (((xs ((v3 + 2)).toNatClampNeg)).toInt64) 32) ||| ((((xs ((v3 + 3)).toNatClampNeg)).toInt64) &&& 4294967295))]) (rest := [.int q21.1]) (v := .int q25.1) (ws' := wl_Log ca ad q21.2 ++ wl_Ref ca bd q25.2) X (c_RRef_part l D ca bd _ r (xs ((v3 + 1)).toNatClampNeg) ((jlshl (((xs ((v3 + 2)).toNatClampNeg)).toInt64) 32) ||| ((((xs ((v3 + 3)).toNatClampNeg)).toInt64) &&& 4294967295)) q25 hq25) g_law_37 yo_RRef_part ⟨Nat.le_of_ble_eq_true rfl, Nat.le_of_ble_eq_true rfl⟩ hl (va_Pr hP) (va_Dr hD) (jn_R hP hD rfl) (ci := 6) rfl rfl hS hA rfl rfl (Nat.le_of_ble_eq_true rfl) ⟨Nat.le_of_ble_eq_true rfl, Nat.le_of_ble_eq_true rfl⟩ d_law_287 (fun H locs hP hD hS => ?_)
        refine lv_icmp_eq (tgt := 832) hx hb d_law_290 (by decide) (fun c26 => ?_) (fun c26 => ?_)
        · replace hm := ip c26 hm
          refine lv_iinc (v := (v3 + 4)) (lv' := [(3, .int (v3 + 4)), (0, .ref b), (1, .ref (ad 0)), (2, .ref (bd 0))]) hx hb d_law_832 hl (k := 3) rfl rfl (by decide) rfl (fun ls hl => ?_)
          have hl := lv_sub hl [1, 2, 3, 0] rfl
          replace hl : lv_has ls 4 [(0, .ref b), (1, .ref (ad 0)), (2, .ref (bd 0)), (3, .int (v3 + 4))] := hl
          refine lv_goto (tgt := 28) hx hb d_law_835 (by decide) ?_
          exact ih q21.2 q25.2 (v3 + 4) hm _ _ hP hD hS ls hl
        · replace hm := ineg c26 hm
          refine lv_iconst (v := 0) hx hb d_law_293 (by decide) ?_
          exact absurd hm (by decide)
      replace hm := ineg c17 hm
      by_cases c27 : ((xs (v3).toNatClampNeg) &&& 31) = 3
      · replace hm := ip c27 hm
        refine lv_tableIn (off := 253) (tgt := 295) hx hb d_law_42 (by rw [c27]; decide) (by rw [c27]; decide) (by rw [c27]; rfl) (by decide) ?_
        refine lv_aload_n hx hb d_law_295 rfl (lv_at hl 1 rfl) ?_
        refine lv_aload_n hx hb d_law_296 rfl (lv_at hl 0 rfl) ?_
        refine lv_iload_n hx hb d_law_297 rfl (lv_at hl 3 rfl) ?_
        refine lv_iconst (v := 1) hx hb d_law_298 (by decide) ?_
        refine lv_iadd hx hb d_law_299 ?_
        obtain ⟨b28, hm⟩ := on hm
        refine va_sld hx hb hX hbl hbA hS b28 d_law_300 ?_
        obtain ⟨q29, hq29, hm⟩ := ob hm
        refine inv_mVg (C := R_Log) (As := [.int (xs ((v3 + 1)).toNatClampNeg)]) (rest := []) (v := .int q29.1) (ws' := wl_Log ca ad q29.2 ++ wl_Ref ca bd r) X (c_Log_mark l D ca ad _ g (xs ((v3 + 1)).toNatClampNeg) q29 hq29) g_law_38 yo_Log_mark ⟨Nat.le_of_ble_eq_true rfl, Nat.le_of_ble_eq_true rfl⟩ hl (va_Pl hP) (va_Dl hD) (jn_L hP hD rfl) (ci := 5) rfl rfl hS hA rfl rfl (Nat.le_of_ble_eq_true rfl) ⟨Nat.le_of_ble_eq_true rfl, Nat.le_of_ble_eq_true rfl⟩ d_law_301 (fun H locs hP hD hS => ?_)
        refine lv_aload_n hx hb d_law_304 rfl (lv_at hl 2 rfl) ?_
        refine lv_aload_n hx hb d_law_305 rfl (lv_at hl 0 rfl) ?_
        refine lv_iload_n hx hb d_law_306 rfl (lv_at hl 3 rfl) ?_
        refine lv_iconst (v := 1) hx hb d_law_307 (by decide) ?_
        refine lv_iadd hx hb d_law_308 ?_
        obtain ⟨b30, hm⟩ := on hm
        refine va_sld hx hb hX hbl hbA hS b30 d_law_309 ?_
        obtain ⟨q31, hq31, hm⟩ := ob hm
        refine inv_mVg (C := R_RRef) (As := [.int (xs ((v3 + 1)).toNatClampNeg)]) (rest := [.int q29.1]) (v := .int q31.1) (ws' := wl_Log ca ad q29.2 ++ wl_Ref ca bd q31.2) X (c_RRef_mark l D ca bd _ r (xs ((v3 + 1)).toNatClampNeg) q31 hq31) g_law_42 yo_RRef_mark ⟨Nat.le_of_ble_eq_true rfl, Nat.le_of_ble_eq_true rfl⟩ hl (va_Pr hP) (va_Dr hD) (jn_R hP hD rfl) (ci := 6) rfl rfl hS hA rfl rfl (Nat.le_of_ble_eq_true rfl) ⟨Nat.le_of_ble_eq_true rfl, Nat.le_of_ble_eq_true rfl⟩ d_law_310 (fun H locs hP hD hS => ?_)
        refine lv_icmp_eq (tgt := 832) hx hb d_law_313 (by decide) (fun c32 => ?_) (fun c32 => ?_)
        · replace hm := ip c32 hm
          refine lv_iinc (v := (v3 + 4)) (lv' := [(3, .int (v3 + 4)), (0, .ref b), (1, .ref (ad 0)), (2, .ref (bd 0))]) hx hb d_law_832 hl (k := 3) rfl rfl (by decide) rfl (fun ls hl => ?_)
          have hl := lv_sub hl [1, 2, 3, 0] rfl
          replace hl : lv_has ls 4 [(0, .ref b), (1, .ref (ad 0)), (2, .ref (bd 0)), (3, .int (v3 + 4))] := hl
          refine lv_goto (tgt := 28) hx hb d_law_835 (by decide) ?_
          exact ih q29.2 q31.2 (v3 + 4) hm _ _ hP hD hS ls hl
        · replace hm := ineg c32 hm
          refine lv_iconst (v := 0) hx hb d_law_316 (by decide) ?_
          exact absurd hm (by decide)
      replace hm := ineg c27 hm
      by_cases c33 : ((xs (v3).toNatClampNeg) &&& 31) = 4
      · replace hm := ip c33 hm
        refine lv_tableIn (off := 276) (tgt := 318) hx hb d_law_42 (by rw [c33]; decide) (by rw [c33]; decide) (by rw [c33]; rfl) (by decide) ?_
        refine lv_aload_n hx hb d_law_318 rfl (lv_at hl 1 rfl) ?_
        refine lv_aload_n hx hb d_law_319 rfl (lv_at hl 0 rfl) ?_
        refine lv_iload_n hx hb d_law_320 rfl (lv_at hl 3 rfl) ?_
        refine lv_iconst (v := 1) hx hb d_law_321 (by decide) ?_
        refine lv_iadd hx hb d_law_322 ?_
        obtain ⟨b34, hm⟩ := on hm
        refine va_sld hx hb hX hbl hbA hS b34 d_law_323 ?_
        obtain ⟨q35, hq35, hm⟩ := ob hm
        refine inv_mVg (C := R_Log) (As := [.int (xs ((v3 + 1)).toNatClampNeg)]) (rest := []) (v := .int q35.1) (ws' := wl_Log ca ad q35.2 ++ wl_Ref ca bd r) X (c_Log_keep l D ca ad _ g (xs ((v3 + 1)).toNatClampNeg) q35 hq35) g_law_43 yo_Log_keep ⟨Nat.le_of_ble_eq_true rfl, Nat.le_of_ble_eq_true rfl⟩ hl (va_Pl hP) (va_Dl hD) (jn_L hP hD rfl) (ci := 5) rfl rfl hS hA rfl rfl (Nat.le_of_ble_eq_true rfl) ⟨Nat.le_of_ble_eq_true rfl, Nat.le_of_ble_eq_true rfl⟩ d_law_324 (fun H locs hP hD hS => ?_)
        refine lv_aload_n hx hb d_law_327 rfl (lv_at hl 2 rfl) ?_
        refine lv_aload_n hx hb d_law_328 rfl (lv_at hl 0 rfl) ?_
        refine lv_iload_n hx hb d_law_329 rfl (lv_at hl 3 rfl) ?_
        refine lv_iconst (v := 1) hx hb d_law_330 (by decide) ?_
        refine lv_iadd hx hb d_law_331 ?_
        obtain ⟨b36, hm⟩ := on hm
        refine va_sld hx hb hX hbl hbA hS b36 d_law_332 ?_
        obtain ⟨q37, hq37, hm⟩ := ob hm
        refine inv_mVg (C := R_RRef) (As := [.int (xs ((v3 + 1)).toNatClampNeg)]) (rest := [.int q35.1]) (v := .int q37.1) (ws' := wl_Log ca ad q35.2 ++ wl_Ref ca bd q37.2) X (c_RRef_keep l D ca bd _ r (xs ((v3 + 1)).toNatClampNeg) q37 hq37) g_law_46 yo_RRef_keep ⟨Nat.le_of_ble_eq_true rfl, Nat.le_of_ble_eq_true rfl⟩ hl (va_Pr hP) (va_Dr hD) (jn_R hP hD rfl) (ci := 6) rfl rfl hS hA rfl rfl (Nat.le_of_ble_eq_true rfl) ⟨Nat.le_of_ble_eq_true rfl, Nat.le_of_ble_eq_true rfl⟩ d_law_333 (fun H locs hP hD hS => ?_)
        refine lv_icmp_eq (tgt := 832) hx hb d_law_336 (by decide) (fun c38 => ?_) (fun c38 => ?_)
        · replace hm := ip c38 hm
          refine lv_iinc (v := (v3 + 4)) (lv' := [(3, .int (v3 + 4)), (0, .ref b), (1, .ref (ad 0)), (2, .ref (bd 0))]) hx hb d_law_832 hl (k := 3) rfl rfl (by decide) rfl (fun ls hl => ?_)
          have hl := lv_sub hl [1, 2, 3, 0] rfl
          replace hl : lv_has ls 4 [(0, .ref b), (1, .ref (ad 0)), (2, .ref (bd 0)), (3, .int (v3 + 4))] := hl
          refine lv_goto (tgt := 28) hx hb d_law_835 (by decide) ?_
          exact ih q35.2 q37.2 (v3 + 4) hm _ _ hP hD hS ls hl
        · replace hm := ineg c38 hm
          refine lv_iconst (v := 0) hx hb d_law_339 (by decide) ?_
          exact absurd hm (by decide)
      replace hm := ineg c33 hm
      by_cases c39 : ((xs (v3).toNatClampNeg) &&& 31) = 5
      · replace hm := ip c39 hm
        refine lv_tableIn (off := 299) (tgt := 341) hx hb d_law_42 (by rw [c39]; decide) (by rw [c39]; decide) (by rw [c39]; rfl) (by decide) ?_
        refine lv_aload_n hx hb d_law_341 rfl (lv_at hl 1 rfl) ?_
        refine lv_aload_n hx hb d_law_342 rfl (lv_at hl 0 rfl) ?_
        refine lv_iload_n hx hb d_law_343 rfl (lv_at hl 3 rfl) ?_
        refine lv_iconst (v := 1) hx hb d_law_344 (by decide) ?_
        refine lv_iadd hx hb d_law_345 ?_
        obtain ⟨b40, hm⟩ := on hm
        refine va_sld hx hb hX hbl hbA hS b40 d_law_346 ?_
        obtain ⟨q41, hq41, hm⟩ := ob hm
        refine inv_mVg (C := R_Log) (As := [.int (xs ((v3 + 1)).toNatClampNeg)]) (rest := []) (v := .int q41.1) (ws' := wl_Log ca ad q41.2 ++ wl_Ref ca bd r) X (c_Log_give l D ca ad _ g (xs ((v3 + 1)).toNatClampNeg) q41 hq41) g_law_47 yo_Log_give ⟨Nat.le_of_ble_eq_true rfl, Nat.le_of_ble_eq_true rfl⟩ hl (va_Pl hP) (va_Dl hD) (jn_L hP hD rfl) (ci := 5) rfl rfl hS hA rfl rfl (Nat.le_of_ble_eq_true rfl) ⟨Nat.le_of_ble_eq_true rfl, Nat.le_of_ble_eq_true rfl⟩ d_law_347 (fun H locs hP hD hS => ?_)
        refine lv_aload_n hx hb d_law_350 rfl (lv_at hl 2 rfl) ?_
        refine lv_aload_n hx hb d_law_351 rfl (lv_at hl 0 rfl) ?_
        refine lv_iload_n hx hb d_law_352 rfl (lv_at hl 3 rfl) ?_
        refine lv_iconst (v := 1) hx hb d_law_353 (by decide) ?_
        refine lv_iadd hx hb d_law_354 ?_
        obtain ⟨b42, hm⟩ := on hm
        refine va_sld hx hb hX hbl hbA hS b42 d_law_355 ?_
        obtain ⟨q43, hq43, hm⟩ := ob hm
        refine inv_mVg (C := R_RRef) (As := [.int (xs ((v3 + 1)).toNatClampNeg)]) (rest := [.int q41.1]) (v := .int q43.1) (ws' := wl_Log ca ad q41.2 ++ wl_Ref ca bd q43.2) X (c_RRef_give l D ca bd _ r (xs ((v3 + 1)).toNatClampNeg) q43 hq43) g_law_50 yo_RRef_give ⟨Nat.le_of_ble_eq_true rfl, Nat.le_of_ble_eq_true rfl⟩ hl (va_Pr hP) (va_Dr hD) (jn_R hP hD rfl) (ci := 6) rfl rfl hS hA rfl rfl (Nat.le_of_ble_eq_true rfl) ⟨Nat.le_of_ble_eq_true rfl, Nat.le_of_ble_eq_true rfl⟩ d_law_356 (fun H locs hP hD hS => ?_)
        refine lv_icmp_eq (tgt := 832) hx hb d_law_359 (by decide) (fun c44 => ?_) (fun c44 => ?_)
        · replace hm := ip c44 hm
          refine lv_iinc (v := (v3 + 4)) (lv' := [(3, .int (v3 + 4)), (0, .ref b), (1, .ref (ad 0)), (2, .ref (bd 0))]) hx hb d_law_832 hl (k := 3) rfl rfl (by decide) rfl (fun ls hl => ?_)
          have hl := lv_sub hl [1, 2, 3, 0] rfl
          replace hl : lv_has ls 4 [(0, .ref b), (1, .ref (ad 0)), (2, .ref (bd 0)), (3, .int (v3 + 4))] := hl
          refine lv_goto (tgt := 28) hx hb d_law_835 (by decide) ?_
          exact ih q41.2 q43.2 (v3 + 4) hm _ _ hP hD hS ls hl
        · replace hm := ineg c44 hm
          refine lv_iconst (v := 0) hx hb d_law_362 (by decide) ?_
          exact absurd hm (by decide)
      replace hm := ineg c39 hm
      by_cases c45 : ((xs (v3).toNatClampNeg) &&& 31) = 6
      · replace hm := ip c45 hm
        refine lv_tableIn (off := 322) (tgt := 364) hx hb d_law_42 (by rw [c45]; decide) (by rw [c45]; decide) (by rw [c45]; rfl) (by decide) ?_
        refine lv_aload_n hx hb d_law_364 rfl (lv_at hl 1 rfl) ?_
        refine lv_aload_n hx hb d_law_365 rfl (lv_at hl 0 rfl) ?_
        refine lv_iload_n hx hb d_law_366 rfl (lv_at hl 3 rfl) ?_
        refine lv_iconst (v := 1) hx hb d_law_367 (by decide) ?_
        refine lv_iadd hx hb d_law_368 ?_
        obtain ⟨b46, hm⟩ := on hm
        refine va_sld hx hb hX hbl hbA hS b46 d_law_369 ?_
        obtain ⟨q47, hq47, hm⟩ := ob hm
        refine inv_mVg (C := R_Log) (As := [.int (xs ((v3 + 1)).toNatClampNeg)]) (rest := []) (v := .int q47.1) (ws' := wl_Log ca ad q47.2 ++ wl_Ref ca bd r) X (c_Log_owner l D ca ad _ g (xs ((v3 + 1)).toNatClampNeg) q47 hq47) g_law_51 yo_Log_owner ⟨Nat.le_of_ble_eq_true rfl, Nat.le_of_ble_eq_true rfl⟩ hl (va_Pl hP) (va_Dl hD) (jn_L hP hD rfl) (ci := 5) rfl rfl hS hA rfl rfl (Nat.le_of_ble_eq_true rfl) ⟨Nat.le_of_ble_eq_true rfl, Nat.le_of_ble_eq_true rfl⟩ d_law_370 (fun H locs hP hD hS => ?_)
        refine lv_aload_n hx hb d_law_373 rfl (lv_at hl 2 rfl) ?_
        refine lv_aload_n hx hb d_law_374 rfl (lv_at hl 0 rfl) ?_
        refine lv_iload_n hx hb d_law_375 rfl (lv_at hl 3 rfl) ?_
        refine lv_iconst (v := 1) hx hb d_law_376 (by decide) ?_
        refine lv_iadd hx hb d_law_377 ?_
        obtain ⟨b48, hm⟩ := on hm
        refine va_sld hx hb hX hbl hbA hS b48 d_law_378 ?_
        obtain ⟨q49, hq49, hm⟩ := ob hm
        refine inv_mVg (C := R_RRef) (As := [.int (xs ((v3 + 1)).toNatClampNeg)]) (rest := [.int q47.1]) (v := .int q49.1) (ws' := wl_Log ca ad q47.2 ++ wl_Ref ca bd q49.2) X (c_RRef_owner l D ca bd _ r (xs ((v3 + 1)).toNatClampNeg) q49 hq49) g_law_54 yo_RRef_owner ⟨Nat.le_of_ble_eq_true rfl, Nat.le_of_ble_eq_true rfl⟩ hl (va_Pr hP) (va_Dr hD) (jn_R hP hD rfl) (ci := 6) rfl rfl hS hA rfl rfl (Nat.le_of_ble_eq_true rfl) ⟨Nat.le_of_ble_eq_true rfl, Nat.le_of_ble_eq_true rfl⟩ d_law_379 (fun H locs hP hD hS => ?_)
        refine lv_icmp_eq (tgt := 832) hx hb d_law_382 (by decide) (fun c50 => ?_) (fun c50 => ?_)
        · replace hm := ip c50 hm
          refine lv_iinc (v := (v3 + 4)) (lv' := [(3, .int (v3 + 4)), (0, .ref b), (1, .ref (ad 0)), (2, .ref (bd 0))]) hx hb d_law_832 hl (k := 3) rfl rfl (by decide) rfl (fun ls hl => ?_)
          have hl := lv_sub hl [1, 2, 3, 0] rfl
          replace hl : lv_has ls 4 [(0, .ref b), (1, .ref (ad 0)), (2, .ref (bd 0)), (3, .int (v3 + 4))] := hl
          refine lv_goto (tgt := 28) hx hb d_law_835 (by decide) ?_
          exact ih q47.2 q49.2 (v3 + 4) hm _ _ hP hD hS ls hl
        · replace hm := ineg c50 hm
          refine lv_iconst (v := 0) hx hb d_law_385 (by decide) ?_
          exact absurd hm (by decide)
      replace hm := ineg c45 hm
      by_cases c51 : ((xs (v3).toNatClampNeg) &&& 31) = 7
      · replace hm := ip c51 hm
        refine lv_tableIn (off := 345) (tgt := 387) hx hb d_law_42 (by rw [c51]; decide) (by rw [c51]; decide) (by rw [c51]; rfl) (by decide) ?_
        refine lv_aload_n hx hb d_law_387 rfl (lv_at hl 1 rfl) ?_
        refine lv_aload_n hx hb d_law_388 rfl (lv_at hl 0 rfl) ?_
        refine lv_iload_n hx hb d_law_389 rfl (lv_at hl 3 rfl) ?_
        refine lv_iconst (v := 1) hx hb d_law_390 (by decide) ?_
        refine lv_iadd hx hb d_law_391 ?_
        obtain ⟨b52, hm⟩ := on hm
        refine va_sld hx hb hX hbl hbA hS b52 d_law_392 ?_
        obtain ⟨q53, hq53, hm⟩ := ob hm
        refine inv_mVg (C := R_Log) (As := [.int (xs ((v3 + 1)).toNatClampNeg)]) (rest := []) (v := .int q53.1) (ws' := wl_Log ca ad q53.2 ++ wl_Ref ca bd r) X (c_Log_drop l D ca ad _ g (xs ((v3 + 1)).toNatClampNeg) q53 hq53) g_law_55 yo_Log_drop ⟨Nat.le_of_ble_eq_true rfl, Nat.le_of_ble_eq_true rfl⟩ hl (va_Pl hP) (va_Dl hD) (jn_L hP hD rfl) (ci := 5) rfl rfl hS hA rfl rfl (Nat.le_of_ble_eq_true rfl) ⟨Nat.le_of_ble_eq_true rfl, Nat.le_of_ble_eq_true rfl⟩ d_law_393 (fun H locs hP hD hS => ?_)
        refine lv_aload_n hx hb d_law_396 rfl (lv_at hl 2 rfl) ?_
        refine lv_aload_n hx hb d_law_397 rfl (lv_at hl 0 rfl) ?_
        refine lv_iload_n hx hb d_law_398 rfl (lv_at hl 3 rfl) ?_
        refine lv_iconst (v := 1) hx hb d_law_399 (by decide) ?_
        refine lv_iadd hx hb d_law_400 ?_
        obtain ⟨b54, hm⟩ := on hm
        refine va_sld hx hb hX hbl hbA hS b54 d_law_401 ?_
        obtain ⟨q55, hq55, hm⟩ := ob hm
        refine inv_mVg (C := R_RRef) (As := [.int (xs ((v3 + 1)).toNatClampNeg)]) (rest := [.int q53.1]) (v := .int q55.1) (ws' := wl_Log ca ad q53.2 ++ wl_Ref ca bd q55.2) X (c_RRef_drop l D ca bd _ r (xs ((v3 + 1)).toNatClampNeg) q55 hq55) g_law_58 yo_RRef_drop ⟨Nat.le_of_ble_eq_true rfl, Nat.le_of_ble_eq_true rfl⟩ hl (va_Pr hP) (va_Dr hD) (jn_R hP hD rfl) (ci := 6) rfl rfl hS hA rfl rfl (Nat.le_of_ble_eq_true rfl) ⟨Nat.le_of_ble_eq_true rfl, Nat.le_of_ble_eq_true rfl⟩ d_law_402 (fun H locs hP hD hS => ?_)
        refine lv_icmp_eq (tgt := 832) hx hb d_law_405 (by decide) (fun c56 => ?_) (fun c56 => ?_)
        · replace hm := ip c56 hm
          refine lv_iinc (v := (v3 + 4)) (lv' := [(3, .int (v3 + 4)), (0, .ref b), (1, .ref (ad 0)), (2, .ref (bd 0))]) hx hb d_law_832 hl (k := 3) rfl rfl (by decide) rfl (fun ls hl => ?_)
          have hl := lv_sub hl [1, 2, 3, 0] rfl
          replace hl : lv_has ls 4 [(0, .ref b), (1, .ref (ad 0)), (2, .ref (bd 0)), (3, .int (v3 + 4))] := hl
          refine lv_goto (tgt := 28) hx hb d_law_835 (by decide) ?_
          exact ih q53.2 q55.2 (v3 + 4) hm _ _ hP hD hS ls hl
        · replace hm := ineg c56 hm
          refine lv_iconst (v := 0) hx hb d_law_408 (by decide) ?_
          exact absurd hm (by decide)
      replace hm := ineg c51 hm
      by_cases c57 : ((xs (v3).toNatClampNeg) &&& 31) = 8
      · replace hm := ip c57 hm
        refine lv_tableIn (off := 368) (tgt := 410) hx hb d_law_42 (by rw [c57]; decide) (by rw [c57]; decide) (by rw [c57]; rfl) (by decide) ?_
        refine lv_aload_n hx hb d_law_410 rfl (lv_at hl 1 rfl) ?_
        refine lv_aload_n hx hb d_law_411 rfl (lv_at hl 0 rfl) ?_
        refine lv_iload_n hx hb d_law_412 rfl (lv_at hl 3 rfl) ?_
        refine lv_iconst (v := 1) hx hb d_law_413 (by decide) ?_
        refine lv_iadd hx hb d_law_414 ?_
        obtain ⟨b58, hm⟩ := on hm
        refine va_sld hx hb hX hbl hbA hS b58 d_law_415 ?_
        obtain ⟨q59, hq59, hm⟩ := ob hm
        refine inv_mVg (C := R_Log) (As := [.int (xs ((v3 + 1)).toNatClampNeg)]) (rest := []) (v := .int q59.1) (ws' := wl_Log ca ad q59.2 ++ wl_Ref ca bd r) X (c_Log_cut l D ca ad _ g (xs ((v3 + 1)).toNatClampNeg) q59 hq59) g_law_59 yo_Log_cut ⟨Nat.le_of_ble_eq_true rfl, Nat.le_of_ble_eq_true rfl⟩ hl (va_Pl hP) (va_Dl hD) (jn_L hP hD rfl) (ci := 5) rfl rfl hS hA rfl rfl (Nat.le_of_ble_eq_true rfl) ⟨Nat.le_of_ble_eq_true rfl, Nat.le_of_ble_eq_true rfl⟩ d_law_416 (fun H locs hP hD hS => ?_)
        refine lv_aload_n hx hb d_law_419 rfl (lv_at hl 2 rfl) ?_
        refine lv_aload_n hx hb d_law_420 rfl (lv_at hl 0 rfl) ?_
        refine lv_iload_n hx hb d_law_421 rfl (lv_at hl 3 rfl) ?_
        refine lv_iconst (v := 1) hx hb d_law_422 (by decide) ?_
        refine lv_iadd hx hb d_law_423 ?_
        obtain ⟨b60, hm⟩ := on hm
        refine va_sld hx hb hX hbl hbA hS b60 d_law_424 ?_
        obtain ⟨q61, hq61, hm⟩ := ob hm
        refine inv_mVg (C := R_RRef) (As := [.int (xs ((v3 + 1)).toNatClampNeg)]) (rest := [.int q59.1]) (v := .int q61.1) (ws' := wl_Log ca ad q59.2 ++ wl_Ref ca bd q61.2) X (c_RRef_cut l D ca bd _ r (xs ((v3 + 1)).toNatClampNeg) q61 hq61) g_law_63 yo_RRef_cut ⟨Nat.le_of_ble_eq_true rfl, Nat.le_of_ble_eq_true rfl⟩ hl (va_Pr hP) (va_Dr hD) (jn_R hP hD rfl) (ci := 6) rfl rfl hS hA rfl rfl (Nat.le_of_ble_eq_true rfl) ⟨Nat.le_of_ble_eq_true rfl, Nat.le_of_ble_eq_true rfl⟩ d_law_425 (fun H locs hP hD hS => ?_)
        refine lv_icmp_eq (tgt := 832) hx hb d_law_428 (by decide) (fun c62 => ?_) (fun c62 => ?_)
        · replace hm := ip c62 hm
          refine lv_iinc (v := (v3 + 4)) (lv' := [(3, .int (v3 + 4)), (0, .ref b), (1, .ref (ad 0)), (2, .ref (bd 0))]) hx hb d_law_832 hl (k := 3) rfl rfl (by decide) rfl (fun ls hl => ?_)
          have hl := lv_sub hl [1, 2, 3, 0] rfl
          replace hl : lv_has ls 4 [(0, .ref b), (1, .ref (ad 0)), (2, .ref (bd 0)), (3, .int (v3 + 4))] := hl
          refine lv_goto (tgt := 28) hx hb d_law_835 (by decide) ?_
          exact ih q59.2 q61.2 (v3 + 4) hm _ _ hP hD hS ls hl
        · replace hm := ineg c62 hm
          refine lv_iconst (v := 0) hx hb d_law_431 (by decide) ?_
          exact absurd hm (by decide)
      replace hm := ineg c57 hm
      by_cases c63 : ((xs (v3).toNatClampNeg) &&& 31) = 9
      · replace hm := ip c63 hm
        refine lv_tableIn (off := 391) (tgt := 433) hx hb d_law_42 (by rw [c63]; decide) (by rw [c63]; decide) (by rw [c63]; rfl) (by decide) ?_
        refine lv_aload_n hx hb d_law_433 rfl (lv_at hl 1 rfl) ?_
        obtain ⟨q64, hq64, hm⟩ := ob hm
        refine inv_mVg (C := R_Log) (As := []) (rest := []) (v := .int q64.1) (ws' := wl_Log ca ad q64.2 ++ wl_Ref ca bd r) X (c_Log_close l D ca ad _ g q64 hq64) g_law_64 yo_Log_close ⟨Nat.le_of_ble_eq_true rfl, Nat.le_of_ble_eq_true rfl⟩ hl (va_Pl hP) (va_Dl hD) (jn_L hP hD rfl) (ci := 5) rfl rfl hS hA rfl rfl (Nat.le_of_ble_eq_true rfl) ⟨Nat.le_of_ble_eq_true rfl, Nat.le_of_ble_eq_true rfl⟩ d_law_434 (fun H locs hP hD hS => ?_)
        refine lv_aload_n hx hb d_law_437 rfl (lv_at hl 2 rfl) ?_
        obtain ⟨q65, hq65, hm⟩ := ob hm
        refine inv_mVg (C := R_RRef) (As := []) (rest := [.int q64.1]) (v := .int q65.1) (ws' := wl_Log ca ad q64.2 ++ wl_Ref ca bd q65.2) X (c_RRef_close l D ca bd _ r q65 hq65) g_law_68 yo_RRef_close ⟨Nat.le_of_ble_eq_true rfl, Nat.le_of_ble_eq_true rfl⟩ hl (va_Pr hP) (va_Dr hD) (jn_R hP hD rfl) (ci := 6) rfl rfl hS hA rfl rfl (Nat.le_of_ble_eq_true rfl) ⟨Nat.le_of_ble_eq_true rfl, Nat.le_of_ble_eq_true rfl⟩ d_law_438 (fun H locs hP hD hS => ?_)
        refine lv_icmp_eq (tgt := 832) hx hb d_law_441 (by decide) (fun c66 => ?_) (fun c66 => ?_)
        · replace hm := ip c66 hm
          refine lv_iinc (v := (v3 + 4)) (lv' := [(3, .int (v3 + 4)), (0, .ref b), (1, .ref (ad 0)), (2, .ref (bd 0))]) hx hb d_law_832 hl (k := 3) rfl rfl (by decide) rfl (fun ls hl => ?_)
          have hl := lv_sub hl [1, 2, 3, 0] rfl
          replace hl : lv_has ls 4 [(0, .ref b), (1, .ref (ad 0)), (2, .ref (bd 0)), (3, .int (v3 + 4))] := hl
          refine lv_goto (tgt := 28) hx hb d_law_835 (by decide) ?_
          exact ih q64.2 q65.2 (v3 + 4) hm _ _ hP hD hS ls hl
        · replace hm := ineg c66 hm
          refine lv_iconst (v := 0) hx hb d_law_444 (by decide) ?_
          exact absurd hm (by decide)
      replace hm := ineg c63 hm
      by_cases c67 : ((xs (v3).toNatClampNeg) &&& 31) = 10
      · replace hm := ip c67 hm
        refine lv_tableIn (off := 404) (tgt := 446) hx hb d_law_42 (by rw [c67]; decide) (by rw [c67]; decide) (by rw [c67]; rfl) (by decide) ?_
        refine lv_aload_n hx hb d_law_446 rfl (lv_at hl 1 rfl) ?_
        obtain ⟨q68, hq68, hm⟩ := ob hm
        refine inv_mVg (C := R_Log) (As := []) (rest := []) (v := .int q68.1) (ws' := wl_Log ca ad q68.2 ++ wl_Ref ca bd r) X (c_Log_open_ l D ca ad _ g q68 hq68) g_law_69 yo_Log_open_ ⟨Nat.le_of_ble_eq_true rfl, Nat.le_of_ble_eq_true rfl⟩ hl (va_Pl hP) (va_Dl hD) (jn_L hP hD rfl) (ci := 5) rfl rfl hS hA rfl rfl (Nat.le_of_ble_eq_true rfl) ⟨Nat.le_of_ble_eq_true rfl, Nat.le_of_ble_eq_true rfl⟩ d_law_447 (fun H locs hP hD hS => ?_)
        refine lv_aload_n hx hb d_law_450 rfl (lv_at hl 2 rfl) ?_
        obtain ⟨q69, hq69, hm⟩ := ob hm
        refine inv_mVg (C := R_RRef) (As := []) (rest := [.int q68.1]) (v := .int q69.1) (ws' := wl_Log ca ad q68.2 ++ wl_Ref ca bd q69.2) X (c_RRef_open_ l D ca bd _ r q69 hq69) g_law_72 yo_RRef_open_ ⟨Nat.le_of_ble_eq_true rfl, Nat.le_of_ble_eq_true rfl⟩ hl (va_Pr hP) (va_Dr hD) (jn_R hP hD rfl) (ci := 6) rfl rfl hS hA rfl rfl (Nat.le_of_ble_eq_true rfl) ⟨Nat.le_of_ble_eq_true rfl, Nat.le_of_ble_eq_true rfl⟩ d_law_451 (fun H locs hP hD hS => ?_)
        refine lv_icmp_eq (tgt := 832) hx hb d_law_454 (by decide) (fun c70 => ?_) (fun c70 => ?_)
        · replace hm := ip c70 hm
          refine lv_iinc (v := (v3 + 4)) (lv' := [(3, .int (v3 + 4)), (0, .ref b), (1, .ref (ad 0)), (2, .ref (bd 0))]) hx hb d_law_832 hl (k := 3) rfl rfl (by decide) rfl (fun ls hl => ?_)
          have hl := lv_sub hl [1, 2, 3, 0] rfl
          replace hl : lv_has ls 4 [(0, .ref b), (1, .ref (ad 0)), (2, .ref (bd 0)), (3, .int (v3 + 4))] := hl
          refine lv_goto (tgt := 28) hx hb d_law_835 (by decide) ?_
          exact ih q68.2 q69.2 (v3 + 4) hm _ _ hP hD hS ls hl
        · replace hm := ineg c70 hm
          refine lv_iconst (v := 0) hx hb d_law_457 (by decide) ?_
          exact absurd hm (by decide)
      replace hm := ineg c67 hm
      by_cases c71 : ((xs (v3).toNatClampNeg) &&& 31) = 11
      · replace hm := ip c71 hm
        refine lv_tableIn (off := 417) (tgt := 459) hx hb d_law_42 (by rw [c71]; decide) (by rw [c71]; decide) (by rw [c71]; rfl) (by decide) ?_
        refine lv_aload_n hx hb d_law_459 rfl (lv_at hl 1 rfl) ?_
        obtain ⟨q72, hq72, hm⟩ := ob hm
        refine inv_rVg (C := R_Log) (As := []) (rest := []) (v := .int q72) X (c_Log_usable l D ca ad _ g q72 hq72) g_law_73 yo_Log_usable ⟨Nat.le_of_ble_eq_true rfl, Nat.le_of_ble_eq_true rfl⟩ hl (va_Pl hP) (va_Dl hD) (ci := 5) rfl rfl hP hS hA rfl rfl (Nat.le_of_ble_eq_true rfl) ⟨Nat.le_of_ble_eq_true rfl, Nat.le_of_ble_eq_true rfl⟩ d_law_460 (fun H locs hP hS => ?_)
        refine lv_aload_n hx hb d_law_463 rfl (lv_at hl 2 rfl) ?_
        obtain ⟨q73, hq73, hm⟩ := ob hm
        refine inv_rVg (C := R_RRef) (As := []) (rest := [.int q72]) (v := .int q73) X (c_RRef_usable l D ca bd _ r q73 hq73) g_law_76 yo_RRef_usable ⟨Nat.le_of_ble_eq_true rfl, Nat.le_of_ble_eq_true rfl⟩ hl (va_Pr hP) (va_Dr hD) (ci := 6) rfl rfl hP hS hA rfl rfl (Nat.le_of_ble_eq_true rfl) ⟨Nat.le_of_ble_eq_true rfl, Nat.le_of_ble_eq_true rfl⟩ d_law_464 (fun H locs hP hS => ?_)
        refine lv_icmp_eq (tgt := 832) hx hb d_law_467 (by decide) (fun c74 => ?_) (fun c74 => ?_)
        · replace hm := ip c74 hm
          refine lv_iinc (v := (v3 + 4)) (lv' := [(3, .int (v3 + 4)), (0, .ref b), (1, .ref (ad 0)), (2, .ref (bd 0))]) hx hb d_law_832 hl (k := 3) rfl rfl (by decide) rfl (fun ls hl => ?_)
          have hl := lv_sub hl [1, 2, 3, 0] rfl
          replace hl : lv_has ls 4 [(0, .ref b), (1, .ref (ad 0)), (2, .ref (bd 0)), (3, .int (v3 + 4))] := hl
          refine lv_goto (tgt := 28) hx hb d_law_835 (by decide) ?_
          exact ih g r (v3 + 4) hm _ _ hP hD hS ls hl
        · replace hm := ineg c74 hm
          refine lv_iconst (v := 0) hx hb d_law_470 (by decide) ?_
          exact absurd hm (by decide)
      replace hm := ineg c71 hm
      by_cases c75 : ((xs (v3).toNatClampNeg) &&& 31) = 12
      · replace hm := ip c75 hm
        refine lv_tableIn (off := 430) (tgt := 472) hx hb d_law_42 (by rw [c75]; decide) (by rw [c75]; decide) (by rw [c75]; rfl) (by decide) ?_
        refine lv_aload_n hx hb d_law_472 rfl (lv_at hl 1 rfl) ?_
        refine lv_aload_n hx hb d_law_473 rfl (lv_at hl 0 rfl) ?_
        refine lv_iload_n hx hb d_law_474 rfl (lv_at hl 3 rfl) ?_
        refine lv_iconst (v := 1) hx hb d_law_475 (by decide) ?_
        refine lv_iadd hx hb d_law_476 ?_
        obtain ⟨b76, hm⟩ := on hm
        refine va_sld hx hb hX hbl hbA hS b76 d_law_477 ?_
        obtain ⟨q77, hq77, hm⟩ := ob hm
        refine inv_rVg (C := R_Log) (As := [.int (xs ((v3 + 1)).toNatClampNeg)]) (rest := []) (v := .int q77) X (c_Log_whole l D ca ad _ g (xs ((v3 + 1)).toNatClampNeg) q77 hq77) g_law_77 yo_Log_whole ⟨Nat.le_of_ble_eq_true rfl, Nat.le_of_ble_eq_true rfl⟩ hl (va_Pl hP) (va_Dl hD) (ci := 5) rfl rfl hP hS hA rfl rfl (Nat.le_of_ble_eq_true rfl) ⟨Nat.le_of_ble_eq_true rfl, Nat.le_of_ble_eq_true rfl⟩ d_law_478 (fun H locs hP hS => ?_)
        refine lv_aload_n hx hb d_law_481 rfl (lv_at hl 2 rfl) ?_
        refine lv_aload_n hx hb d_law_482 rfl (lv_at hl 0 rfl) ?_
        refine lv_iload_n hx hb d_law_483 rfl (lv_at hl 3 rfl) ?_
        refine lv_iconst (v := 1) hx hb d_law_484 (by decide) ?_
        refine lv_iadd hx hb d_law_485 ?_
        obtain ⟨b78, hm⟩ := on hm
        refine va_sld hx hb hX hbl hbA hS b78 d_law_486 ?_
        obtain ⟨q79, hq79, hm⟩ := ob hm
        refine inv_rVg (C := R_RRef) (As := [.int (xs ((v3 + 1)).toNatClampNeg)]) (rest := [.int q77]) (v := .int q79) X (c_RRef_whole l D ca bd _ r (xs ((v3 + 1)).toNatClampNeg) q79 hq79) g_law_80 yo_RRef_whole ⟨Nat.le_of_ble_eq_true rfl, Nat.le_of_ble_eq_true rfl⟩ hl (va_Pr hP) (va_Dr hD) (ci := 6) rfl rfl hP hS hA rfl rfl (Nat.le_of_ble_eq_true rfl) ⟨Nat.le_of_ble_eq_true rfl, Nat.le_of_ble_eq_true rfl⟩ d_law_487 (fun H locs hP hS => ?_)
        refine lv_icmp_eq (tgt := 832) hx hb d_law_490 (by decide) (fun c80 => ?_) (fun c80 => ?_)
        · replace hm := ip c80 hm
          refine lv_iinc (v := (v3 + 4)) (lv' := [(3, .int (v3 + 4)), (0, .ref b), (1, .ref (ad 0)), (2, .ref (bd 0))]) hx hb d_law_832 hl (k := 3) rfl rfl (by decide) rfl (fun ls hl => ?_)
          have hl := lv_sub hl [1, 2, 3, 0] rfl
          replace hl : lv_has ls 4 [(0, .ref b), (1, .ref (ad 0)), (2, .ref (bd 0)), (3, .int (v3 + 4))] := hl
          refine lv_goto (tgt := 28) hx hb d_law_835 (by decide) ?_
          exact ih g r (v3 + 4) hm _ _ hP hD hS ls hl
        · replace hm := ineg c80 hm
          refine lv_iconst (v := 0) hx hb d_law_493 (by decide) ?_
          exact absurd hm (by decide)
      replace hm := ineg c75 hm
      by_cases c81 : ((xs (v3).toNatClampNeg) &&& 31) = 13
      · replace hm := ip c81 hm
        refine lv_tableIn (off := 453) (tgt := 495) hx hb d_law_42 (by rw [c81]; decide) (by rw [c81]; decide) (by rw [c81]; rfl) (by decide) ?_
        refine lv_aload_n hx hb d_law_495 rfl (lv_at hl 1 rfl) ?_
        refine lv_aload_n hx hb d_law_496 rfl (lv_at hl 0 rfl) ?_
        refine lv_iload_n hx hb d_law_497 rfl (lv_at hl 3 rfl) ?_
        refine lv_iconst (v := 1) hx hb d_law_498 (by decide) ?_
        refine lv_iadd hx hb d_law_499 ?_
        obtain ⟨b82, hm⟩ := on hm
        refine va_sld hx hb hX hbl hbA hS b82 d_law_500 ?_
        obtain ⟨q83, hq83, hm⟩ := ob hm
        refine inv_rVg (C := R_Log) (As := [.int (xs ((v3 + 1)).toNatClampNeg)]) (rest := []) (v := .int q83) X (c_Log_marks l D ca ad _ g (xs ((v3 + 1)).toNatClampNeg) q83 hq83) g_law_81 yo_Log_marks ⟨Nat.le_of_ble_eq_true rfl, Nat.le_of_ble_eq_true rfl⟩ hl (va_Pl hP) (va_Dl hD) (ci := 5) rfl rfl hP hS hA rfl rfl (Nat.le_of_ble_eq_true rfl) ⟨Nat.le_of_ble_eq_true rfl, Nat.le_of_ble_eq_true rfl⟩ d_law_501 (fun H locs hP hS => ?_)
        refine lv_aload_n hx hb d_law_504 rfl (lv_at hl 2 rfl) ?_
        refine lv_aload_n hx hb d_law_505 rfl (lv_at hl 0 rfl) ?_
        refine lv_iload_n hx hb d_law_506 rfl (lv_at hl 3 rfl) ?_
        refine lv_iconst (v := 1) hx hb d_law_507 (by decide) ?_
        refine lv_iadd hx hb d_law_508 ?_
        obtain ⟨b84, hm⟩ := on hm
        refine va_sld hx hb hX hbl hbA hS b84 d_law_509 ?_
        obtain ⟨q85, hq85, hm⟩ := ob hm
        refine inv_rVg (C := R_RRef) (As := [.int (xs ((v3 + 1)).toNatClampNeg)]) (rest := [.int q83]) (v := .int q85) X (c_RRef_marks l D ca bd _ r (xs ((v3 + 1)).toNatClampNeg) q85 hq85) g_law_84 yo_RRef_marks ⟨Nat.le_of_ble_eq_true rfl, Nat.le_of_ble_eq_true rfl⟩ hl (va_Pr hP) (va_Dr hD) (ci := 6) rfl rfl hP hS hA rfl rfl (Nat.le_of_ble_eq_true rfl) ⟨Nat.le_of_ble_eq_true rfl, Nat.le_of_ble_eq_true rfl⟩ d_law_510 (fun H locs hP hS => ?_)
        refine lv_icmp_eq (tgt := 832) hx hb d_law_513 (by decide) (fun c86 => ?_) (fun c86 => ?_)
        · replace hm := ip c86 hm
          refine lv_iinc (v := (v3 + 4)) (lv' := [(3, .int (v3 + 4)), (0, .ref b), (1, .ref (ad 0)), (2, .ref (bd 0))]) hx hb d_law_832 hl (k := 3) rfl rfl (by decide) rfl (fun ls hl => ?_)
          have hl := lv_sub hl [1, 2, 3, 0] rfl
          replace hl : lv_has ls 4 [(0, .ref b), (1, .ref (ad 0)), (2, .ref (bd 0)), (3, .int (v3 + 4))] := hl
          refine lv_goto (tgt := 28) hx hb d_law_835 (by decide) ?_
          exact ih g r (v3 + 4) hm _ _ hP hD hS ls hl
        · replace hm := ineg c86 hm
          refine lv_iconst (v := 0) hx hb d_law_516 (by decide) ?_
          exact absurd hm (by decide)
      replace hm := ineg c81 hm
      by_cases c87 : ((xs (v3).toNatClampNeg) &&& 31) = 14
      · replace hm := ip c87 hm
        refine lv_tableIn (off := 476) (tgt := 518) hx hb d_law_42 (by rw [c87]; decide) (by rw [c87]; decide) (by rw [c87]; rfl) (by decide) ?_
        refine lv_aload_n hx hb d_law_518 rfl (lv_at hl 1 rfl) ?_
        refine lv_aload_n hx hb d_law_519 rfl (lv_at hl 0 rfl) ?_
        refine lv_iload_n hx hb d_law_520 rfl (lv_at hl 3 rfl) ?_
        refine lv_iconst (v := 1) hx hb d_law_521 (by decide) ?_
        refine lv_iadd hx hb d_law_522 ?_
        obtain ⟨b88, hm⟩ := on hm
        refine va_sld hx hb hX hbl hbA hS b88 d_law_523 ?_
        refine lv_aload_n hx hb d_law_524 rfl (lv_at hl 0 rfl) ?_
        refine lv_iload_n hx hb d_law_525 rfl (lv_at hl 3 rfl) ?_
        refine lv_iconst (v := 2) hx hb d_law_526 (by decide) ?_
        refine lv_iadd hx hb d_law_527 ?_
        obtain ⟨b89, hm⟩ := on hm
        refine va_sld hx hb hX hbl hbA hS b89 d_law_528 ?_
        obtain ⟨q90, hq90, hm⟩ := ob hm
        refine inv_rVg (C := R_Log) (As := [.int (xs ((v3 + 1)).toNatClampNeg), .int (xs ((v3 + 2)).toNatClampNeg)]) (rest := []) (v := .int q90) X (c_Log_markOf l D ca ad _ g (xs ((v3 + 1)).toNatClampNeg) (xs ((v3 + 2)).toNatClampNeg) q90 hq90) g_law_85 yo_Log_markOf ⟨Nat.le_of_ble_eq_true rfl, Nat.le_of_ble_eq_true rfl⟩ hl (va_Pl hP) (va_Dl hD) (ci := 5) rfl rfl hP hS hA rfl rfl (Nat.le_of_ble_eq_true rfl) ⟨Nat.le_of_ble_eq_true rfl, Nat.le_of_ble_eq_true rfl⟩ d_law_529 (fun H locs hP hS => ?_)
        refine lv_aload_n hx hb d_law_532 rfl (lv_at hl 2 rfl) ?_
        refine lv_aload_n hx hb d_law_533 rfl (lv_at hl 0 rfl) ?_
        refine lv_iload_n hx hb d_law_534 rfl (lv_at hl 3 rfl) ?_
        refine lv_iconst (v := 1) hx hb d_law_535 (by decide) ?_
        refine lv_iadd hx hb d_law_536 ?_
        obtain ⟨b91, hm⟩ := on hm
        refine va_sld hx hb hX hbl hbA hS b91 d_law_537 ?_
        refine lv_aload_n hx hb d_law_538 rfl (lv_at hl 0 rfl) ?_
        refine lv_iload_n hx hb d_law_539 rfl (lv_at hl 3 rfl) ?_
        refine lv_iconst (v := 2) hx hb d_law_540 (by decide) ?_
        refine lv_iadd hx hb d_law_541 ?_
        obtain ⟨b92, hm⟩ := on hm
        refine va_sld hx hb hX hbl hbA hS b92 d_law_542 ?_
        obtain ⟨q93, hq93, hm⟩ := ob hm
        refine inv_rVg (C := R_RRef) (As := [.int (xs ((v3 + 1)).toNatClampNeg), .int (xs ((v3 + 2)).toNatClampNeg)]) (rest := [.int q90]) (v := .int q93) X (c_RRef_markOf l D ca bd _ r (xs ((v3 + 1)).toNatClampNeg) (xs ((v3 + 2)).toNatClampNeg) q93 hq93) g_law_89 yo_RRef_markOf ⟨Nat.le_of_ble_eq_true rfl, Nat.le_of_ble_eq_true rfl⟩ hl (va_Pr hP) (va_Dr hD) (ci := 6) rfl rfl hP hS hA rfl rfl (Nat.le_of_ble_eq_true rfl) ⟨Nat.le_of_ble_eq_true rfl, Nat.le_of_ble_eq_true rfl⟩ d_law_543 (fun H locs hP hS => ?_)
        refine lv_icmp_eq (tgt := 832) hx hb d_law_546 (by decide) (fun c94 => ?_) (fun c94 => ?_)
        · replace hm := ip c94 hm
          refine lv_iinc (v := (v3 + 4)) (lv' := [(3, .int (v3 + 4)), (0, .ref b), (1, .ref (ad 0)), (2, .ref (bd 0))]) hx hb d_law_832 hl (k := 3) rfl rfl (by decide) rfl (fun ls hl => ?_)
          have hl := lv_sub hl [1, 2, 3, 0] rfl
          replace hl : lv_has ls 4 [(0, .ref b), (1, .ref (ad 0)), (2, .ref (bd 0)), (3, .int (v3 + 4))] := hl
          refine lv_goto (tgt := 28) hx hb d_law_835 (by decide) ?_
          exact ih g r (v3 + 4) hm _ _ hP hD hS ls hl
        · replace hm := ineg c94 hm
          refine lv_iconst (v := 0) hx hb d_law_549 (by decide) ?_
          exact absurd hm (by decide)
      replace hm := ineg c87 hm
      by_cases c95 : ((xs (v3).toNatClampNeg) &&& 31) = 15
      · replace hm := ip c95 hm
        refine lv_tableIn (off := 509) (tgt := 551) hx hb d_law_42 (by rw [c95]; decide) (by rw [c95]; decide) (by rw [c95]; rfl) (by decide) ?_
        refine lv_aload_n hx hb d_law_551 rfl (lv_at hl 1 rfl) ?_
        refine lv_aload_n hx hb d_law_552 rfl (lv_at hl 0 rfl) ?_
        refine lv_iload_n hx hb d_law_553 rfl (lv_at hl 3 rfl) ?_
        refine lv_iconst (v := 1) hx hb d_law_554 (by decide) ?_
        refine lv_iadd hx hb d_law_555 ?_
        obtain ⟨b96, hm⟩ := on hm
        refine va_sld hx hb hX hbl hbA hS b96 d_law_556 ?_
        refine lv_aload_n hx hb d_law_557 rfl (lv_at hl 0 rfl) ?_
        refine lv_iload_n hx hb d_law_558 rfl (lv_at hl 3 rfl) ?_
        refine lv_iconst (v := 2) hx hb d_law_559 (by decide) ?_
        refine lv_iadd hx hb d_law_560 ?_
        obtain ⟨b97, hm⟩ := on hm
        refine va_sld hx hb hX hbl hbA hS b97 d_law_561 ?_
        obtain ⟨q98, hq98, hm⟩ := ob hm
        refine inv_rVg (C := R_Log) (As := [.int (xs ((v3 + 1)).toNatClampNeg), .int (xs ((v3 + 2)).toNatClampNeg)]) (rest := []) (v := .long q98) X (c_Log_partOf l D ca ad _ g (xs ((v3 + 1)).toNatClampNeg) (xs ((v3 + 2)).toNatClampNeg) q98 hq98) g_law_90 yo_Log_partOf ⟨Nat.le_of_ble_eq_true rfl, Nat.le_of_ble_eq_true rfl⟩ hl (va_Pl hP) (va_Dl hD) (ci := 5) rfl rfl hP hS hA rfl rfl (Nat.le_of_ble_eq_true rfl) ⟨Nat.le_of_ble_eq_true rfl, Nat.le_of_ble_eq_true rfl⟩ d_law_562 (fun H locs hP hS => ?_)
        refine lv_aload_n hx hb d_law_565 rfl (lv_at hl 2 rfl) ?_
        refine lv_aload_n hx hb d_law_566 rfl (lv_at hl 0 rfl) ?_
        refine lv_iload_n hx hb d_law_567 rfl (lv_at hl 3 rfl) ?_
        refine lv_iconst (v := 1) hx hb d_law_568 (by decide) ?_
        refine lv_iadd hx hb d_law_569 ?_
        obtain ⟨b99, hm⟩ := on hm
        refine va_sld hx hb hX hbl hbA hS b99 d_law_570 ?_
        refine lv_aload_n hx hb d_law_571 rfl (lv_at hl 0 rfl) ?_
        refine lv_iload_n hx hb d_law_572 rfl (lv_at hl 3 rfl) ?_
        refine lv_iconst (v := 2) hx hb d_law_573 (by decide) ?_
        refine lv_iadd hx hb d_law_574 ?_
        obtain ⟨b100, hm⟩ := on hm
        refine va_sld hx hb hX hbl hbA hS b100 d_law_575 ?_
        obtain ⟨q101, hq101, hm⟩ := ob hm
        refine inv_rVg (C := R_RRef) (As := [.int (xs ((v3 + 1)).toNatClampNeg), .int (xs ((v3 + 2)).toNatClampNeg)]) (rest := [.long q98]) (v := .long q101) X (c_RRef_partOf l D ca bd _ r (xs ((v3 + 1)).toNatClampNeg) (xs ((v3 + 2)).toNatClampNeg) q101 hq101) g_law_94 yo_RRef_partOf ⟨Nat.le_of_ble_eq_true rfl, Nat.le_of_ble_eq_true rfl⟩ hl (va_Pr hP) (va_Dr hD) (ci := 6) rfl rfl hP hS hA rfl rfl (Nat.le_of_ble_eq_true rfl) ⟨Nat.le_of_ble_eq_true rfl, Nat.le_of_ble_eq_true rfl⟩ d_law_576 (fun H locs hP hS => ?_)
        refine W.lcmp hx hb d_law_579 ?_
        refine lv_if_eq (tgt := 832) hx hb d_law_580 (by decide) (fun c102 => ?_) (fun c102 => ?_)
        · replace hm := ip c102 hm
          refine lv_iinc (v := (v3 + 4)) (lv' := [(3, .int (v3 + 4)), (0, .ref b), (1, .ref (ad 0)), (2, .ref (bd 0))]) hx hb d_law_832 hl (k := 3) rfl rfl (by decide) rfl (fun ls hl => ?_)
          have hl := lv_sub hl [1, 2, 3, 0] rfl
          replace hl : lv_has ls 4 [(0, .ref b), (1, .ref (ad 0)), (2, .ref (bd 0)), (3, .int (v3 + 4))] := hl
          refine lv_goto (tgt := 28) hx hb d_law_835 (by decide) ?_
          exact ih g r (v3 + 4) hm _ _ hP hD hS ls hl
        · replace hm := ineg c102 hm
          refine lv_iconst (v := 0) hx hb d_law_583 (by decide) ?_
          exact absurd hm (by decide)
      replace hm := ineg c95 hm
      by_cases c103 : ((xs (v3).toNatClampNeg) &&& 31) = 16
      · replace hm := ip c103 hm
        refine lv_tableIn (off := 543) (tgt := 585) hx hb d_law_42 (by rw [c103]; decide) (by rw [c103]; decide) (by rw [c103]; rfl) (by decide) ?_
        refine lv_aload_n hx hb d_law_585 rfl (lv_at hl 1 rfl) ?_
        refine lv_aload_n hx hb d_law_586 rfl (lv_at hl 0 rfl) ?_
        refine lv_iload_n hx hb d_law_587 rfl (lv_at hl 3 rfl) ?_
        refine lv_iconst (v := 1) hx hb d_law_588 (by decide) ?_
        refine lv_iadd hx hb d_law_589 ?_
        obtain ⟨b104, hm⟩ := on hm
        refine va_sld hx hb hX hbl hbA hS b104 d_law_590 ?_
        refine lv_aload_n hx hb d_law_591 rfl (lv_at hl 0 rfl) ?_
        refine lv_iload_n hx hb d_law_592 rfl (lv_at hl 3 rfl) ?_
        refine lv_iconst (v := 2) hx hb d_law_593 (by decide) ?_
        refine lv_iadd hx hb d_law_594 ?_
        obtain ⟨b105, hm⟩ := on hm
        refine va_sld hx hb hX hbl hbA hS b105 d_law_595 ?_
        obtain ⟨q106, hq106, hm⟩ := ob hm
        refine inv_rVg (C := R_Log) (As := [.int (xs ((v3 + 1)).toNatClampNeg), .int (xs ((v3 + 2)).toNatClampNeg)]) (rest := []) (v := .int q106) X (c_Log_partByte l D ca ad _ g (xs ((v3 + 1)).toNatClampNeg) (xs ((v3 + 2)).toNatClampNeg) q106 hq106) g_law_95 yo_Log_partByte ⟨Nat.le_of_ble_eq_true rfl, Nat.le_of_ble_eq_true rfl⟩ hl (va_Pl hP) (va_Dl hD) (ci := 5) rfl rfl hP hS hA rfl rfl (Nat.le_of_ble_eq_true rfl) ⟨Nat.le_of_ble_eq_true rfl, Nat.le_of_ble_eq_true rfl⟩ d_law_596 (fun H locs hP hS => ?_)
        refine lv_aload_n hx hb d_law_599 rfl (lv_at hl 2 rfl) ?_
        refine lv_aload_n hx hb d_law_600 rfl (lv_at hl 0 rfl) ?_
        refine lv_iload_n hx hb d_law_601 rfl (lv_at hl 3 rfl) ?_
        refine lv_iconst (v := 1) hx hb d_law_602 (by decide) ?_
        refine lv_iadd hx hb d_law_603 ?_
        obtain ⟨b107, hm⟩ := on hm
        refine va_sld hx hb hX hbl hbA hS b107 d_law_604 ?_
        refine lv_aload_n hx hb d_law_605 rfl (lv_at hl 0 rfl) ?_
        refine lv_iload_n hx hb d_law_606 rfl (lv_at hl 3 rfl) ?_
        refine lv_iconst (v := 2) hx hb d_law_607 (by decide) ?_
        refine lv_iadd hx hb d_law_608 ?_
        obtain ⟨b108, hm⟩ := on hm
        refine va_sld hx hb hX hbl hbA hS b108 d_law_609 ?_
        obtain ⟨q109, hq109, hm⟩ := ob hm
        refine inv_rVg (C := R_RRef) (As := [.int (xs ((v3 + 1)).toNatClampNeg), .int (xs ((v3 + 2)).toNatClampNeg)]) (rest := [.int q106]) (v := .int q109) X (c_RRef_partByte l D ca bd _ r (xs ((v3 + 1)).toNatClampNeg) (xs ((v3 + 2)).toNatClampNeg) q109 hq109) g_law_98 yo_RRef_partByte ⟨Nat.le_of_ble_eq_true rfl, Nat.le_of_ble_eq_true rfl⟩ hl (va_Pr hP) (va_Dr hD) (ci := 6) rfl rfl hP hS hA rfl rfl (Nat.le_of_ble_eq_true rfl) ⟨Nat.le_of_ble_eq_true rfl, Nat.le_of_ble_eq_true rfl⟩ d_law_610 (fun H locs hP hS => ?_)
        refine lv_icmp_eq (tgt := 832) hx hb d_law_613 (by decide) (fun c110 => ?_) (fun c110 => ?_)
        · replace hm := ip c110 hm
          refine lv_iinc (v := (v3 + 4)) (lv' := [(3, .int (v3 + 4)), (0, .ref b), (1, .ref (ad 0)), (2, .ref (bd 0))]) hx hb d_law_832 hl (k := 3) rfl rfl (by decide) rfl (fun ls hl => ?_)
          have hl := lv_sub hl [1, 2, 3, 0] rfl
          replace hl : lv_has ls 4 [(0, .ref b), (1, .ref (ad 0)), (2, .ref (bd 0)), (3, .int (v3 + 4))] := hl
          refine lv_goto (tgt := 28) hx hb d_law_835 (by decide) ?_
          exact ih g r (v3 + 4) hm _ _ hP hD hS ls hl
        · replace hm := ineg c110 hm
          refine lv_iconst (v := 0) hx hb d_law_616 (by decide) ?_
          exact absurd hm (by decide)
      replace hm := ineg c103 hm
      by_cases c111 : ((xs (v3).toNatClampNeg) &&& 31) = 17
      · replace hm := ip c111 hm
        refine lv_tableIn (off := 576) (tgt := 618) hx hb d_law_42 (by rw [c111]; decide) (by rw [c111]; decide) (by rw [c111]; rfl) (by decide) ?_
        refine lv_aload_n hx hb d_law_618 rfl (lv_at hl 1 rfl) ?_
        refine lv_aload_n hx hb d_law_619 rfl (lv_at hl 0 rfl) ?_
        refine lv_iload_n hx hb d_law_620 rfl (lv_at hl 3 rfl) ?_
        refine lv_iconst (v := 1) hx hb d_law_621 (by decide) ?_
        refine lv_iadd hx hb d_law_622 ?_
        obtain ⟨b112, hm⟩ := on hm
        refine va_sld hx hb hX hbl hbA hS b112 d_law_623 ?_
        obtain ⟨q113, hq113, hm⟩ := ob hm
        refine inv_rVg (C := R_Log) (As := [.int (xs ((v3 + 1)).toNatClampNeg)]) (rest := []) (v := .int q113) X (c_Log_named l D ca ad _ g (xs ((v3 + 1)).toNatClampNeg) q113 hq113) g_law_99 yo_Log_named ⟨Nat.le_of_ble_eq_true rfl, Nat.le_of_ble_eq_true rfl⟩ hl (va_Pl hP) (va_Dl hD) (ci := 5) rfl rfl hP hS hA rfl rfl (Nat.le_of_ble_eq_true rfl) ⟨Nat.le_of_ble_eq_true rfl, Nat.le_of_ble_eq_true rfl⟩ d_law_624 (fun H locs hP hS => ?_)
        refine lv_aload_n hx hb d_law_627 rfl (lv_at hl 2 rfl) ?_
        refine lv_aload_n hx hb d_law_628 rfl (lv_at hl 0 rfl) ?_
        refine lv_iload_n hx hb d_law_629 rfl (lv_at hl 3 rfl) ?_
        refine lv_iconst (v := 1) hx hb d_law_630 (by decide) ?_
        refine lv_iadd hx hb d_law_631 ?_
        obtain ⟨b114, hm⟩ := on hm
        refine va_sld hx hb hX hbl hbA hS b114 d_law_632 ?_
        obtain ⟨q115, hq115, hm⟩ := ob hm
        refine inv_rVg (C := R_RRef) (As := [.int (xs ((v3 + 1)).toNatClampNeg)]) (rest := [.int q113]) (v := .int q115) X (c_RRef_named l D ca bd _ r (xs ((v3 + 1)).toNatClampNeg) q115 hq115) g_law_102 yo_RRef_named ⟨Nat.le_of_ble_eq_true rfl, Nat.le_of_ble_eq_true rfl⟩ hl (va_Pr hP) (va_Dr hD) (ci := 6) rfl rfl hP hS hA rfl rfl (Nat.le_of_ble_eq_true rfl) ⟨Nat.le_of_ble_eq_true rfl, Nat.le_of_ble_eq_true rfl⟩ d_law_633 (fun H locs hP hS => ?_)
        refine lv_icmp_eq (tgt := 832) hx hb d_law_636 (by decide) (fun c116 => ?_) (fun c116 => ?_)
        · replace hm := ip c116 hm
          refine lv_iinc (v := (v3 + 4)) (lv' := [(3, .int (v3 + 4)), (0, .ref b), (1, .ref (ad 0)), (2, .ref (bd 0))]) hx hb d_law_832 hl (k := 3) rfl rfl (by decide) rfl (fun ls hl => ?_)
          have hl := lv_sub hl [1, 2, 3, 0] rfl
          replace hl : lv_has ls 4 [(0, .ref b), (1, .ref (ad 0)), (2, .ref (bd 0)), (3, .int (v3 + 4))] := hl
          refine lv_goto (tgt := 28) hx hb d_law_835 (by decide) ?_
          exact ih g r (v3 + 4) hm _ _ hP hD hS ls hl
        · replace hm := ineg c116 hm
          refine lv_iconst (v := 0) hx hb d_law_639 (by decide) ?_
          exact absurd hm (by decide)
      replace hm := ineg c111 hm
      by_cases c117 : ((xs (v3).toNatClampNeg) &&& 31) = 18
      · replace hm := ip c117 hm
        refine lv_tableIn (off := 599) (tgt := 641) hx hb d_law_42 (by rw [c117]; decide) (by rw [c117]; decide) (by rw [c117]; rfl) (by decide) ?_
        refine lv_aload_n hx hb d_law_641 rfl (lv_at hl 1 rfl) ?_
        obtain ⟨q118, hq118, hm⟩ := ob hm
        refine inv_rVg (C := R_Log) (As := []) (rest := []) (v := .int q118) X (c_Log_badAt l D ca ad _ g q118 hq118) g_law_103 yo_Log_badAt ⟨Nat.le_of_ble_eq_true rfl, Nat.le_of_ble_eq_true rfl⟩ hl (va_Pl hP) (va_Dl hD) (ci := 5) rfl rfl hP hS hA rfl rfl (Nat.le_of_ble_eq_true rfl) ⟨Nat.le_of_ble_eq_true rfl, Nat.le_of_ble_eq_true rfl⟩ d_law_642 (fun H locs hP hS => ?_)
        refine lv_aload_n hx hb d_law_645 rfl (lv_at hl 2 rfl) ?_
        obtain ⟨q119, hq119, hm⟩ := ob hm
        refine inv_rVg (C := R_RRef) (As := []) (rest := [.int q118]) (v := .int q119) X (c_RRef_badAt l D ca bd _ r q119 hq119) g_law_106 yo_RRef_badAt ⟨Nat.le_of_ble_eq_true rfl, Nat.le_of_ble_eq_true rfl⟩ hl (va_Pr hP) (va_Dr hD) (ci := 6) rfl rfl hP hS hA rfl rfl (Nat.le_of_ble_eq_true rfl) ⟨Nat.le_of_ble_eq_true rfl, Nat.le_of_ble_eq_true rfl⟩ d_law_646 (fun H locs hP hS => ?_)
        refine lv_icmp_eq (tgt := 832) hx hb d_law_649 (by decide) (fun c120 => ?_) (fun c120 => ?_)
        · replace hm := ip c120 hm
          refine lv_iinc (v := (v3 + 4)) (lv' := [(3, .int (v3 + 4)), (0, .ref b), (1, .ref (ad 0)), (2, .ref (bd 0))]) hx hb d_law_832 hl (k := 3) rfl rfl (by decide) rfl (fun ls hl => ?_)
          have hl := lv_sub hl [1, 2, 3, 0] rfl
          replace hl : lv_has ls 4 [(0, .ref b), (1, .ref (ad 0)), (2, .ref (bd 0)), (3, .int (v3 + 4))] := hl
          refine lv_goto (tgt := 28) hx hb d_law_835 (by decide) ?_
          exact ih g r (v3 + 4) hm _ _ hP hD hS ls hl
        · replace hm := ineg c120 hm
          refine lv_iconst (v := 0) hx hb d_law_652 (by decide) ?_
          exact absurd hm (by decide)
      replace hm := ineg c117 hm
      by_cases c121 : ((xs (v3).toNatClampNeg) &&& 31) = 19
      · replace hm := ip c121 hm
        refine lv_tableIn (off := 612) (tgt := 654) hx hb d_law_42 (by rw [c121]; decide) (by rw [c121]; decide) (by rw [c121]; rfl) (by decide) ?_
        refine lv_aload_n hx hb d_law_654 rfl (lv_at hl 1 rfl) ?_
        refine lv_aload_n hx hb d_law_655 rfl (lv_at hl 0 rfl) ?_
        refine lv_iload_n hx hb d_law_656 rfl (lv_at hl 3 rfl) ?_
        refine lv_iconst (v := 1) hx hb d_law_657 (by decide) ?_
        refine lv_iadd hx hb d_law_658 ?_
        obtain ⟨b122, hm⟩ := on hm
        refine va_sld hx hb hX hbl hbA hS b122 d_law_659 ?_
        refine lv_aload_n hx hb d_law_660 rfl (lv_at hl 0 rfl) ?_
        refine lv_iload_n hx hb d_law_661 rfl (lv_at hl 3 rfl) ?_
        refine lv_iconst (v := 2) hx hb d_law_662 (by decide) ?_
        refine lv_iadd hx hb d_law_663 ?_
        obtain ⟨b123, hm⟩ := on hm
        refine va_sld hx hb hX hbl hbA hS b123 d_law_664 ?_
        refine lv_aload_n hx hb d_law_665 rfl (lv_at hl 0 rfl) ?_
        refine lv_iload_n hx hb d_law_666 rfl (lv_at hl 3 rfl) ?_
        refine lv_iconst (v := 3) hx hb d_law_667 (by decide) ?_
        refine lv_iadd hx hb d_law_668 ?_
        obtain ⟨b124, hm⟩ := on hm
        refine va_sld hx hb hX hbl hbA hS b124 d_law_669 ?_
        obtain ⟨q125, hq125, hm⟩ := ob hm
        refine inv_mVg (C := R_Log) (As := [.int (xs ((v3 + 1)).toNatClampNeg), .int (xs ((v3 + 2)).toNatClampNeg), .int (xs ((v3 + 3)).toNatClampNeg)]) (rest := []) (v := .int q125.1) (ws' := wl_Log ca ad q125.2 ++ wl_Ref ca bd r) X (c_Log_poke l D ca ad _ g (xs ((v3 + 1)).toNatClampNeg) (xs ((v3 + 2)).toNatClampNeg) (xs ((v3 + 3)).toNatClampNeg) q125 hq125) g_law_107 yo_Log_poke ⟨Nat.le_of_ble_eq_true rfl, Nat.le_of_ble_eq_true rfl⟩ hl (va_Pl hP) (va_Dl hD) (jn_L hP hD rfl) (ci := 5) rfl rfl hS hA rfl rfl (Nat.le_of_ble_eq_true rfl) ⟨Nat.le_of_ble_eq_true rfl, Nat.le_of_ble_eq_true rfl⟩ d_law_670 (fun H locs hP hD hS => ?_)
        refine lv_aload_n hx hb d_law_673 rfl (lv_at hl 2 rfl) ?_
        refine lv_aload_n hx hb d_law_674 rfl (lv_at hl 0 rfl) ?_
        refine lv_iload_n hx hb d_law_675 rfl (lv_at hl 3 rfl) ?_
        refine lv_iconst (v := 1) hx hb d_law_676 (by decide) ?_
        refine lv_iadd hx hb d_law_677 ?_
        obtain ⟨b126, hm⟩ := on hm
        refine va_sld hx hb hX hbl hbA hS b126 d_law_678 ?_
        refine lv_aload_n hx hb d_law_679 rfl (lv_at hl 0 rfl) ?_
        refine lv_iload_n hx hb d_law_680 rfl (lv_at hl 3 rfl) ?_
        refine lv_iconst (v := 2) hx hb d_law_681 (by decide) ?_
        refine lv_iadd hx hb d_law_682 ?_
        obtain ⟨b127, hm⟩ := on hm
        refine va_sld hx hb hX hbl hbA hS b127 d_law_683 ?_
        refine lv_aload_n hx hb d_law_684 rfl (lv_at hl 0 rfl) ?_
        refine lv_iload_n hx hb d_law_685 rfl (lv_at hl 3 rfl) ?_
        refine lv_iconst (v := 3) hx hb d_law_686 (by decide) ?_
        refine lv_iadd hx hb d_law_687 ?_
        obtain ⟨b128, hm⟩ := on hm
        refine va_sld hx hb hX hbl hbA hS b128 d_law_688 ?_
        obtain ⟨q129, hq129, hm⟩ := ob hm
        refine inv_mVg (C := R_RRef) (As := [.int (xs ((v3 + 1)).toNatClampNeg), .int (xs ((v3 + 2)).toNatClampNeg), .int (xs ((v3 + 3)).toNatClampNeg)]) (rest := [.int q125.1]) (v := .int q129.1) (ws' := wl_Log ca ad q125.2 ++ wl_Ref ca bd q129.2) X (c_RRef_poke l D ca bd _ r (xs ((v3 + 1)).toNatClampNeg) (xs ((v3 + 2)).toNatClampNeg) (xs ((v3 + 3)).toNatClampNeg) q129 hq129) g_law_111 yo_RRef_poke ⟨Nat.le_of_ble_eq_true rfl, Nat.le_of_ble_eq_true rfl⟩ hl (va_Pr hP) (va_Dr hD) (jn_R hP hD rfl) (ci := 6) rfl rfl hS hA rfl rfl (Nat.le_of_ble_eq_true rfl) ⟨Nat.le_of_ble_eq_true rfl, Nat.le_of_ble_eq_true rfl⟩ d_law_689 (fun H locs hP hD hS => ?_)
        refine lv_icmp_eq (tgt := 832) hx hb d_law_692 (by decide) (fun c130 => ?_) (fun c130 => ?_)
        · replace hm := ip c130 hm
          refine lv_iinc (v := (v3 + 4)) (lv' := [(3, .int (v3 + 4)), (0, .ref b), (1, .ref (ad 0)), (2, .ref (bd 0))]) hx hb d_law_832 hl (k := 3) rfl rfl (by decide) rfl (fun ls hl => ?_)
          have hl := lv_sub hl [1, 2, 3, 0] rfl
          replace hl : lv_has ls 4 [(0, .ref b), (1, .ref (ad 0)), (2, .ref (bd 0)), (3, .int (v3 + 4))] := hl
          refine lv_goto (tgt := 28) hx hb d_law_835 (by decide) ?_
          exact ih q125.2 q129.2 (v3 + 4) hm _ _ hP hD hS ls hl
        · replace hm := ineg c130 hm
          refine lv_iconst (v := 0) hx hb d_law_695 (by decide) ?_
          exact absurd hm (by decide)
      replace hm := ineg c121 hm
      by_cases c131 : ((xs (v3).toNatClampNeg) &&& 31) = 20
      · replace hm := ip c131 hm
        refine lv_tableIn (off := 655) (tgt := 697) hx hb d_law_42 (by rw [c131]; decide) (by rw [c131]; decide) (by rw [c131]; rfl) (by decide) ?_
        refine lv_aload_n hx hb d_law_697 rfl (lv_at hl 1 rfl) ?_
        refine lv_aload_n hx hb d_law_698 rfl (lv_at hl 0 rfl) ?_
        refine lv_iload_n hx hb d_law_699 rfl (lv_at hl 3 rfl) ?_
        refine lv_iconst (v := 1) hx hb d_law_700 (by decide) ?_
        refine lv_iadd hx hb d_law_701 ?_
        obtain ⟨b132, hm⟩ := on hm
        refine va_sld hx hb hX hbl hbA hS b132 d_law_702 ?_
        refine lv_aload_n hx hb d_law_703 rfl (lv_at hl 0 rfl) ?_
        refine lv_iload_n hx hb d_law_704 rfl (lv_at hl 3 rfl) ?_
        refine lv_iconst (v := 2) hx hb d_law_705 (by decide) ?_
        refine lv_iadd hx hb d_law_706 ?_
        obtain ⟨b133, hm⟩ := on hm
        refine va_sld hx hb hX hbl hbA hS b133 d_law_707 ?_
        obtain ⟨q134, hq134, hm⟩ := ob hm
        refine inv_rVg (C := R_Log) (As := [.int (xs ((v3 + 1)).toNatClampNeg), .int (xs ((v3 + 2)).toNatClampNeg)]) (rest := []) (v := .int q134) X (c_Log_byteAt l D ca ad _ g (xs ((v3 + 1)).toNatClampNeg) (xs ((v3 + 2)).toNatClampNeg) q134 hq134) g_law_112 yo_Log_byteAt ⟨Nat.le_of_ble_eq_true rfl, Nat.le_of_ble_eq_true rfl⟩ hl (va_Pl hP) (va_Dl hD) (ci := 5) rfl rfl hP hS hA rfl rfl (Nat.le_of_ble_eq_true rfl) ⟨Nat.le_of_ble_eq_true rfl, Nat.le_of_ble_eq_true rfl⟩ d_law_708 (fun H locs hP hS => ?_)
        refine lv_aload_n hx hb d_law_711 rfl (lv_at hl 2 rfl) ?_
        refine lv_aload_n hx hb d_law_712 rfl (lv_at hl 0 rfl) ?_
        refine lv_iload_n hx hb d_law_713 rfl (lv_at hl 3 rfl) ?_
        refine lv_iconst (v := 1) hx hb d_law_714 (by decide) ?_
        refine lv_iadd hx hb d_law_715 ?_
        obtain ⟨b135, hm⟩ := on hm
        refine va_sld hx hb hX hbl hbA hS b135 d_law_716 ?_
        refine lv_aload_n hx hb d_law_717 rfl (lv_at hl 0 rfl) ?_
        refine lv_iload_n hx hb d_law_718 rfl (lv_at hl 3 rfl) ?_
        refine lv_iconst (v := 2) hx hb d_law_719 (by decide) ?_
        refine lv_iadd hx hb d_law_720 ?_
        obtain ⟨b136, hm⟩ := on hm
        refine va_sld hx hb hX hbl hbA hS b136 d_law_721 ?_
        obtain ⟨q137, hq137, hm⟩ := ob hm
        refine inv_rVg (C := R_RRef) (As := [.int (xs ((v3 + 1)).toNatClampNeg), .int (xs ((v3 + 2)).toNatClampNeg)]) (rest := [.int q134]) (v := .int q137) X (c_RRef_byteAt l D ca bd _ r (xs ((v3 + 1)).toNatClampNeg) (xs ((v3 + 2)).toNatClampNeg) q137 hq137) g_law_115 yo_RRef_byteAt ⟨Nat.le_of_ble_eq_true rfl, Nat.le_of_ble_eq_true rfl⟩ hl (va_Pr hP) (va_Dr hD) (ci := 6) rfl rfl hP hS hA rfl rfl (Nat.le_of_ble_eq_true rfl) ⟨Nat.le_of_ble_eq_true rfl, Nat.le_of_ble_eq_true rfl⟩ d_law_722 (fun H locs hP hS => ?_)
        refine lv_icmp_eq (tgt := 832) hx hb d_law_725 (by decide) (fun c138 => ?_) (fun c138 => ?_)
        · replace hm := ip c138 hm
          refine lv_iinc (v := (v3 + 4)) (lv' := [(3, .int (v3 + 4)), (0, .ref b), (1, .ref (ad 0)), (2, .ref (bd 0))]) hx hb d_law_832 hl (k := 3) rfl rfl (by decide) rfl (fun ls hl => ?_)
          have hl := lv_sub hl [1, 2, 3, 0] rfl
          replace hl : lv_has ls 4 [(0, .ref b), (1, .ref (ad 0)), (2, .ref (bd 0)), (3, .int (v3 + 4))] := hl
          refine lv_goto (tgt := 28) hx hb d_law_835 (by decide) ?_
          exact ih g r (v3 + 4) hm _ _ hP hD hS ls hl
        · replace hm := ineg c138 hm
          refine lv_iconst (v := 0) hx hb d_law_728 (by decide) ?_
          exact absurd hm (by decide)
      replace hm := ineg c131 hm
      by_cases c139 : ((xs (v3).toNatClampNeg) &&& 31) = 21
      · replace hm := ip c139 hm
        refine lv_tableIn (off := 688) (tgt := 730) hx hb d_law_42 (by rw [c139]; decide) (by rw [c139]; decide) (by rw [c139]; rfl) (by decide) ?_
        refine lv_aload_n hx hb d_law_730 rfl (lv_at hl 1 rfl) ?_
        refine lv_aload_n hx hb d_law_731 rfl (lv_at hl 0 rfl) ?_
        refine lv_iload_n hx hb d_law_732 rfl (lv_at hl 3 rfl) ?_
        refine lv_iconst (v := 1) hx hb d_law_733 (by decide) ?_
        refine lv_iadd hx hb d_law_734 ?_
        obtain ⟨b140, hm⟩ := on hm
        refine va_sld hx hb hX hbl hbA hS b140 d_law_735 ?_
        refine lv_aload_n hx hb d_law_736 rfl (lv_at hl 0 rfl) ?_
        refine lv_iload_n hx hb d_law_737 rfl (lv_at hl 3 rfl) ?_
        refine lv_iconst (v := 2) hx hb d_law_738 (by decide) ?_
        refine lv_iadd hx hb d_law_739 ?_
        obtain ⟨b141, hm⟩ := on hm
        refine va_sld hx hb hX hbl hbA hS b141 d_law_740 ?_
        obtain ⟨q142, hq142, hm⟩ := ob hm
        refine inv_mVg (C := R_Log) (As := [.int (xs ((v3 + 1)).toNatClampNeg), .int (xs ((v3 + 2)).toNatClampNeg)]) (rest := []) (v := .int q142.1) (ws' := wl_Log ca ad q142.2 ++ wl_Ref ca bd r) X (c_Log_out l D ca ad _ g (xs ((v3 + 1)).toNatClampNeg) (xs ((v3 + 2)).toNatClampNeg) q142 hq142) g_law_116 yo_Log_out ⟨Nat.le_of_ble_eq_true rfl, Nat.le_of_ble_eq_true rfl⟩ hl (va_Pl hP) (va_Dl hD) (jn_L hP hD rfl) (ci := 5) rfl rfl hS hA rfl rfl (Nat.le_of_ble_eq_true rfl) ⟨Nat.le_of_ble_eq_true rfl, Nat.le_of_ble_eq_true rfl⟩ d_law_741 (fun H locs hP hD hS => ?_)
        refine lv_aload_n hx hb d_law_744 rfl (lv_at hl 2 rfl) ?_
        refine lv_aload_n hx hb d_law_745 rfl (lv_at hl 0 rfl) ?_
        refine lv_iload_n hx hb d_law_746 rfl (lv_at hl 3 rfl) ?_
        refine lv_iconst (v := 1) hx hb d_law_747 (by decide) ?_
        refine lv_iadd hx hb d_law_748 ?_
        obtain ⟨b143, hm⟩ := on hm
        refine va_sld hx hb hX hbl hbA hS b143 d_law_749 ?_
        refine lv_aload_n hx hb d_law_750 rfl (lv_at hl 0 rfl) ?_
        refine lv_iload_n hx hb d_law_751 rfl (lv_at hl 3 rfl) ?_
        refine lv_iconst (v := 2) hx hb d_law_752 (by decide) ?_
        refine lv_iadd hx hb d_law_753 ?_
        obtain ⟨b144, hm⟩ := on hm
        refine va_sld hx hb hX hbl hbA hS b144 d_law_754 ?_
        obtain ⟨q145, hq145, hm⟩ := ob hm
        refine inv_mVg (C := R_RRef) (As := [.int (xs ((v3 + 1)).toNatClampNeg), .int (xs ((v3 + 2)).toNatClampNeg)]) (rest := [.int q142.1]) (v := .int q145.1) (ws' := wl_Log ca ad q142.2 ++ wl_Ref ca bd q145.2) X (c_RRef_out l D ca bd _ r (xs ((v3 + 1)).toNatClampNeg) (xs ((v3 + 2)).toNatClampNeg) q145 hq145) g_law_119 yo_RRef_out ⟨Nat.le_of_ble_eq_true rfl, Nat.le_of_ble_eq_true rfl⟩ hl (va_Pr hP) (va_Dr hD) (jn_R hP hD rfl) (ci := 6) rfl rfl hS hA rfl rfl (Nat.le_of_ble_eq_true rfl) ⟨Nat.le_of_ble_eq_true rfl, Nat.le_of_ble_eq_true rfl⟩ d_law_755 (fun H locs hP hD hS => ?_)
        refine lv_icmp_eq (tgt := 832) hx hb d_law_758 (by decide) (fun c146 => ?_) (fun c146 => ?_)
        · replace hm := ip c146 hm
          refine lv_iinc (v := (v3 + 4)) (lv' := [(3, .int (v3 + 4)), (0, .ref b), (1, .ref (ad 0)), (2, .ref (bd 0))]) hx hb d_law_832 hl (k := 3) rfl rfl (by decide) rfl (fun ls hl => ?_)
          have hl := lv_sub hl [1, 2, 3, 0] rfl
          replace hl : lv_has ls 4 [(0, .ref b), (1, .ref (ad 0)), (2, .ref (bd 0)), (3, .int (v3 + 4))] := hl
          refine lv_goto (tgt := 28) hx hb d_law_835 (by decide) ?_
          exact ih q142.2 q145.2 (v3 + 4) hm _ _ hP hD hS ls hl
        · replace hm := ineg c146 hm
          refine lv_iconst (v := 0) hx hb d_law_761 (by decide) ?_
          exact absurd hm (by decide)
      replace hm := ineg c139 hm
      by_cases c147 : ((xs (v3).toNatClampNeg) &&& 31) = 22
      · replace hm := ip c147 hm
        refine lv_tableIn (off := 721) (tgt := 763) hx hb d_law_42 (by rw [c147]; decide) (by rw [c147]; decide) (by rw [c147]; rfl) (by decide) ?_
        refine lv_aload_n hx hb d_law_763 rfl (lv_at hl 1 rfl) ?_
        obtain ⟨q148, hq148, hm⟩ := ob hm
        refine inv_mVg (C := R_Log) (As := []) (rest := []) (v := .int q148.1) (ws' := wl_Log ca ad q148.2 ++ wl_Ref ca bd r) X (c_Log_in_ l D ca ad _ g q148 hq148) g_law_120 yo_Log_in_ ⟨Nat.le_of_ble_eq_true rfl, Nat.le_of_ble_eq_true rfl⟩ hl (va_Pl hP) (va_Dl hD) (jn_L hP hD rfl) (ci := 5) rfl rfl hS hA rfl rfl (Nat.le_of_ble_eq_true rfl) ⟨Nat.le_of_ble_eq_true rfl, Nat.le_of_ble_eq_true rfl⟩ d_law_764 (fun H locs hP hD hS => ?_)
        refine lv_aload_n hx hb d_law_767 rfl (lv_at hl 2 rfl) ?_
        obtain ⟨q149, hq149, hm⟩ := ob hm
        refine inv_mVg (C := R_RRef) (As := []) (rest := [.int q148.1]) (v := .int q149.1) (ws' := wl_Log ca ad q148.2 ++ wl_Ref ca bd q149.2) X (c_RRef_in_ l D ca bd _ r q149 hq149) g_law_123 yo_RRef_in_ ⟨Nat.le_of_ble_eq_true rfl, Nat.le_of_ble_eq_true rfl⟩ hl (va_Pr hP) (va_Dr hD) (jn_R hP hD rfl) (ci := 6) rfl rfl hS hA rfl rfl (Nat.le_of_ble_eq_true rfl) ⟨Nat.le_of_ble_eq_true rfl, Nat.le_of_ble_eq_true rfl⟩ d_law_768 (fun H locs hP hD hS => ?_)
        refine lv_icmp_eq (tgt := 832) hx hb d_law_771 (by decide) (fun c150 => ?_) (fun c150 => ?_)
        · replace hm := ip c150 hm
          refine lv_iinc (v := (v3 + 4)) (lv' := [(3, .int (v3 + 4)), (0, .ref b), (1, .ref (ad 0)), (2, .ref (bd 0))]) hx hb d_law_832 hl (k := 3) rfl rfl (by decide) rfl (fun ls hl => ?_)
          have hl := lv_sub hl [1, 2, 3, 0] rfl
          replace hl : lv_has ls 4 [(0, .ref b), (1, .ref (ad 0)), (2, .ref (bd 0)), (3, .int (v3 + 4))] := hl
          refine lv_goto (tgt := 28) hx hb d_law_835 (by decide) ?_
          exact ih q148.2 q149.2 (v3 + 4) hm _ _ hP hD hS ls hl
        · replace hm := ineg c150 hm
          refine lv_iconst (v := 0) hx hb d_law_774 (by decide) ?_
          exact absurd hm (by decide)
      replace hm := ineg c147 hm
      by_cases c151 : ((xs (v3).toNatClampNeg) &&& 31) = 23
      · replace hm := ip c151 hm
        refine lv_tableIn (off := 734) (tgt := 776) hx hb d_law_42 (by rw [c151]; decide) (by rw [c151]; decide) (by rw [c151]; rfl) (by decide) ?_
        refine lv_aload_n hx hb d_law_776 rfl (lv_at hl 1 rfl) ?_
        refine lv_aload_n hx hb d_law_777 rfl (lv_at hl 0 rfl) ?_
        refine lv_iload_n hx hb d_law_778 rfl (lv_at hl 3 rfl) ?_
        refine lv_iconst (v := 1) hx hb d_law_779 (by decide) ?_
        refine lv_iadd hx hb d_law_780 ?_
        obtain ⟨b152, hm⟩ := on hm
        refine va_sld hx hb hX hbl hbA hS b152 d_law_781 ?_
        refine lv_aload_n hx hb d_law_782 rfl (lv_at hl 0 rfl) ?_
        refine lv_iload_n hx hb d_law_783 rfl (lv_at hl 3 rfl) ?_
        refine lv_iconst (v := 2) hx hb d_law_784 (by decide) ?_
        refine lv_iadd hx hb d_law_785 ?_
        obtain ⟨b153, hm⟩ := on hm
        refine va_sld hx hb hX hbl hbA hS b153 d_law_786 ?_
        obtain ⟨q154, hq154, hm⟩ := ob hm
        refine inv_mVg (C := R_Log) (As := [.int (xs ((v3 + 1)).toNatClampNeg), .int (xs ((v3 + 2)).toNatClampNeg)]) (rest := []) (v := .int q154.1) (ws' := wl_Log ca ad q154.2 ++ wl_Ref ca bd r) X (c_Log_equal l D ca ad _ g (xs ((v3 + 1)).toNatClampNeg) (xs ((v3 + 2)).toNatClampNeg) q154 hq154) g_law_124 yo_Log_equal ⟨Nat.le_of_ble_eq_true rfl, Nat.le_of_ble_eq_true rfl⟩ hl (va_Pl hP) (va_Dl hD) (jn_L hP hD rfl) (ci := 5) rfl rfl hS hA rfl rfl (Nat.le_of_ble_eq_true rfl) ⟨Nat.le_of_ble_eq_true rfl, Nat.le_of_ble_eq_true rfl⟩ d_law_787 (fun H locs hP hD hS => ?_)
        refine lv_aload_n hx hb d_law_790 rfl (lv_at hl 2 rfl) ?_
        refine lv_aload_n hx hb d_law_791 rfl (lv_at hl 0 rfl) ?_
        refine lv_iload_n hx hb d_law_792 rfl (lv_at hl 3 rfl) ?_
        refine lv_iconst (v := 1) hx hb d_law_793 (by decide) ?_
        refine lv_iadd hx hb d_law_794 ?_
        obtain ⟨b155, hm⟩ := on hm
        refine va_sld hx hb hX hbl hbA hS b155 d_law_795 ?_
        refine lv_aload_n hx hb d_law_796 rfl (lv_at hl 0 rfl) ?_
        refine lv_iload_n hx hb d_law_797 rfl (lv_at hl 3 rfl) ?_
        refine lv_iconst (v := 2) hx hb d_law_798 (by decide) ?_
        refine lv_iadd hx hb d_law_799 ?_
        obtain ⟨b156, hm⟩ := on hm
        refine va_sld hx hb hX hbl hbA hS b156 d_law_800 ?_
        obtain ⟨q157, hq157, hm⟩ := ob hm
        refine inv_rVg (C := R_RRef) (As := [.int (xs ((v3 + 1)).toNatClampNeg), .int (xs ((v3 + 2)).toNatClampNeg)]) (rest := [.int q154.1]) (v := .int q157) X (c_RRef_equal l D ca bd _ r (xs ((v3 + 1)).toNatClampNeg) (xs ((v3 + 2)).toNatClampNeg) q157 hq157) g_law_127 yo_RRef_equal ⟨Nat.le_of_ble_eq_true rfl, Nat.le_of_ble_eq_true rfl⟩ hl (va_Pr hP) (va_Dr hD) (ci := 6) rfl rfl hP hS hA rfl rfl (Nat.le_of_ble_eq_true rfl) ⟨Nat.le_of_ble_eq_true rfl, Nat.le_of_ble_eq_true rfl⟩ d_law_801 (fun H locs hP hS => ?_)
        refine lv_icmp_eq (tgt := 832) hx hb d_law_804 (by decide) (fun c158 => ?_) (fun c158 => ?_)
        · replace hm := ip c158 hm
          refine lv_iinc (v := (v3 + 4)) (lv' := [(3, .int (v3 + 4)), (0, .ref b), (1, .ref (ad 0)), (2, .ref (bd 0))]) hx hb d_law_832 hl (k := 3) rfl rfl (by decide) rfl (fun ls hl => ?_)
          have hl := lv_sub hl [1, 2, 3, 0] rfl
          replace hl : lv_has ls 4 [(0, .ref b), (1, .ref (ad 0)), (2, .ref (bd 0)), (3, .int (v3 + 4))] := hl
          refine lv_goto (tgt := 28) hx hb d_law_835 (by decide) ?_
          exact ih q154.2 r (v3 + 4) hm _ _ hP hD hS ls hl
        · replace hm := ineg c158 hm
          refine lv_iconst (v := 0) hx hb d_law_807 (by decide) ?_
          exact absurd hm (by decide)
      replace hm := ineg c151 hm
      by_cases c159 : ((xs (v3).toNatClampNeg) &&& 31) = 24
      · replace hm := ip c159 hm
        refine lv_tableIn (off := 767) (tgt := 809) hx hb d_law_42 (by rw [c159]; decide) (by rw [c159]; decide) (by rw [c159]; rfl) (by decide) ?_
        refine lv_aload_n hx hb d_law_809 rfl (lv_at hl 1 rfl) ?_
        refine lv_aload_n hx hb d_law_810 rfl (lv_at hl 0 rfl) ?_
        refine lv_iload_n hx hb d_law_811 rfl (lv_at hl 3 rfl) ?_
        refine lv_iconst (v := 1) hx hb d_law_812 (by decide) ?_
        refine lv_iadd hx hb d_law_813 ?_
        obtain ⟨b160, hm⟩ := on hm
        refine va_sld hx hb hX hbl hbA hS b160 d_law_814 ?_
        obtain ⟨q161, hq161, hm⟩ := ob hm
        refine inv_rVg (C := R_Log) (As := [.int (xs ((v3 + 1)).toNatClampNeg)]) (rest := []) (v := .int q161) X (c_Log_told l D ca ad _ g (xs ((v3 + 1)).toNatClampNeg) q161 hq161) g_law_128 yo_Log_told ⟨Nat.le_of_ble_eq_true rfl, Nat.le_of_ble_eq_true rfl⟩ hl (va_Pl hP) (va_Dl hD) (ci := 5) rfl rfl hP hS hA rfl rfl (Nat.le_of_ble_eq_true rfl) ⟨Nat.le_of_ble_eq_true rfl, Nat.le_of_ble_eq_true rfl⟩ d_law_815 (fun H locs hP hS => ?_)
        refine lv_aload_n hx hb d_law_818 rfl (lv_at hl 2 rfl) ?_
        refine lv_aload_n hx hb d_law_819 rfl (lv_at hl 0 rfl) ?_
        refine lv_iload_n hx hb d_law_820 rfl (lv_at hl 3 rfl) ?_
        refine lv_iconst (v := 1) hx hb d_law_821 (by decide) ?_
        refine lv_iadd hx hb d_law_822 ?_
        obtain ⟨b162, hm⟩ := on hm
        refine va_sld hx hb hX hbl hbA hS b162 d_law_823 ?_
        obtain ⟨q163, hq163, hm⟩ := ob hm
        refine inv_mVg (C := R_RRef) (As := [.int (xs ((v3 + 1)).toNatClampNeg)]) (rest := [.int q161]) (v := .int q163.1) (ws' := wl_Log ca ad g ++ wl_Ref ca bd q163.2) X (c_RRef_told l D ca bd _ r (xs ((v3 + 1)).toNatClampNeg) q163 hq163) g_law_131 yo_RRef_told ⟨Nat.le_of_ble_eq_true rfl, Nat.le_of_ble_eq_true rfl⟩ hl (va_Pr hP) (va_Dr hD) (jn_R hP hD rfl) (ci := 6) rfl rfl hS hA rfl rfl (Nat.le_of_ble_eq_true rfl) ⟨Nat.le_of_ble_eq_true rfl, Nat.le_of_ble_eq_true rfl⟩ d_law_824 (fun H locs hP hD hS => ?_)
        refine lv_icmp_eq (tgt := 832) hx hb d_law_827 (by decide) (fun c164 => ?_) (fun c164 => ?_)
        · replace hm := ip c164 hm
          refine lv_iinc (v := (v3 + 4)) (lv' := [(3, .int (v3 + 4)), (0, .ref b), (1, .ref (ad 0)), (2, .ref (bd 0))]) hx hb d_law_832 hl (k := 3) rfl rfl (by decide) rfl (fun ls hl => ?_)
          have hl := lv_sub hl [1, 2, 3, 0] rfl
          replace hl : lv_has ls 4 [(0, .ref b), (1, .ref (ad 0)), (2, .ref (bd 0)), (3, .int (v3 + 4))] := hl
          refine lv_goto (tgt := 28) hx hb d_law_835 (by decide) ?_
          exact ih g q163.2 (v3 + 4) hm _ _ hP hD hS ls hl
        · replace hm := ineg c164 hm
          refine lv_iconst (v := 0) hx hb d_law_830 (by decide) ?_
          exact absurd hm (by decide)
      replace hm := ineg c159 hm
      refine lv_tableOut (tgt := 832) hx hb d_law_42 (by have c3n := lv_neT (a := 0) c3 (by decide); have c13n := lv_neT (a := 1) c13 (by decide); have c17n := lv_neT (a := 2) c17 (by decide); have c27n := lv_neT (a := 3) c27 (by decide); have c33n := lv_neT (a := 4) c33 (by decide); have c39n := lv_neT (a := 5) c39 (by decide); have c45n := lv_neT (a := 6) c45 (by decide); have c51n := lv_neT (a := 7) c51 (by decide); have c57n := lv_neT (a := 8) c57 (by decide); have c63n := lv_neT (a := 9) c63 (by decide); have c67n := lv_neT (a := 10) c67 (by decide); have c71n := lv_neT (a := 11) c71 (by decide); have c75n := lv_neT (a := 12) c75 (by decide); have c81n := lv_neT (a := 13) c81 (by decide); have c87n := lv_neT (a := 14) c87 (by decide); have c95n := lv_neT (a := 15) c95 (by decide); have c103n := lv_neT (a := 16) c103 (by decide); have c111n := lv_neT (a := 17) c111 (by decide); have c117n := lv_neT (a := 18) c117 (by decide); have c121n := lv_neT (a := 19) c121 (by decide); have c131n := lv_neT (a := 20) c131 (by decide); have c139n := lv_neT (a := 21) c139 (by decide); have c147n := lv_neT (a := 22) c147 (by decide); have c151n := lv_neT (a := 23) c151 (by decide); have c159n := lv_neT (a := 24) c159 (by decide); omega) (by decide) ?_
      refine lv_iinc (v := (v3 + 4)) (lv' := [(3, .int (v3 + 4)), (0, .ref b), (1, .ref (ad 0)), (2, .ref (bd 0))]) hx hb d_law_832 hl (k := 3) rfl rfl (by decide) rfl (fun ls hl => ?_)
      have hl := lv_sub hl [1, 2, 3, 0] rfl
      replace hl : lv_has ls 4 [(0, .ref b), (1, .ref (ad 0)), (2, .ref (bd 0)), (3, .int (v3 + 4))] := hl
      refine lv_goto (tgt := 28) hx hb d_law_835 (by decide) ?_
      exact ih g r (v3 + 4) hm _ _ hP hD hS ls hl
