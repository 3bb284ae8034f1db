set_option maxHeartbeats 4000000 in
theorem c_cell (l : Launch) (b L sz : Nat) (xs : Nat → Int32) : Met l y_Law_cell (cws y_Law_cell b_Law_cell 2 (some .int)) (RM 0 0) (PreX b L xs [.ref b, .int 0] sz) (QRr (.int (if Int32.ofNat L ≤ 0 then 0 else xs 0)) (va_A [] sz)) 0 0 (va_A [] sz) := by
  refine Met.ofW (cc := b_Law_cell) (maxL := 2) (ret := some .int) (by decide) rfl ?_
  intro p e s m args below meth c s₁ B hml hv
  obtain ⟨rfl, hsz, hX, hbl⟩ := hv
  subst hsz
  have hx := B.exec
  have hb := B.bytes
  have hbA : ¬ va_A [] s.heap.size b := by
    rintro (⟨k, e, h⟩ | z)
    · simp at h
    · omega
  have hS : va_S (va_A [] s.heap.size) s.heap s.heap [] := va_S.rf
  rw [lg_entry_eq]
  have hl := lv_entry ([.ref b, .int 0]) (n := 2) (Nat.le_of_ble_eq_true rfl)
  generalize (lg_sl ([.ref b, .int 0]) ++ List.replicate (2 - (lg_sl ([.ref b, .int 0])).length) Slot.unset).toArray = ls at hl ⊢
  have hl : lv_has ls 2 [(0, .ref b), (1, .int 0)] := hl
  refine lv_iload_n hx hb d_cell_0 rfl (lv_at hl 1 rfl) ?_
  refine lv_aload_n hx hb d_cell_1 rfl (lv_at hl 0 rfl) ?_
  refine va_slen hx hb hX hbl hbA hS d_cell_2 ?_
  refine lv_icmp_ge (tgt := 12) hx hb d_cell_3 (by decide) (fun c1 => ?_) (fun c1 => ?_)
  · rw [if_pos c1]
    refine lv_iconst (v := 0) hx hb d_cell_12 (by decide) ?_
    exact W.iret hx hb B.returns (fun _ ht _ => And.intro rfl (hS.F ht)) hS.2.2 d_cell_13 B.notSynchronized
  · rw [if_neg c1]
    have hin : vp_in 0 L := by
      rintro (h | h)
      · exact absurd h (by decide)
      · have h0 : L = 0 := Nat.le_zero.mp (show L ≤ 0 from h)
        subst h0
        exact c1 (by decide)
    refine lv_aload_n hx hb d_cell_6 rfl (lv_at hl 0 rfl) ?_
    refine lv_iload_n hx hb d_cell_7 rfl (lv_at hl 1 rfl) ?_
    refine va_sld hx hb hX hbl hbA hS hin d_cell_8 ?_
    refine lv_goto (tgt := 13) hx hb d_cell_9 (by decide) ?_
    exact W.iret hx hb B.returns (fun _ ht _ => And.intro rfl (hS.F ht)) hS.2.2 d_cell_13 B.notSynchronized
noncomputable def lawL (xs : Nat → Int32) (L : Nat) : Nat → St_Log → St_Ref → Int32 → Option Int32
  | 0, _, _, _ => none
  | n + 1, g, r, v3 => if ((Int32.ofNat L) - 4) < v3 then
    (some 1)
    else
    (if v3 < 0 ∨ L ≤ (v3).toNatClampNeg then none else if ((xs (v3).toNatClampNeg) &&& 31) = 0 then
      (if (v3 + 1) < 0 ∨ L ≤ ((v3 + 1)).toNatClampNeg then none else if (v3 + 2) < 0 ∨ L ≤ ((v3 + 2)).toNatClampNeg then none else if (v3 + 3) < 0 ∨ L ≤ ((v3 + 3)).toNatClampNeg then none else (m_Log_feed g ((jlshl (((xs ((v3 + 1)).toNatClampNeg)).toInt64) 32) ||| ((((xs ((v3 + 2)).toNatClampNeg)).toInt64) &&& 4294967295)) (xs ((v3 + 3)).toNatClampNeg)).bind fun q7 => if (v3 + 1) < 0 ∨ L ≤ ((v3 + 1)).toNatClampNeg then none else if (v3 + 2) < 0 ∨ L ≤ ((v3 + 2)).toNatClampNeg then none else if (v3 + 3) < 0 ∨ L ≤ ((v3 + 3)).toNatClampNeg then none else (m_RRef_feed r ((jlshl (((xs ((v3 + 1)).toNatClampNeg)).toInt64) 32) ||| ((((xs ((v3 + 2)).toNatClampNeg)).toInt64) &&& 4294967295)) (xs ((v3 + 3)).toNatClampNeg)).bind fun q11 => lawL xs L n q7.2 q11.2 (v3 + 4))
      else if ((xs (v3).toNatClampNeg) &&& 31) = 1 then
      ((m_Log_wipe g).bind fun q13 => (m_RRef_wipe r).bind fun q14 => lawL xs L n q13.2 q14.2 (v3 + 4))
      else if ((xs (v3).toNatClampNeg) &&& 31) = 2 then
      (if (v3 + 1) < 0 ∨ L ≤ ((v3 + 1)).toNatClampNeg then none else if (v3 + 2) < 0 ∨ L ≤ ((v3 + 2)).toNatClampNeg then none else if (v3 + 3) < 0 ∨ L ≤ ((v3 + 3)).toNatClampNeg then none else (m_Log_part g (xs ((v3 + 1)).toNatClampNeg) ((jlshl (((xs ((v3 + 2)).toNatClampNeg)).toInt64) 32) ||| ((((xs ((v3 + 3)).toNatClampNeg)).toInt64) &&& 4294967295))).bind fun q19 => if (v3 + 1) < 0 ∨ L ≤ ((v3 + 1)).toNatClampNeg then none else if (v3 + 2) < 0 ∨ L ≤ ((v3 + 2)).toNatClampNeg then none else if (v3 + 3) < 0 ∨ L ≤ ((v3 + 3)).toNatClampNeg then none else (m_RRef_part r (xs ((v3 + 1)).toNatClampNeg) ((jlshl (((xs ((v3 + 2)).toNatClampNeg)).toInt64) 32) ||| ((((xs ((v3 + 3)).toNatClampNeg)).toInt64) &&& 4294967295))).bind fun q23 => lawL xs L n q19.2 q23.2 (v3 + 4))
      else if ((xs (v3).toNatClampNeg) &&& 31) = 3 then
      (if (v3 + 1) < 0 ∨ L ≤ ((v3 + 1)).toNatClampNeg then none else (m_Log_mark g (xs ((v3 + 1)).toNatClampNeg)).bind fun q26 => if (v3 + 1) < 0 ∨ L ≤ ((v3 + 1)).toNatClampNeg then none else (m_RRef_mark r (xs ((v3 + 1)).toNatClampNeg)).bind fun q28 => lawL xs L n q26.2 q28.2 (v3 + 4))
      else if ((xs (v3).toNatClampNeg) &&& 31) = 4 then
      (if (v3 + 1) < 0 ∨ L ≤ ((v3 + 1)).toNatClampNeg then none else (m_Log_keep g (xs ((v3 + 1)).toNatClampNeg)).bind fun q31 => if (v3 + 1) < 0 ∨ L ≤ ((v3 + 1)).toNatClampNeg then none else (m_RRef_keep r (xs ((v3 + 1)).toNatClampNeg)).bind fun q33 => lawL xs L n q31.2 q33.2 (v3 + 4))
      else if ((xs (v3).toNatClampNeg) &&& 31) = 5 then
      (if (v3 + 1) < 0 ∨ L ≤ ((v3 + 1)).toNatClampNeg then none else (m_Log_give g (xs ((v3 + 1)).toNatClampNeg)).bind fun q36 => if (v3 + 1) < 0 ∨ L ≤ ((v3 + 1)).toNatClampNeg then none else (m_RRef_give r (xs ((v3 + 1)).toNatClampNeg)).bind fun q38 => lawL xs L n q36.2 q38.2 (v3 + 4))
      else if ((xs (v3).toNatClampNeg) &&& 31) = 6 then
      (if (v3 + 1) < 0 ∨ L ≤ ((v3 + 1)).toNatClampNeg then none else (m_Log_owner g (xs ((v3 + 1)).toNatClampNeg)).bind fun q41 => if (v3 + 1) < 0 ∨ L ≤ ((v3 + 1)).toNatClampNeg then none else (m_RRef_owner r (xs ((v3 + 1)).toNatClampNeg)).bind fun q43 => lawL xs L n q41.2 q43.2 (v3 + 4))
      else if ((xs (v3).toNatClampNeg) &&& 31) = 7 then
      (if (v3 + 1) < 0 ∨ L ≤ ((v3 + 1)).toNatClampNeg then none else (m_Log_drop g (xs ((v3 + 1)).toNatClampNeg)).bind fun q46 => if (v3 + 1) < 0 ∨ L ≤ ((v3 + 1)).toNatClampNeg then none else (m_RRef_drop r (xs ((v3 + 1)).toNatClampNeg)).bind fun q48 => lawL xs L n q46.2 q48.2 (v3 + 4))
      else if ((xs (v3).toNatClampNeg) &&& 31) = 8 then
      (if (v3 + 1) < 0 ∨ L ≤ ((v3 + 1)).toNatClampNeg then none else (m_Log_cut g (xs ((v3 + 1)).toNatClampNeg)).bind fun q51 => if (v3 + 1) < 0 ∨ L ≤ ((v3 + 1)).toNatClampNeg then none else (m_RRef_cut r (xs ((v3 + 1)).toNatClampNeg)).bind fun q53 => lawL xs L n q51.2 q53.2 (v3 + 4))
      else if ((xs (v3).toNatClampNeg) &&& 31) = 9 then
      ((m_Log_close g).bind fun q55 => (m_RRef_close r).bind fun q56 => lawL xs L n q55.2 q56.2 (v3 + 4))
      else if ((xs (v3).toNatClampNeg) &&& 31) = 10 then
      ((m_Log_open_ g).bind fun q58 => (m_RRef_open_ r).bind fun q59 => lawL xs L n q58.2 q59.2 (v3 + 4))
      else if ((xs (v3).toNatClampNeg) &&& 31) = 11 then
      ((m_Log_usable g).bind fun q61 => (m_RRef_usable r).bind fun q62 => lawL xs L n g r (v3 + 4))
      else if ((xs (v3).toNatClampNeg) &&& 31) = 12 then
      (if (v3 + 1) < 0 ∨ L ≤ ((v3 + 1)).toNatClampNeg then none else (m_Log_whole g (xs ((v3 + 1)).toNatClampNeg)).bind fun q65 => if (v3 + 1) < 0 ∨ L ≤ ((v3 + 1)).toNatClampNeg then none else (m_RRef_whole r (xs ((v3 + 1)).toNatClampNeg)).bind fun q67 => lawL xs L n g r (v3 + 4))
      else if ((xs (v3).toNatClampNeg) &&& 31) = 13 then
      (if (v3 + 1) < 0 ∨ L ≤ ((v3 + 1)).toNatClampNeg then none else (m_Log_marks g (xs ((v3 + 1)).toNatClampNeg)).bind fun q70 => if (v3 + 1) < 0 ∨ L ≤ ((v3 + 1)).toNatClampNeg then none else (m_RRef_marks r (xs ((v3 + 1)).toNatClampNeg)).bind fun q72 => lawL xs L n g r (v3 + 4))
      else if ((xs (v3).toNatClampNeg) &&& 31) = 14 then
      (if (v3 + 1) < 0 ∨ L ≤ ((v3 + 1)).toNatClampNeg then none else if (v3 + 2) < 0 ∨ L ≤ ((v3 + 2)).toNatClampNeg then none else (m_Log_markOf g (xs ((v3 + 1)).toNatClampNeg) (xs ((v3 + 2)).toNatClampNeg)).bind fun q76 => if (v3 + 1) < 0 ∨ L ≤ ((v3 + 1)).toNatClampNeg then none else if (v3 + 2) < 0 ∨ L ≤ ((v3 + 2)).toNatClampNeg then none else (m_RRef_markOf r (xs ((v3 + 1)).toNatClampNeg) (xs ((v3 + 2)).toNatClampNeg)).bind fun q79 => lawL xs L n g r (v3 + 4))
      else if ((xs (v3).toNatClampNeg) &&& 31) = 15 then
      (if (v3 + 1) < 0 ∨ L ≤ ((v3 + 1)).toNatClampNeg then none else if (v3 + 2) < 0 ∨ L ≤ ((v3 + 2)).toNatClampNeg then none else (m_Log_partOf g (xs ((v3 + 1)).toNatClampNeg) (xs ((v3 + 2)).toNatClampNeg)).bind fun q83 => if (v3 + 1) < 0 ∨ L ≤ ((v3 + 1)).toNatClampNeg then none else if (v3 + 2) < 0 ∨ L ≤ ((v3 + 2)).toNatClampNeg then none else (m_RRef_partOf r (xs ((v3 + 1)).toNatClampNeg) (xs ((v3 + 2)).toNatClampNeg)).bind fun q86 => lawL xs L n g r (v3 + 4))
      else if ((xs (v3).toNatClampNeg) &&& 31) = 16 then
      (if (v3 + 1) < 0 ∨ L ≤ ((v3 + 1)).toNatClampNeg then none else if (v3 + 2) < 0 ∨ L ≤ ((v3 + 2)).toNatClampNeg then none else (m_Log_partByte g (xs ((v3 + 1)).toNatClampNeg) (xs ((v3 + 2)).toNatClampNeg)).bind fun q90 => if (v3 + 1) < 0 ∨ L ≤ ((v3 + 1)).toNatClampNeg then none else if (v3 + 2) < 0 ∨ L ≤ ((v3 + 2)).toNatClampNeg then none else (m_RRef_partByte r (xs ((v3 + 1)).toNatClampNeg) (xs ((v3 + 2)).toNatClampNeg)).bind fun q93 => lawL xs L n g r (v3 + 4))
      else if ((xs (v3).toNatClampNeg) &&& 31) = 17 then
      (if (v3 + 1) < 0 ∨ L ≤ ((v3 + 1)).toNatClampNeg then none else (m_Log_named g (xs ((v3 + 1)).toNatClampNeg)).bind fun q96 => if (v3 + 1) < 0 ∨ L ≤ ((v3 + 1)).toNatClampNeg then none else (m_RRef_named r (xs ((v3 + 1)).toNatClampNeg)).bind fun q98 => lawL xs L n g r (v3 + 4))
      else if ((xs (v3).toNatClampNeg) &&& 31) = 18 then
      ((m_Log_badAt g).bind fun q100 => (m_RRef_badAt r).bind fun q101 => lawL xs L n g r (v3 + 4))
      else if ((xs (v3).toNatClampNeg) &&& 31) = 19 then
      (if (v3 + 1) < 0 ∨ L ≤ ((v3 + 1)).toNatClampNeg then none else if (v3 + 2) < 0 ∨ L ≤ ((v3 + 2)).toNatClampNeg then none else if (v3 + 3) < 0 ∨ L ≤ ((v3 + 3)).toNatClampNeg then none else (m_Log_poke g (xs ((v3 + 1)).toNatClampNeg) (xs ((v3 + 2)).toNatClampNeg) (xs ((v3 + 3)).toNatClampNeg)).bind fun q106 => if (v3 + 1) < 0 ∨ L ≤ ((v3 + 1)).toNatClampNeg then none else if (v3 + 2) < 0 ∨ L ≤ ((v3 + 2)).toNatClampNeg then none else if (v3 + 3) < 0 ∨ L ≤ ((v3 + 3)).toNatClampNeg then none else (m_RRef_poke r (xs ((v3 + 1)).toNatClampNeg) (xs ((v3 + 2)).toNatClampNeg) (xs ((v3 + 3)).toNatClampNeg)).bind fun q110 => lawL xs L n q106.2 q110.2 (v3 + 4))
      else if ((xs (v3).toNatClampNeg) &&& 31) = 20 then
      (if (v3 + 1) < 0 ∨ L ≤ ((v3 + 1)).toNatClampNeg then none else if (v3 + 2) < 0 ∨ L ≤ ((v3 + 2)).toNatClampNeg then none else (m_Log_byteAt g (xs ((v3 + 1)).toNatClampNeg) (xs ((v3 + 2)).toNatClampNeg)).bind fun q114 => if (v3 + 1) < 0 ∨ L ≤ ((v3 + 1)).toNatClampNeg then none else if (v3 + 2) < 0 ∨ L ≤ ((v3 + 2)).toNatClampNeg then none else (m_RRef_byteAt r (xs ((v3 + 1)).toNatClampNeg) (xs ((v3 + 2)).toNatClampNeg)).bind fun q117 => lawL xs L n g r (v3 + 4))
      else if ((xs (v3).toNatClampNeg) &&& 31) = 21 then
      (if (v3 + 1) < 0 ∨ L ≤ ((v3 + 1)).toNatClampNeg then none else if (v3 + 2) < 0 ∨ L ≤ ((v3 + 2)).toNatClampNeg then none else (m_Log_out g (xs ((v3 + 1)).toNatClampNeg) (xs ((v3 + 2)).toNatClampNeg)).bind fun q121 => if (v3 + 1) < 0 ∨ L ≤ ((v3 + 1)).toNatClampNeg then none else if (v3 + 2) < 0 ∨ L ≤ ((v3 + 2)).toNatClampNeg then none else (m_RRef_out r (xs ((v3 + 1)).toNatClampNeg) (xs ((v3 + 2)).toNatClampNeg)).bind fun q124 => lawL xs L n q121.2 q124.2 (v3 + 4))
      else if ((xs (v3).toNatClampNeg) &&& 31) = 22 then
      ((m_Log_in_ g).bind fun q126 => (m_RRef_in_ r).bind fun q127 => lawL xs L n q126.2 q127.2 (v3 + 4))
      else if ((xs (v3).toNatClampNeg) &&& 31) = 23 then
      (if (v3 + 1) < 0 ∨ L ≤ ((v3 + 1)).toNatClampNeg then none else if (v3 + 2) < 0 ∨ L ≤ ((v3 + 2)).toNatClampNeg then none else (m_Log_equal g (xs ((v3 + 1)).toNatClampNeg) (xs ((v3 + 2)).toNatClampNeg)).bind fun q131 => if (v3 + 1) < 0 ∨ L ≤ ((v3 + 1)).toNatClampNeg then none else if (v3 + 2) < 0 ∨ L ≤ ((v3 + 2)).toNatClampNeg then none else (m_RRef_equal r (xs ((v3 + 1)).toNatClampNeg) (xs ((v3 + 2)).toNatClampNeg)).bind fun q134 => lawL xs L n q131.2 r (v3 + 4))
      else if ((xs (v3).toNatClampNeg) &&& 31) = 24 then
      (if (v3 + 1) < 0 ∨ L ≤ ((v3 + 1)).toNatClampNeg then none else (m_Log_told g (xs ((v3 + 1)).toNatClampNeg)).bind fun q137 => if (v3 + 1) < 0 ∨ L ≤ ((v3 + 1)).toNatClampNeg then none else (m_RRef_told r (xs ((v3 + 1)).toNatClampNeg)).bind fun q139 => if q137 = q139.1 then
        (lawL xs L n g q139.2 (v3 + 4))
        else
        (some 0))
      else lawL xs L n g r (v3 + 4))
set_option maxHeartbeats 8000000 in
set_option maxRecDepth 100000 in
theorem k_law {p : Program} {l : Launch} {e : Env} {s : State} {m : MethodId} {below : List Frame} {meth : Method} {c : Code} {D : va_G} {ca : Nat → ClassId} {ad bd : Nat → Nat} {b L : Nat} {xs : Nat → Int32} (X : Cx p s m #[Value.ref b] meth c R_law code 4 ret D ca) (hX : va_X b L xs s s.heap) (hbl : b < s.heap.size) : ∀ (n : Nat) (g : St_Log) (r : St_Ref) (v3 : Int32), lawL xs L n g r v3 = some 1 → ∀ (H : Heap) (locs : List Loc), va_P D classes (wl_Log ca ad g ++ wl_Ref ca bd r) H → va_D (fun q : Nat => s.heap.size ≤ q) (wl_Log ca ad g ++ wl_Ref ca bd r) → va_S (fun q : Nat => s.heap.size ≤ q) s.heap H locs → ∀ ls : Array Slot, lv_has ls 4 [(0, .ref b), (1, .ref (ad 0)), (2, .ref (bd 0)), (3, .int v3)] → W p l e room_1 s m #[Value.ref b] below meth c H locs 54 71018 (lw_Z below #[Value.ref b] s) (F0 m 28 ls []) := by
  obtain ⟨hx, hb, hml, hr, hown, hts, hK, hlocks, -⟩ := id X
  have hA : ∀ q : Nat, s.heap.size ≤ q → (fun q : Nat => s.heap.size ≤ q) q := fun _ h => h
  have hbA : ¬ (fun q : Nat => s.heap.size ≤ q) b := Nat.not_le.mpr hbl
  intro n
  induction n with
  | zero =>
    intro g r v3 hm
    rw [lawL] at hm
    cases hm
  | succ n ih =>
    intro g r v3 hm H locs hP hD hS ls hl
    rw [lawL] at hm
    refine lv_iload_n hx hb d_law_28 rfl (lv_at hl 3 rfl) ?_
    refine lv_aload_n hx hb d_law_29 rfl (lv_at hl 0 rfl) ?_
    refine va_slen hx hb hX hbl hbA hS d_law_30 ?_
    refine lv_iconst (v := 4) hx hb d_law_31 (by decide) ?_
    refine lv_isub hx hb d_law_32 ?_
    refine lv_icmp_gt (tgt := 837) hx hb d_law_33 (by decide) (fun c1 => ?_) (fun c1 => ?_)
    · replace hm := ip c1 hm
      refine lv_iconst (v := 1) hx hb d_law_837 (by decide) ?_
      refine va_forget (fun q hq => hS.2.2 q hq) ?_
      refine W.widen (k := 600000) (n := 7302250) (Nat.le_of_ble_eq_true rfl) (Nat.le_of_ble_eq_true rfl) ?_
      exact lw_ret hx hb hr hlocks d_law_838
    · replace hm := ineg c1 hm
      refine lv_aload_n hx hb d_law_36 rfl (lv_at hl 0 rfl) ?_
      refine lv_iload_n hx hb d_law_37 rfl (lv_at hl 3 rfl) ?_
      obtain ⟨b2, hm⟩ := on hm
      refine va_sld hx hb hX hbl hbA hS b2 d_law_38 ?_
      refine lv_bipush (v := 31) hx hb d_law_39 (by decide) ?_
      refine lv_iand hx hb d_law_41 ?_
      by_cases c3 : ((xs (v3).toNatClampNeg) &&& 31) = 0
      · replace hm := ip c3 hm
        refine lv_tableIn (off := 114) (tgt := 156) hx hb d_law_42 (by rw [c3]; decide) (by rw [c3]; decide) (by rw [c3]; rfl) (by decide) ?_
        refine lv_aload_n hx hb d_law_156 rfl (lv_at hl 1 rfl) ?_
        refine lv_aload_n hx hb d_law_157 rfl (lv_at hl 0 rfl) ?_
        refine lv_iload_n hx hb d_law_158 rfl (lv_at hl 3 rfl) ?_
        refine lv_iconst (v := 1) hx hb d_law_159 (by decide) ?_
        refine lv_iadd hx hb d_law_160 ?_
        obtain ⟨b4, hm⟩ := on hm
        refine va_sld hx hb hX hbl hbA hS b4 d_law_161 ?_
        refine lv_i2l (v := (((xs ((v3 + 1)).toNatClampNeg)).toInt64)) hx hb d_law_162 rfl ?_
        refine lv_bipush (v := 32) hx hb d_law_163 (by decide) ?_
        refine lv_lshl (v := (jlshl (((xs ((v3 + 1)).toNatClampNeg)).toInt64) 32)) hx hb d_law_165 rfl ?_
        refine lv_aload_n hx hb d_law_166 rfl (lv_at hl 0 rfl) ?_
        refine lv_iload_n hx hb d_law_167 rfl (lv_at hl 3 rfl) ?_
        refine lv_iconst (v := 2) hx hb d_law_168 (by decide) ?_
        refine lv_iadd hx hb d_law_169 ?_
        obtain ⟨b5, hm⟩ := on hm
        refine va_sld hx hb hX hbl hbA hS b5 d_law_170 ?_
        refine lv_i2l (v := (((xs ((v3 + 2)).toNatClampNeg)).toInt64)) hx hb d_law_171 rfl ?_
        refine lv_ldc2 hx hb hown (hts _ wc_law_21) d_law_172 ?_
        refine lv_land hx hb d_law_175 ?_
        refine lv_lor hx hb d_law_176 ?_
        refine lv_aload_n hx hb d_law_177 rfl (lv_at hl 0 rfl) ?_
        refine lv_iload_n hx hb d_law_178 rfl (lv_at hl 3 rfl) ?_
        refine lv_iconst (v := 3) hx hb d_law_179 (by decide) ?_
        refine lv_iadd hx hb d_law_180 ?_
        obtain ⟨b6, hm⟩ := on hm
        refine va_sld hx hb hX hbl hbA hS b6 d_law_181 ?_
        obtain ⟨q7, hq7, hm⟩ := ob hm
        refine inv_mVg (C := R_Log) (As := [.long ((jlshl (((xs ((v3 + 1)).toNatClampNeg)).toInt64) 32) ||| ((((xs ((v3 + 2)).toNatClampNeg)).toInt64) &&& 4294967295)), .int (xs ((v3 + 3)).toNatClampNeg)]) (rest := []) (v := .int q7.1) (ws' := wl_Log ca ad q7.2 ++ wl_Ref ca bd r) X (c_Log_feed l D ca ad _ g ((jlshl (((xs ((v3 + 1)).toNatClampNeg)).toInt64) 32) ||| ((((xs ((v3 + 2)).toNatClampNeg)).toInt64) &&& 4294967295)) (xs ((v3 + 3)).toNatClampNeg) q7 hq7) g_law_23 yo_Log_feed ⟨Nat.le_of_ble_eq_true rfl, Nat.le_of_ble_eq_true rfl⟩ hl (va_Pl hP) (va_Dl hD) (jn_L hP hD rfl) (ci := 5) rfl rfl hS hA rfl rfl (Nat.le_of_ble_eq_true rfl) ⟨Nat.le_of_ble_eq_true rfl, Nat.le_of_ble_eq_true rfl⟩ d_law_182 (fun H locs hP hD hS => ?_)
        refine lv_pop hx hb d_law_185 rfl ?_
        refine lv_aload_n hx hb d_law_186 rfl (lv_at hl 2 rfl) ?_
        refine lv_aload_n hx hb d_law_187 rfl (lv_at hl 0 rfl) ?_
        refine lv_iload_n hx hb d_law_188 rfl (lv_at hl 3 rfl) ?_
        refine lv_iconst (v := 1) hx hb d_law_189 (by decide) ?_
        refine lv_iadd hx hb d_law_190 ?_
        obtain ⟨b8, hm⟩ := on hm
        refine va_sld hx hb hX hbl hbA hS b8 d_law_191 ?_
        refine lv_i2l (v := (((xs ((v3 + 1)).toNatClampNeg)).toInt64)) hx hb d_law_192 rfl ?_
        refine lv_bipush (v := 32) hx hb d_law_193 (by decide) ?_
        refine lv_lshl (v := (jlshl (((xs ((v3 + 1)).toNatClampNeg)).toInt64) 32)) hx hb d_law_195 rfl ?_
        refine lv_aload_n hx hb d_law_196 rfl (lv_at hl 0 rfl) ?_
        refine lv_iload_n hx hb d_law_197 rfl (lv_at hl 3 rfl) ?_
        refine lv_iconst (v := 2) hx hb d_law_198 (by decide) ?_
        refine lv_iadd hx hb d_law_199 ?_
        obtain ⟨b9, hm⟩ := on hm
        refine va_sld hx hb hX hbl hbA hS b9 d_law_200 ?_
        refine lv_i2l (v := (((xs ((v3 + 2)).toNatClampNeg)).toInt64)) hx hb d_law_201 rfl ?_
        refine lv_ldc2 hx hb hown (hts _ wc_law_21) d_law_202 ?_
        refine lv_land hx hb d_law_205 ?_
        refine lv_lor hx hb d_law_206 ?_
        refine lv_aload_n hx hb d_law_207 rfl (lv_at hl 0 rfl) ?_
        refine lv_iload_n hx hb d_law_208 rfl (lv_at hl 3 rfl) ?_
        refine lv_iconst (v := 3) hx hb d_law_209 (by decide) ?_
        refine lv_iadd hx hb d_law_210 ?_
        obtain ⟨b10, hm⟩ := on hm
        refine va_sld hx hb hX hbl hbA hS b10 d_law_211 ?_
        obtain ⟨q11, hq11, hm⟩ := ob hm
        refine inv_mVg (C := R_RRef) (As := [.long ((jlshl (((xs ((v3 + 1)).toNatClampNeg)).toInt64) 32) ||| ((((xs ((v3 + 2)).toNatClampNeg)).toInt64) &&& 4294967295)), .int (xs ((v3 + 3)).toNatClampNeg)]) (rest := []) (v := .int q11.1) (ws' := wl_Log ca ad q7.2 ++ wl_Ref ca bd q11.2) X (c_RRef_feed l D ca bd _ r ((jlshl (((xs ((v3 + 1)).toNatClampNeg)).toInt64) 32) ||| ((((xs ((v3 + 2)).toNatClampNeg)).toInt64) &&& 4294967295)) (xs ((v3 + 3)).toNatClampNeg) q11 hq11) g_law_27 yo_RRef_feed ⟨Nat.le_of_ble_eq_true rfl, Nat.le_of_ble_eq_true rfl⟩ hl (va_Pr hP) (va_Dr hD) (jn_R hP hD rfl) (ci := 6) rfl rfl hS hA rfl rfl (Nat.le_of_ble_eq_true rfl) ⟨Nat.le_of_ble_eq_true rfl, Nat.le_of_ble_eq_true rfl⟩ d_law_212 (fun H locs hP hD hS => ?_)
        refine lv_pop hx hb d_law_215 rfl ?_
        refine lv_goto (tgt := 831) hx hb d_law_216 (by decide) ?_
        refine lv_iinc (v := (v3 + 4)) (lv' := [(3, .int (v3 + 4)), (0, .ref b), (1, .ref (ad 0)), (2, .ref (bd 0))]) hx hb d_law_831 hl (k := 3) rfl rfl (by decide) rfl (fun ls hl => ?_)
        have hl := lv_sub hl [1, 2, 3, 0] rfl
        replace hl : lv_has ls 4 [(0, .ref b), (1, .ref (ad 0)), (2, .ref (bd 0)), (3, .int (v3 + 4))] := hl
        refine lv_goto (tgt := 28) hx hb d_law_834 (by decide) ?_
        exact ih q7.2 q11.2 (v3 + 4) hm _ _ hP hD hS ls hl
      replace hm := ineg c3 hm
      by_cases c12 : ((xs (v3).toNatClampNeg) &&& 31) = 1
      · replace hm := ip c12 hm
        refine lv_tableIn (off := 177) (tgt := 219) hx hb d_law_42 (by rw [c12]; decide) (by rw [c12]; decide) (by rw [c12]; rfl) (by decide) ?_
        refine lv_aload_n hx hb d_law_219 rfl (lv_at hl 1 rfl) ?_
        obtain ⟨q13, hq13, hm⟩ := ob hm
        refine inv_mVg (C := R_Log) (As := []) (rest := []) (v := .int q13.1) (ws' := wl_Log ca ad q13.2 ++ wl_Ref ca bd r) X (c_Log_wipe l D ca ad _ g q13 hq13) g_law_28 yo_Log_wipe ⟨Nat.le_of_ble_eq_true rfl, Nat.le_of_ble_eq_true rfl⟩ hl (va_Pl hP) (va_Dl hD) (jn_L hP hD rfl) (ci := 5) rfl rfl hS hA rfl rfl (Nat.le_of_ble_eq_true rfl) ⟨Nat.le_of_ble_eq_true rfl, Nat.le_of_ble_eq_true rfl⟩ d_law_220 (fun H locs hP hD hS => ?_)
        refine lv_pop hx hb d_law_223 rfl ?_
        refine lv_aload_n hx hb d_law_224 rfl (lv_at hl 2 rfl) ?_
        obtain ⟨q14, hq14, hm⟩ := ob hm
        refine inv_mVg (C := R_RRef) (As := []) (rest := []) (v := .int q14.1) (ws' := wl_Log ca ad q13.2 ++ wl_Ref ca bd q14.2) X (c_RRef_wipe l D ca bd _ r q14 hq14) g_law_32 yo_RRef_wipe ⟨Nat.le_of_ble_eq_true rfl, Nat.le_of_ble_eq_true rfl⟩ hl (va_Pr hP) (va_Dr hD) (jn_R hP hD rfl) (ci := 6) rfl rfl hS hA rfl rfl (Nat.le_of_ble_eq_true rfl) ⟨Nat.le_of_ble_eq_true rfl, Nat.le_of_ble_eq_true rfl⟩ d_law_225 (fun H locs hP hD hS => ?_)
        refine lv_pop hx hb d_law_228 rfl ?_
        refine lv_goto (tgt := 831) hx hb d_law_229 (by decide) ?_
        refine lv_iinc (v := (v3 + 4)) (lv' := [(3, .int (v3 + 4)), (0, .ref b), (1, .ref (ad 0)), (2, .ref (bd 0))]) hx hb d_law_831 hl (k := 3) rfl rfl (by decide) rfl (fun ls hl => ?_)
        have hl := lv_sub hl [1, 2, 3, 0] rfl
        replace hl : lv_has ls 4 [(0, .ref b), (1, .ref (ad 0)), (2, .ref (bd 0)), (3, .int (v3 + 4))] := hl
        refine lv_goto (tgt := 28) hx hb d_law_834 (by decide) ?_
        exact ih q13.2 q14.2 (v3 + 4) hm _ _ hP hD hS ls hl
      replace hm := ineg c12 hm
      by_cases c15 : ((xs (v3).toNatClampNeg) &&& 31) = 2
      · replace hm := ip c15 hm
        refine lv_tableIn (off := 190) (tgt := 232) hx hb d_law_42 (by rw [c15]; decide) (by rw [c15]; decide) (by rw [c15]; rfl) (by decide) ?_
        refine lv_aload_n hx hb d_law_232 rfl (lv_at hl 1 rfl) ?_
        refine lv_aload_n hx hb d_law_233 rfl (lv_at hl 0 rfl) ?_
        refine lv_iload_n hx hb d_law_234 rfl (lv_at hl 3 rfl) ?_
        refine lv_iconst (v := 1) hx hb d_law_235 (by decide) ?_
        refine lv_iadd hx hb d_law_236 ?_
        obtain ⟨b16, hm⟩ := on hm
        refine va_sld hx hb hX hbl hbA hS b16 d_law_237 ?_
        refine lv_aload_n hx hb d_law_238 rfl (lv_at hl 0 rfl) ?_
        refine lv_iload_n hx hb d_law_239 rfl (lv_at hl 3 rfl) ?_
        refine lv_iconst (v := 2) hx hb d_law_240 (by decide) ?_
        refine lv_iadd hx hb d_law_241 ?_
        obtain ⟨b17, hm⟩ := on hm
        refine va_sld hx hb hX hbl hbA hS b17 d_law_242 ?_
        refine lv_i2l (v := (((xs ((v3 + 2)).toNatClampNeg)).toInt64)) hx hb d_law_243 rfl ?_
        refine lv_bipush (v := 32) hx hb d_law_244 (by decide) ?_
        refine lv_lshl (v := (jlshl (((xs ((v3 + 2)).toNatClampNeg)).toInt64) 32)) hx hb d_law_246 rfl ?_
        refine lv_aload_n hx hb d_law_247 rfl (lv_at hl 0 rfl) ?_
        refine lv_iload_n hx hb d_law_248 rfl (lv_at hl 3 rfl) ?_
        refine lv_iconst (v := 3) hx hb d_law_249 (by decide) ?_
        refine lv_iadd hx hb d_law_250 ?_
        obtain ⟨b18, hm⟩ := on hm
        refine va_sld hx hb hX hbl hbA hS b18 d_law_251 ?_
        refine lv_i2l (v := (((xs ((v3 + 3)).toNatClampNeg)).toInt64)) hx hb d_law_252 rfl ?_
        refine lv_ldc2 hx hb hown (hts _ wc_law_21) d_law_253 ?_
        refine lv_land hx hb d_law_256 ?_
        refine lv_lor hx hb d_law_257 ?_
        obtain ⟨q19, hq19, hm⟩ := ob hm
        refine inv_mVg (C := R_Log) (As := [.int (xs ((v3 + 1)).toNatClampNeg), .long ((jlshl (((xs ((v3 + 2)).toNatClampNeg)).toInt64) 32) ||| ((((xs ((v3 + 3)).toNatClampNeg)).toInt64) &&& 4294967295))]) (rest := []) (v := .int q19.1) (ws' := wl_Log ca ad q19.2 ++ wl_Ref ca bd r) X (c_Log_part l D ca ad _ g (xs ((v3 + 1)).toNatClampNeg) ((jlshl (((xs ((v3 + 2)).toNatClampNeg)).toInt64) 32) ||| ((((xs ((v3 + 3)).toNatClampNeg)).toInt64) &&& 4294967295)) q19 hq19) g_law_33 yo_Log_part ⟨Nat.le_of_ble_eq_true rfl, Nat.le_of_ble_eq_true rfl⟩ hl (va_Pl hP) (va_Dl hD) (jn_L hP hD rfl) (ci := 5) rfl rfl hS hA rfl rfl (Nat.le_of_ble_eq_true rfl) ⟨Nat.le_of_ble_eq_true rfl, Nat.le_of_ble_eq_true rfl⟩ d_law_258 (fun H locs hP hD hS => ?_)
        refine lv_pop hx hb d_law_261 rfl ?_
        refine lv_aload_n hx hb d_law_262 rfl (lv_at hl 2 rfl) ?_
        refine lv_aload_n hx hb d_law_263 rfl (lv_at hl 0 rfl) ?_
        refine lv_iload_n hx hb d_law_264 rfl (lv_at hl 3 rfl) ?_
        refine lv_iconst (v := 1) hx hb d_law_265 (by decide) ?_
        refine lv_iadd hx hb d_law_266 ?_
        obtain ⟨b20, hm⟩ := on hm
        refine va_sld hx hb hX hbl hbA hS b20 d_law_267 ?_
        refine lv_aload_n hx hb d_law_268 rfl (lv_at hl 0 rfl) ?_
        refine lv_iload_n hx hb d_law_269 rfl (lv_at hl 3 rfl) ?_
        refine lv_iconst (v := 2) hx hb d_law_270 (by decide) ?_
        refine lv_iadd hx hb d_law_271 ?_
        obtain ⟨b21, hm⟩ := on hm
        refine va_sld hx hb hX hbl hbA hS b21 d_law_272 ?_
        refine lv_i2l (v := (((xs ((v3 + 2)).toNatClampNeg)).toInt64)) hx hb d_law_273 rfl ?_
        refine lv_bipush (v := 32) hx hb d_law_274 (by decide) ?_
        refine lv_lshl (v := (jlshl (((xs ((v3 + 2)).toNatClampNeg)).toInt64) 32)) hx hb d_law_276 rfl ?_
        refine lv_aload_n hx hb d_law_277 rfl (lv_at hl 0 rfl) ?_
        refine lv_iload_n hx hb d_law_278 rfl (lv_at hl 3 rfl) ?_
        refine lv_iconst (v := 3) hx hb d_law_279 (by decide) ?_
        refine lv_iadd hx hb d_law_280 ?_
        obtain ⟨b22, hm⟩ := on hm
        refine va_sld hx hb hX hbl hbA hS b22 d_law_281 ?_
        refine lv_i2l (v := (((xs ((v3 + 3)).toNatClampNeg)).toInt64)) hx hb d_law_282 rfl ?_
        refine lv_ldc2 hx hb hown (hts _ wc_law_21) d_law_283 ?_
        refine lv_land hx hb d_law_286 ?_
        refine lv_lor hx hb d_law_287 ?_
        obtain ⟨q23, hq23, hm⟩ := ob hm
        refine inv_mVg (C := R_RRef) (As := [.int (xs ((v3 + 1)).toNatClampNeg), .long ((jlshl (((xs ((v3 + 2)).toNatClampNeg)).toInt64) 32) ||| ((((xs ((v3 + 3)).toNatClampNeg)).toInt64) &&& 4294967295))]) (rest := []) (v := .int q23.1) (ws' := wl_Log ca ad q19.2 ++ wl_Ref ca bd q23.2) X (c_RRef_part l D ca bd _ r (xs ((v3 + 1)).toNatClampNeg) ((jlshl (((xs ((v3 + 2)).toNatClampNeg)).toInt64) 32) ||| ((((xs ((v3 + 3)).toNatClampNeg)).toInt64) &&& 4294967295)) q23 hq23) g_law_37 yo_RRef_part ⟨Nat.le_of_ble_eq_true rfl, Nat.le_of_ble_eq_true rfl⟩ hl (va_Pr hP) (va_Dr hD) (jn_R hP hD rfl) (ci := 6) rfl rfl hS hA rfl rfl (Nat.le_of_ble_eq_true rfl) ⟨Nat.le_of_ble_eq_true rfl, Nat.le_of_ble_eq_true rfl⟩ d_law_288 (fun H locs hP hD hS => ?_)
        refine lv_pop hx hb d_law_291 rfl ?_
        refine lv_goto (tgt := 831) hx hb d_law_292 (by decide) ?_
        refine lv_iinc (v := (v3 + 4)) (lv' := [(3, .int (v3 + 4)), (0, .ref b), (1, .ref (ad 0)), (2, .ref (bd 0))]) hx hb d_law_831 hl (k := 3) rfl rfl (by decide) rfl (fun ls hl => ?_)
        have hl := lv_sub hl [1, 2, 3, 0] rfl
        replace hl : lv_has ls 4 [(0, .ref b), (1, .ref (ad 0)), (2, .ref (bd 0)), (3, .int (v3 + 4))] := hl
        refine lv_goto (tgt := 28) hx hb d_law_834 (by decide) ?_
        exact ih q19.2 q23.2 (v3 + 4) hm _ _ hP hD hS ls hl
      replace hm := ineg c15 hm
      by_cases c24 : ((xs (v3).toNatClampNeg) &&& 31) = 3
      · replace hm := ip c24 hm
        refine lv_tableIn (off := 253) (tgt := 295) hx hb d_law_42 (by rw [c24]; decide) (by rw [c24]; decide) (by rw [c24]; rfl) (by decide) ?_
        refine lv_aload_n hx hb d_law_295 rfl (lv_at hl 1 rfl) ?_
        refine lv_aload_n hx hb d_law_296 rfl (lv_at hl 0 rfl) ?_
        refine lv_iload_n hx hb d_law_297 rfl (lv_at hl 3 rfl) ?_
        refine lv_iconst (v := 1) hx hb d_law_298 (by decide) ?_
        refine lv_iadd hx hb d_law_299 ?_
        obtain ⟨b25, hm⟩ := on hm
        refine va_sld hx hb hX hbl hbA hS b25 d_law_300 ?_
        obtain ⟨q26, hq26, hm⟩ := ob hm
        refine inv_mVg (C := R_Log) (As := [.int (xs ((v3 + 1)).toNatClampNeg)]) (rest := []) (v := .int q26.1) (ws' := wl_Log ca ad q26.2 ++ wl_Ref ca bd r) X (c_Log_mark l D ca ad _ g (xs ((v3 + 1)).toNatClampNeg) q26 hq26) g_law_38 yo_Log_mark ⟨Nat.le_of_ble_eq_true rfl, Nat.le_of_ble_eq_true rfl⟩ hl (va_Pl hP) (va_Dl hD) (jn_L hP hD rfl) (ci := 5) rfl rfl hS hA rfl rfl (Nat.le_of_ble_eq_true rfl) ⟨Nat.le_of_ble_eq_true rfl, Nat.le_of_ble_eq_true rfl⟩ d_law_301 (fun H locs hP hD hS => ?_)
        refine lv_pop hx hb d_law_304 rfl ?_
        refine lv_aload_n hx hb d_law_305 rfl (lv_at hl 2 rfl) ?_
        refine lv_aload_n hx hb d_law_306 rfl (lv_at hl 0 rfl) ?_
        refine lv_iload_n hx hb d_law_307 rfl (lv_at hl 3 rfl) ?_
        refine lv_iconst (v := 1) hx hb d_law_308 (by decide) ?_
        refine lv_iadd hx hb d_law_309 ?_
        obtain ⟨b27, hm⟩ := on hm
        refine va_sld hx hb hX hbl hbA hS b27 d_law_310 ?_
        obtain ⟨q28, hq28, hm⟩ := ob hm
        refine inv_mVg (C := R_RRef) (As := [.int (xs ((v3 + 1)).toNatClampNeg)]) (rest := []) (v := .int q28.1) (ws' := wl_Log ca ad q26.2 ++ wl_Ref ca bd q28.2) X (c_RRef_mark l D ca bd _ r (xs ((v3 + 1)).toNatClampNeg) q28 hq28) g_law_42 yo_RRef_mark ⟨Nat.le_of_ble_eq_true rfl, Nat.le_of_ble_eq_true rfl⟩ hl (va_Pr hP) (va_Dr hD) (jn_R hP hD rfl) (ci := 6) rfl rfl hS hA rfl rfl (Nat.le_of_ble_eq_true rfl) ⟨Nat.le_of_ble_eq_true rfl, Nat.le_of_ble_eq_true rfl⟩ d_law_311 (fun H locs hP hD hS => ?_)
        refine lv_pop hx hb d_law_314 rfl ?_
        refine lv_goto (tgt := 831) hx hb d_law_315 (by decide) ?_
        refine lv_iinc (v := (v3 + 4)) (lv' := [(3, .int (v3 + 4)), (0, .ref b), (1, .ref (ad 0)), (2, .ref (bd 0))]) hx hb d_law_831 hl (k := 3) rfl rfl (by decide) rfl (fun ls hl => ?_)
        have hl := lv_sub hl [1, 2, 3, 0] rfl
        replace hl : lv_has ls 4 [(0, .ref b), (1, .ref (ad 0)), (2, .ref (bd 0)), (3, .int (v3 + 4))] := hl
        refine lv_goto (tgt := 28) hx hb d_law_834 (by decide) ?_
        exact ih q26.2 q28.2 (v3 + 4) hm _ _ hP hD hS ls hl
      replace hm := ineg c24 hm
      by_cases c29 : ((xs (v3).toNatClampNeg) &&& 31) = 4
      · replace hm := ip c29 hm
        refine lv_tableIn (off := 276) (tgt := 318) hx hb d_law_42 (by rw [c29]; decide) (by rw [c29]; decide) (by rw [c29]; rfl) (by decide) ?_
        refine lv_aload_n hx hb d_law_318 rfl (lv_at hl 1 rfl) ?_
        refine lv_aload_n hx hb d_law_319 rfl (lv_at hl 0 rfl) ?_
        refine lv_iload_n hx hb d_law_320 rfl (lv_at hl 3 rfl) ?_
        refine lv_iconst (v := 1) hx hb d_law_321 (by decide) ?_
        refine lv_iadd hx hb d_law_322 ?_
        obtain ⟨b30, hm⟩ := on hm
        refine va_sld hx hb hX hbl hbA hS b30 d_law_323 ?_
        obtain ⟨q31, hq31, hm⟩ := ob hm
        refine inv_mVg (C := R_Log) (As := [.int (xs ((v3 + 1)).toNatClampNeg)]) (rest := []) (v := .int q31.1) (ws' := wl_Log ca ad q31.2 ++ wl_Ref ca bd r) X (c_Log_keep l D ca ad _ g (xs ((v3 + 1)).toNatClampNeg) q31 hq31) g_law_43 yo_Log_keep ⟨Nat.le_of_ble_eq_true rfl, Nat.le_of_ble_eq_true rfl⟩ hl (va_Pl hP) (va_Dl hD) (jn_L hP hD rfl) (ci := 5) rfl rfl hS hA rfl rfl (Nat.le_of_ble_eq_true rfl) ⟨Nat.le_of_ble_eq_true rfl, Nat.le_of_ble_eq_true rfl⟩ d_law_324 (fun H locs hP hD hS => ?_)
        refine lv_pop hx hb d_law_327 rfl ?_
        refine lv_aload_n hx hb d_law_328 rfl (lv_at hl 2 rfl) ?_
        refine lv_aload_n hx hb d_law_329 rfl (lv_at hl 0 rfl) ?_
        refine lv_iload_n hx hb d_law_330 rfl (lv_at hl 3 rfl) ?_
        refine lv_iconst (v := 1) hx hb d_law_331 (by decide) ?_
        refine lv_iadd hx hb d_law_332 ?_
        obtain ⟨b32, hm⟩ := on hm
        refine va_sld hx hb hX hbl hbA hS b32 d_law_333 ?_
        obtain ⟨q33, hq33, hm⟩ := ob hm
        refine inv_mVg (C := R_RRef) (As := [.int (xs ((v3 + 1)).toNatClampNeg)]) (rest := []) (v := .int q33.1) (ws' := wl_Log ca ad q31.2 ++ wl_Ref ca bd q33.2) X (c_RRef_keep l D ca bd _ r (xs ((v3 + 1)).toNatClampNeg) q33 hq33) g_law_46 yo_RRef_keep ⟨Nat.le_of_ble_eq_true rfl, Nat.le_of_ble_eq_true rfl⟩ hl (va_Pr hP) (va_Dr hD) (jn_R hP hD rfl) (ci := 6) rfl rfl hS hA rfl rfl (Nat.le_of_ble_eq_true rfl) ⟨Nat.le_of_ble_eq_true rfl, Nat.le_of_ble_eq_true rfl⟩ d_law_334 (fun H locs hP hD hS => ?_)
        refine lv_pop hx hb d_law_337 rfl ?_
        refine lv_goto (tgt := 831) hx hb d_law_338 (by decide) ?_
        refine lv_iinc (v := (v3 + 4)) (lv' := [(3, .int (v3 + 4)), (0, .ref b), (1, .ref (ad 0)), (2, .ref (bd 0))]) hx hb d_law_831 hl (k := 3) rfl rfl (by decide) rfl (fun ls hl => ?_)
        have hl := lv_sub hl [1, 2, 3, 0] rfl
        replace hl : lv_has ls 4 [(0, .ref b), (1, .ref (ad 0)), (2, .ref (bd 0)), (3, .int (v3 + 4))] := hl
        refine lv_goto (tgt := 28) hx hb d_law_834 (by decide) ?_
        exact ih q31.2 q33.2 (v3 + 4) hm _ _ hP hD hS ls hl
      replace hm := ineg c29 hm
      by_cases c34 : ((xs (v3).toNatClampNeg) &&& 31) = 5
      · replace hm := ip c34 hm
        refine lv_tableIn (off := 299) (tgt := 341) hx hb d_law_42 (by rw [c34]; decide) (by rw [c34]; decide) (by rw [c34]; rfl) (by decide) ?_
        refine lv_aload_n hx hb d_law_341 rfl (lv_at hl 1 rfl) ?_
        refine lv_aload_n hx hb d_law_342 rfl (lv_at hl 0 rfl) ?_
        refine lv_iload_n hx hb d_law_343 rfl (lv_at hl 3 rfl) ?_
        refine lv_iconst (v := 1) hx hb d_law_344 (by decide) ?_
        refine lv_iadd hx hb d_law_345 ?_
        obtain ⟨b35, hm⟩ := on hm
        refine va_sld hx hb hX hbl hbA hS b35 d_law_346 ?_
        obtain ⟨q36, hq36, hm⟩ := ob hm
        refine inv_mVg (C := R_Log) (As := [.int (xs ((v3 + 1)).toNatClampNeg)]) (rest := []) (v := .int q36.1) (ws' := wl_Log ca ad q36.2 ++ wl_Ref ca bd r) X (c_Log_give l D ca ad _ g (xs ((v3 + 1)).toNatClampNeg) q36 hq36) g_law_47 yo_Log_give ⟨Nat.le_of_ble_eq_true rfl, Nat.le_of_ble_eq_true rfl⟩ hl (va_Pl hP) (va_Dl hD) (jn_L hP hD rfl) (ci := 5) rfl rfl hS hA rfl rfl (Nat.le_of_ble_eq_true rfl) ⟨Nat.le_of_ble_eq_true rfl, Nat.le_of_ble_eq_true rfl⟩ d_law_347 (fun H locs hP hD hS => ?_)
        refine lv_pop hx hb d_law_350 rfl ?_
        refine lv_aload_n hx hb d_law_351 rfl (lv_at hl 2 rfl) ?_
        refine lv_aload_n hx hb d_law_352 rfl (lv_at hl 0 rfl) ?_
        refine lv_iload_n hx hb d_law_353 rfl (lv_at hl 3 rfl) ?_
        refine lv_iconst (v := 1) hx hb d_law_354 (by decide) ?_
        refine lv_iadd hx hb d_law_355 ?_
        obtain ⟨b37, hm⟩ := on hm
        refine va_sld hx hb hX hbl hbA hS b37 d_law_356 ?_
        obtain ⟨q38, hq38, hm⟩ := ob hm
        refine inv_mVg (C := R_RRef) (As := [.int (xs ((v3 + 1)).toNatClampNeg)]) (rest := []) (v := .int q38.1) (ws' := wl_Log ca ad q36.2 ++ wl_Ref ca bd q38.2) X (c_RRef_give l D ca bd _ r (xs ((v3 + 1)).toNatClampNeg) q38 hq38) g_law_50 yo_RRef_give ⟨Nat.le_of_ble_eq_true rfl, Nat.le_of_ble_eq_true rfl⟩ hl (va_Pr hP) (va_Dr hD) (jn_R hP hD rfl) (ci := 6) rfl rfl hS hA rfl rfl (Nat.le_of_ble_eq_true rfl) ⟨Nat.le_of_ble_eq_true rfl, Nat.le_of_ble_eq_true rfl⟩ d_law_357 (fun H locs hP hD hS => ?_)
        refine lv_pop hx hb d_law_360 rfl ?_
        refine lv_goto (tgt := 831) hx hb d_law_361 (by decide) ?_
        refine lv_iinc (v := (v3 + 4)) (lv' := [(3, .int (v3 + 4)), (0, .ref b), (1, .ref (ad 0)), (2, .ref (bd 0))]) hx hb d_law_831 hl (k := 3) rfl rfl (by decide) rfl (fun ls hl => ?_)
        have hl := lv_sub hl [1, 2, 3, 0] rfl
        replace hl : lv_has ls 4 [(0, .ref b), (1, .ref (ad 0)), (2, .ref (bd 0)), (3, .int (v3 + 4))] := hl
        refine lv_goto (tgt := 28) hx hb d_law_834 (by decide) ?_
        exact ih q36.2 q38.2 (v3 + 4) hm _ _ hP hD hS ls hl
      replace hm := ineg c34 hm
      by_cases c39 : ((xs (v3).toNatClampNeg) &&& 31) = 6
      · replace hm := ip c39 hm
        refine lv_tableIn (off := 322) (tgt := 364) hx hb d_law_42 (by rw [c39]; decide) (by rw [c39]; decide) (by rw [c39]; rfl) (by decide) ?_
        refine lv_aload_n hx hb d_law_364 rfl (lv_at hl 1 rfl) ?_
        refine lv_aload_n hx hb d_law_365 rfl (lv_at hl 0 rfl) ?_
        refine lv_iload_n hx hb d_law_366 rfl (lv_at hl 3 rfl) ?_
        refine lv_iconst (v := 1) hx hb d_law_367 (by decide) ?_
        refine lv_iadd hx hb d_law_368 ?_
        obtain ⟨b40, hm⟩ := on hm
        refine va_sld hx hb hX hbl hbA hS b40 d_law_369 ?_
        obtain ⟨q41, hq41, hm⟩ := ob hm
        refine inv_mVg (C := R_Log) (As := [.int (xs ((v3 + 1)).toNatClampNeg)]) (rest := []) (v := .int q41.1) (ws' := wl_Log ca ad q41.2 ++ wl_Ref ca bd r) X (c_Log_owner l D ca ad _ g (xs ((v3 + 1)).toNatClampNeg) q41 hq41) g_law_51 yo_Log_owner ⟨Nat.le_of_ble_eq_true rfl, Nat.le_of_ble_eq_true rfl⟩ hl (va_Pl hP) (va_Dl hD) (jn_L hP hD rfl) (ci := 5) rfl rfl hS hA rfl rfl (Nat.le_of_ble_eq_true rfl) ⟨Nat.le_of_ble_eq_true rfl, Nat.le_of_ble_eq_true rfl⟩ d_law_370 (fun H locs hP hD hS => ?_)
        refine lv_pop hx hb d_law_373 rfl ?_
        refine lv_aload_n hx hb d_law_374 rfl (lv_at hl 2 rfl) ?_
        refine lv_aload_n hx hb d_law_375 rfl (lv_at hl 0 rfl) ?_
        refine lv_iload_n hx hb d_law_376 rfl (lv_at hl 3 rfl) ?_
        refine lv_iconst (v := 1) hx hb d_law_377 (by decide) ?_
        refine lv_iadd hx hb d_law_378 ?_
        obtain ⟨b42, hm⟩ := on hm
        refine va_sld hx hb hX hbl hbA hS b42 d_law_379 ?_
        obtain ⟨q43, hq43, hm⟩ := ob hm
        refine inv_mVg (C := R_RRef) (As := [.int (xs ((v3 + 1)).toNatClampNeg)]) (rest := []) (v := .int q43.1) (ws' := wl_Log ca ad q41.2 ++ wl_Ref ca bd q43.2) X (c_RRef_owner l D ca bd _ r (xs ((v3 + 1)).toNatClampNeg) q43 hq43) g_law_54 yo_RRef_owner ⟨Nat.le_of_ble_eq_true rfl, Nat.le_of_ble_eq_true rfl⟩ hl (va_Pr hP) (va_Dr hD) (jn_R hP hD rfl) (ci := 6) rfl rfl hS hA rfl rfl (Nat.le_of_ble_eq_true rfl) ⟨Nat.le_of_ble_eq_true rfl, Nat.le_of_ble_eq_true rfl⟩ d_law_380 (fun H locs hP hD hS => ?_)
        refine lv_pop hx hb d_law_383 rfl ?_
        refine lv_goto (tgt := 831) hx hb d_law_384 (by decide) ?_
        refine lv_iinc (v := (v3 + 4)) (lv' := [(3, .int (v3 + 4)), (0, .ref b), (1, .ref (ad 0)), (2, .ref (bd 0))]) hx hb d_law_831 hl (k := 3) rfl rfl (by decide) rfl (fun ls hl => ?_)
        have hl := lv_sub hl [1, 2, 3, 0] rfl
        replace hl : lv_has ls 4 [(0, .ref b), (1, .ref (ad 0)), (2, .ref (bd 0)), (3, .int (v3 + 4))] := hl
        refine lv_goto (tgt := 28) hx hb d_law_834 (by decide) ?_
        exact ih q41.2 q43.2 (v3 + 4) hm _ _ hP hD hS ls hl
      replace hm := ineg c39 hm
      by_cases c44 : ((xs (v3).toNatClampNeg) &&& 31) = 7
      · replace hm := ip c44 hm
        refine lv_tableIn (off := 345) (tgt := 387) hx hb d_law_42 (by rw [c44]; decide) (by rw [c44]; decide) (by rw [c44]; rfl) (by decide) ?_
        refine lv_aload_n hx hb d_law_387 rfl (lv_at hl 1 rfl) ?_
        refine lv_aload_n hx hb d_law_388 rfl (lv_at hl 0 rfl) ?_
        refine lv_iload_n hx hb d_law_389 rfl (lv_at hl 3 rfl) ?_
        refine lv_iconst (v := 1) hx hb d_law_390 (by decide) ?_
        refine lv_iadd hx hb d_law_391 ?_
        obtain ⟨b45, hm⟩ := on hm
        refine va_sld hx hb hX hbl hbA hS b45 d_law_392 ?_
        obtain ⟨q46, hq46, hm⟩ := ob hm
        refine inv_mVg (C := R_Log) (As := [.int (xs ((v3 + 1)).toNatClampNeg)]) (rest := []) (v := .int q46.1) (ws' := wl_Log ca ad q46.2 ++ wl_Ref ca bd r) X (c_Log_drop l D ca ad _ g (xs ((v3 + 1)).toNatClampNeg) q46 hq46) g_law_55 yo_Log_drop ⟨Nat.le_of_ble_eq_true rfl, Nat.le_of_ble_eq_true rfl⟩ hl (va_Pl hP) (va_Dl hD) (jn_L hP hD rfl) (ci := 5) rfl rfl hS hA rfl rfl (Nat.le_of_ble_eq_true rfl) ⟨Nat.le_of_ble_eq_true rfl, Nat.le_of_ble_eq_true rfl⟩ d_law_393 (fun H locs hP hD hS => ?_)
        refine lv_pop hx hb d_law_396 rfl ?_
        refine lv_aload_n hx hb d_law_397 rfl (lv_at hl 2 rfl) ?_
        refine lv_aload_n hx hb d_law_398 rfl (lv_at hl 0 rfl) ?_
        refine lv_iload_n hx hb d_law_399 rfl (lv_at hl 3 rfl) ?_
        refine lv_iconst (v := 1) hx hb d_law_400 (by decide) ?_
        refine lv_iadd hx hb d_law_401 ?_
        obtain ⟨b47, hm⟩ := on hm
        refine va_sld hx hb hX hbl hbA hS b47 d_law_402 ?_
        obtain ⟨q48, hq48, hm⟩ := ob hm
        refine inv_mVg (C := R_RRef) (As := [.int (xs ((v3 + 1)).toNatClampNeg)]) (rest := []) (v := .int q48.1) (ws' := wl_Log ca ad q46.2 ++ wl_Ref ca bd q48.2) X (c_RRef_drop l D ca bd _ r (xs ((v3 + 1)).toNatClampNeg) q48 hq48) g_law_58 yo_RRef_drop ⟨Nat.le_of_ble_eq_true rfl, Nat.le_of_ble_eq_true rfl⟩ hl (va_Pr hP) (va_Dr hD) (jn_R hP hD rfl) (ci := 6) rfl rfl hS hA rfl rfl (Nat.le_of_ble_eq_true rfl) ⟨Nat.le_of_ble_eq_true rfl, Nat.le_of_ble_eq_true rfl⟩ d_law_403 (fun H locs hP hD hS => ?_)
        refine lv_pop hx hb d_law_406 rfl ?_
        refine lv_goto (tgt := 831) hx hb d_law_407 (by decide) ?_
        refine lv_iinc (v := (v3 + 4)) (lv' := [(3, .int (v3 + 4)), (0, .ref b), (1, .ref (ad 0)), (2, .ref (bd 0))]) hx hb d_law_831 hl (k := 3) rfl rfl (by decide) rfl (fun ls hl => ?_)
        have hl := lv_sub hl [1, 2, 3, 0] rfl
        replace hl : lv_has ls 4 [(0, .ref b), (1, .ref (ad 0)), (2, .ref (bd 0)), (3, .int (v3 + 4))] := hl
        refine lv_goto (tgt := 28) hx hb d_law_834 (by decide) ?_
        exact ih q46.2 q48.2 (v3 + 4) hm _ _ hP hD hS ls hl
      replace hm := ineg c44 hm
      by_cases c49 : ((xs (v3).toNatClampNeg) &&& 31) = 8
      · replace hm := ip c49 hm
        refine lv_tableIn (off := 368) (tgt := 410) hx hb d_law_42 (by rw [c49]; decide) (by rw [c49]; decide) (by rw [c49]; rfl) (by decide) ?_
        refine lv_aload_n hx hb d_law_410 rfl (lv_at hl 1 rfl) ?_
        refine lv_aload_n hx hb d_law_411 rfl (lv_at hl 0 rfl) ?_
        refine lv_iload_n hx hb d_law_412 rfl (lv_at hl 3 rfl) ?_
        refine lv_iconst (v := 1) hx hb d_law_413 (by decide) ?_
        refine lv_iadd hx hb d_law_414 ?_
        obtain ⟨b50, hm⟩ := on hm
        refine va_sld hx hb hX hbl hbA hS b50 d_law_415 ?_
        obtain ⟨q51, hq51, hm⟩ := ob hm
        refine inv_mVg (C := R_Log) (As := [.int (xs ((v3 + 1)).toNatClampNeg)]) (rest := []) (v := .int q51.1) (ws' := wl_Log ca ad q51.2 ++ wl_Ref ca bd r) X (c_Log_cut l D ca ad _ g (xs ((v3 + 1)).toNatClampNeg) q51 hq51) g_law_59 yo_Log_cut ⟨Nat.le_of_ble_eq_true rfl, Nat.le_of_ble_eq_true rfl⟩ hl (va_Pl hP) (va_Dl hD) (jn_L hP hD rfl) (ci := 5) rfl rfl hS hA rfl rfl (Nat.le_of_ble_eq_true rfl) ⟨Nat.le_of_ble_eq_true rfl, Nat.le_of_ble_eq_true rfl⟩ d_law_416 (fun H locs hP hD hS => ?_)
        refine lv_pop hx hb d_law_419 rfl ?_
        refine lv_aload_n hx hb d_law_420 rfl (lv_at hl 2 rfl) ?_
        refine lv_aload_n hx hb d_law_421 rfl (lv_at hl 0 rfl) ?_
        refine lv_iload_n hx hb d_law_422 rfl (lv_at hl 3 rfl) ?_
        refine lv_iconst (v := 1) hx hb d_law_423 (by decide) ?_
        refine lv_iadd hx hb d_law_424 ?_
        obtain ⟨b52, hm⟩ := on hm
        refine va_sld hx hb hX hbl hbA hS b52 d_law_425 ?_
        obtain ⟨q53, hq53, hm⟩ := ob hm
        refine inv_mVg (C := R_RRef) (As := [.int (xs ((v3 + 1)).toNatClampNeg)]) (rest := []) (v := .int q53.1) (ws' := wl_Log ca ad q51.2 ++ wl_Ref ca bd q53.2) X (c_RRef_cut l D ca bd _ r (xs ((v3 + 1)).toNatClampNeg) q53 hq53) g_law_63 yo_RRef_cut ⟨Nat.le_of_ble_eq_true rfl, Nat.le_of_ble_eq_true rfl⟩ hl (va_Pr hP) (va_Dr hD) (jn_R hP hD rfl) (ci := 6) rfl rfl hS hA rfl rfl (Nat.le_of_ble_eq_true rfl) ⟨Nat.le_of_ble_eq_true rfl, Nat.le_of_ble_eq_true rfl⟩ d_law_426 (fun H locs hP hD hS => ?_)
        refine lv_pop hx hb d_law_429 rfl ?_
        refine lv_goto (tgt := 831) hx hb d_law_430 (by decide) ?_
        refine lv_iinc (v := (v3 + 4)) (lv' := [(3, .int (v3 + 4)), (0, .ref b), (1, .ref (ad 0)), (2, .ref (bd 0))]) hx hb d_law_831 hl (k := 3) rfl rfl (by decide) rfl (fun ls hl => ?_)
        have hl := lv_sub hl [1, 2, 3, 0] rfl
        replace hl : lv_has ls 4 [(0, .ref b), (1, .ref (ad 0)), (2, .ref (bd 0)), (3, .int (v3 + 4))] := hl
        refine lv_goto (tgt := 28) hx hb d_law_834 (by decide) ?_
        exact ih q51.2 q53.2 (v3 + 4) hm _ _ hP hD hS ls hl
      replace hm := ineg c49 hm
      by_cases c54 : ((xs (v3).toNatClampNeg) &&& 31) = 9
      · replace hm := ip c54 hm
        refine lv_tableIn (off := 391) (tgt := 433) hx hb d_law_42 (by rw [c54]; decide) (by rw [c54]; decide) (by rw [c54]; rfl) (by decide) ?_
        refine lv_aload_n hx hb d_law_433 rfl (lv_at hl 1 rfl) ?_
        obtain ⟨q55, hq55, hm⟩ := ob hm
        refine inv_mVg (C := R_Log) (As := []) (rest := []) (v := .int q55.1) (ws' := wl_Log ca ad q55.2 ++ wl_Ref ca bd r) X (c_Log_close l D ca ad _ g q55 hq55) g_law_64 yo_Log_close ⟨Nat.le_of_ble_eq_true rfl, Nat.le_of_ble_eq_true rfl⟩ hl (va_Pl hP) (va_Dl hD) (jn_L hP hD rfl) (ci := 5) rfl rfl hS hA rfl rfl (Nat.le_of_ble_eq_true rfl) ⟨Nat.le_of_ble_eq_true rfl, Nat.le_of_ble_eq_true rfl⟩ d_law_434 (fun H locs hP hD hS => ?_)
        refine lv_pop hx hb d_law_437 rfl ?_
        refine lv_aload_n hx hb d_law_438 rfl (lv_at hl 2 rfl) ?_
        obtain ⟨q56, hq56, hm⟩ := ob hm
        refine inv_mVg (C := R_RRef) (As := []) (rest := []) (v := .int q56.1) (ws' := wl_Log ca ad q55.2 ++ wl_Ref ca bd q56.2) X (c_RRef_close l D ca bd _ r q56 hq56) g_law_68 yo_RRef_close ⟨Nat.le_of_ble_eq_true rfl, Nat.le_of_ble_eq_true rfl⟩ hl (va_Pr hP) (va_Dr hD) (jn_R hP hD rfl) (ci := 6) rfl rfl hS hA rfl rfl (Nat.le_of_ble_eq_true rfl) ⟨Nat.le_of_ble_eq_true rfl, Nat.le_of_ble_eq_true rfl⟩ d_law_439 (fun H locs hP hD hS => ?_)
        refine lv_pop hx hb d_law_442 rfl ?_
        refine lv_goto (tgt := 831) hx hb d_law_443 (by decide) ?_
        refine lv_iinc (v := (v3 + 4)) (lv' := [(3, .int (v3 + 4)), (0, .ref b), (1, .ref (ad 0)), (2, .ref (bd 0))]) hx hb d_law_831 hl (k := 3) rfl rfl (by decide) rfl (fun ls hl => ?_)
        have hl := lv_sub hl [1, 2, 3, 0] rfl
        replace hl : lv_has ls 4 [(0, .ref b), (1, .ref (ad 0)), (2, .ref (bd 0)), (3, .int (v3 + 4))] := hl
        refine lv_goto (tgt := 28) hx hb d_law_834 (by decide) ?_
        exact ih q55.2 q56.2 (v3 + 4) hm _ _ hP hD hS ls hl
      replace hm := ineg c54 hm
      by_cases c57 : ((xs (v3).toNatClampNeg) &&& 31) = 10
      · replace hm := ip c57 hm
        refine lv_tableIn (off := 404) (tgt := 446) hx hb d_law_42 (by rw [c57]; decide) (by rw [c57]; decide) (by rw [c57]; rfl) (by decide) ?_
        refine lv_aload_n hx hb d_law_446 rfl (lv_at hl 1 rfl) ?_
        obtain ⟨q58, hq58, hm⟩ := ob hm
        refine inv_mVg (C := R_Log) (As := []) (rest := []) (v := .int q58.1) (ws' := wl_Log ca ad q58.2 ++ wl_Ref ca bd r) X (c_Log_open_ l D ca ad _ g q58 hq58) g_law_69 yo_Log_open_ ⟨Nat.le_of_ble_eq_true rfl, Nat.le_of_ble_eq_true rfl⟩ hl (va_Pl hP) (va_Dl hD) (jn_L hP hD rfl) (ci := 5) rfl rfl hS hA rfl rfl (Nat.le_of_ble_eq_true rfl) ⟨Nat.le_of_ble_eq_true rfl, Nat.le_of_ble_eq_true rfl⟩ d_law_447 (fun H locs hP hD hS => ?_)
        refine lv_pop hx hb d_law_450 rfl ?_
        refine lv_aload_n hx hb d_law_451 rfl (lv_at hl 2 rfl) ?_
        obtain ⟨q59, hq59, hm⟩ := ob hm
        refine inv_mVg (C := R_RRef) (As := []) (rest := []) (v := .int q59.1) (ws' := wl_Log ca ad q58.2 ++ wl_Ref ca bd q59.2) X (c_RRef_open_ l D ca bd _ r q59 hq59) g_law_72 yo_RRef_open_ ⟨Nat.le_of_ble_eq_true rfl, Nat.le_of_ble_eq_true rfl⟩ hl (va_Pr hP) (va_Dr hD) (jn_R hP hD rfl) (ci := 6) rfl rfl hS hA rfl rfl (Nat.le_of_ble_eq_true rfl) ⟨Nat.le_of_ble_eq_true rfl, Nat.le_of_ble_eq_true rfl⟩ d_law_452 (fun H locs hP hD hS => ?_)
        refine lv_pop hx hb d_law_455 rfl ?_
        refine lv_goto (tgt := 831) hx hb d_law_456 (by decide) ?_
        refine lv_iinc (v := (v3 + 4)) (lv' := [(3, .int (v3 + 4)), (0, .ref b), (1, .ref (ad 0)), (2, .ref (bd 0))]) hx hb d_law_831 hl (k := 3) rfl rfl (by decide) rfl (fun ls hl => ?_)
        have hl := lv_sub hl [1, 2, 3, 0] rfl
        replace hl : lv_has ls 4 [(0, .ref b), (1, .ref (ad 0)), (2, .ref (bd 0)), (3, .int (v3 + 4))] := hl
        refine lv_goto (tgt := 28) hx hb d_law_834 (by decide) ?_
        exact ih q58.2 q59.2 (v3 + 4) hm _ _ hP hD hS ls hl
      replace hm := ineg c57 hm
      by_cases c60 : ((xs (v3).toNatClampNeg) &&& 31) = 11
      · replace hm := ip c60 hm
        refine lv_tableIn (off := 417) (tgt := 459) hx hb d_law_42 (by rw [c60]; decide) (by rw [c60]; decide) (by rw [c60]; rfl) (by decide) ?_
        refine lv_aload_n hx hb d_law_459 rfl (lv_at hl 1 rfl) ?_
        obtain ⟨q61, hq61, hm⟩ := ob hm
        refine inv_rVg (C := R_Log) (As := []) (rest := []) (v := .int q61) X (c_Log_usable l D ca ad _ g q61 hq61) g_law_73 yo_Log_usable ⟨Nat.le_of_ble_eq_true rfl, Nat.le_of_ble_eq_true rfl⟩ hl (va_Pl hP) (va_Dl hD) (ci := 5) rfl rfl hP hS hA rfl rfl (Nat.le_of_ble_eq_true rfl) ⟨Nat.le_of_ble_eq_true rfl, Nat.le_of_ble_eq_true rfl⟩ d_law_460 (fun H locs hP hS => ?_)
        refine lv_pop hx hb d_law_463 rfl ?_
        refine lv_aload_n hx hb d_law_464 rfl (lv_at hl 2 rfl) ?_
        obtain ⟨q62, hq62, hm⟩ := ob hm
        refine inv_rVg (C := R_RRef) (As := []) (rest := []) (v := .int q62) X (c_RRef_usable l D ca bd _ r q62 hq62) g_law_76 yo_RRef_usable ⟨Nat.le_of_ble_eq_true rfl, Nat.le_of_ble_eq_true rfl⟩ hl (va_Pr hP) (va_Dr hD) (ci := 6) rfl rfl hP hS hA rfl rfl (Nat.le_of_ble_eq_true rfl) ⟨Nat.le_of_ble_eq_true rfl, Nat.le_of_ble_eq_true rfl⟩ d_law_465 (fun H locs hP hS => ?_)
        refine lv_pop hx hb d_law_468 rfl ?_
        refine lv_goto (tgt := 831) hx hb d_law_469 (by decide) ?_
        refine lv_iinc (v := (v3 + 4)) (lv' := [(3, .int (v3 + 4)), (0, .ref b), (1, .ref (ad 0)), (2, .ref (bd 0))]) hx hb d_law_831 hl (k := 3) rfl rfl (by decide) rfl (fun ls hl => ?_)
        have hl := lv_sub hl [1, 2, 3, 0] rfl
        replace hl : lv_has ls 4 [(0, .ref b), (1, .ref (ad 0)), (2, .ref (bd 0)), (3, .int (v3 + 4))] := hl
        refine lv_goto (tgt := 28) hx hb d_law_834 (by decide) ?_
        exact ih g r (v3 + 4) hm _ _ hP hD hS ls hl
      replace hm := ineg c60 hm
      by_cases c63 : ((xs (v3).toNatClampNeg) &&& 31) = 12
      · replace hm := ip c63 hm
        refine lv_tableIn (off := 430) (tgt := 472) hx hb d_law_42 (by rw [c63]; decide) (by rw [c63]; decide) (by rw [c63]; rfl) (by decide) ?_
        refine lv_aload_n hx hb d_law_472 rfl (lv_at hl 1 rfl) ?_
        refine lv_aload_n hx hb d_law_473 rfl (lv_at hl 0 rfl) ?_
        refine lv_iload_n hx hb d_law_474 rfl (lv_at hl 3 rfl) ?_
        refine lv_iconst (v := 1) hx hb d_law_475 (by decide) ?_
        refine lv_iadd hx hb d_law_476 ?_
        obtain ⟨b64, hm⟩ := on hm
        refine va_sld hx hb hX hbl hbA hS b64 d_law_477 ?_
        obtain ⟨q65, hq65, hm⟩ := ob hm
        refine inv_rVg (C := R_Log) (As := [.int (xs ((v3 + 1)).toNatClampNeg)]) (rest := []) (v := .int q65) X (c_Log_whole l D ca ad _ g (xs ((v3 + 1)).toNatClampNeg) q65 hq65) g_law_77 yo_Log_whole ⟨Nat.le_of_ble_eq_true rfl, Nat.le_of_ble_eq_true rfl⟩ hl (va_Pl hP) (va_Dl hD) (ci := 5) rfl rfl hP hS hA rfl rfl (Nat.le_of_ble_eq_true rfl) ⟨Nat.le_of_ble_eq_true rfl, Nat.le_of_ble_eq_true rfl⟩ d_law_478 (fun H locs hP hS => ?_)
        refine lv_pop hx hb d_law_481 rfl ?_
        refine lv_aload_n hx hb d_law_482 rfl (lv_at hl 2 rfl) ?_
        refine lv_aload_n hx hb d_law_483 rfl (lv_at hl 0 rfl) ?_
        refine lv_iload_n hx hb d_law_484 rfl (lv_at hl 3 rfl) ?_
        refine lv_iconst (v := 1) hx hb d_law_485 (by decide) ?_
        refine lv_iadd hx hb d_law_486 ?_
        obtain ⟨b66, hm⟩ := on hm
        refine va_sld hx hb hX hbl hbA hS b66 d_law_487 ?_
        obtain ⟨q67, hq67, hm⟩ := ob hm
        refine inv_rVg (C := R_RRef) (As := [.int (xs ((v3 + 1)).toNatClampNeg)]) (rest := []) (v := .int q67) X (c_RRef_whole l D ca bd _ r (xs ((v3 + 1)).toNatClampNeg) q67 hq67) g_law_80 yo_RRef_whole ⟨Nat.le_of_ble_eq_true rfl, Nat.le_of_ble_eq_true rfl⟩ hl (va_Pr hP) (va_Dr hD) (ci := 6) rfl rfl hP hS hA rfl rfl (Nat.le_of_ble_eq_true rfl) ⟨Nat.le_of_ble_eq_true rfl, Nat.le_of_ble_eq_true rfl⟩ d_law_488 (fun H locs hP hS => ?_)
        refine lv_pop hx hb d_law_491 rfl ?_
        refine lv_goto (tgt := 831) hx hb d_law_492 (by decide) ?_
        refine lv_iinc (v := (v3 + 4)) (lv' := [(3, .int (v3 + 4)), (0, .ref b), (1, .ref (ad 0)), (2, .ref (bd 0))]) hx hb d_law_831 hl (k := 3) rfl rfl (by decide) rfl (fun ls hl => ?_)
        have hl := lv_sub hl [1, 2, 3, 0] rfl
        replace hl : lv_has ls 4 [(0, .ref b), (1, .ref (ad 0)), (2, .ref (bd 0)), (3, .int (v3 + 4))] := hl
        refine lv_goto (tgt := 28) hx hb d_law_834 (by decide) ?_
        exact ih g r (v3 + 4) hm _ _ hP hD hS ls hl
      replace hm := ineg c63 hm
      by_cases c68 : ((xs (v3).toNatClampNeg) &&& 31) = 13
      · replace hm := ip c68 hm
        refine lv_tableIn (off := 453) (tgt := 495) hx hb d_law_42 (by rw [c68]; decide) (by rw [c68]; decide) (by rw [c68]; rfl) (by decide) ?_
        refine lv_aload_n hx hb d_law_495 rfl (lv_at hl 1 rfl) ?_
        refine lv_aload_n hx hb d_law_496 rfl (lv_at hl 0 rfl) ?_
        refine lv_iload_n hx hb d_law_497 rfl (lv_at hl 3 rfl) ?_
        refine lv_iconst (v := 1) hx hb d_law_498 (by decide) ?_
        refine lv_iadd hx hb d_law_499 ?_
        obtain ⟨b69, hm⟩ := on hm
        refine va_sld hx hb hX hbl hbA hS b69 d_law_500 ?_
        obtain ⟨q70, hq70, hm⟩ := ob hm
        refine inv_rVg (C := R_Log) (As := [.int (xs ((v3 + 1)).toNatClampNeg)]) (rest := []) (v := .int q70) X (c_Log_marks l D ca ad _ g (xs ((v3 + 1)).toNatClampNeg) q70 hq70) g_law_81 yo_Log_marks ⟨Nat.le_of_ble_eq_true rfl, Nat.le_of_ble_eq_true rfl⟩ hl (va_Pl hP) (va_Dl hD) (ci := 5) rfl rfl hP hS hA rfl rfl (Nat.le_of_ble_eq_true rfl) ⟨Nat.le_of_ble_eq_true rfl, Nat.le_of_ble_eq_true rfl⟩ d_law_501 (fun H locs hP hS => ?_)
        refine lv_pop hx hb d_law_504 rfl ?_
        refine lv_aload_n hx hb d_law_505 rfl (lv_at hl 2 rfl) ?_
        refine lv_aload_n hx hb d_law_506 rfl (lv_at hl 0 rfl) ?_
        refine lv_iload_n hx hb d_law_507 rfl (lv_at hl 3 rfl) ?_
        refine lv_iconst (v := 1) hx hb d_law_508 (by decide) ?_
        refine lv_iadd hx hb d_law_509 ?_
        obtain ⟨b71, hm⟩ := on hm
        refine va_sld hx hb hX hbl hbA hS b71 d_law_510 ?_
        obtain ⟨q72, hq72, hm⟩ := ob hm
        refine inv_rVg (C := R_RRef) (As := [.int (xs ((v3 + 1)).toNatClampNeg)]) (rest := []) (v := .int q72) X (c_RRef_marks l D ca bd _ r (xs ((v3 + 1)).toNatClampNeg) q72 hq72) g_law_84 yo_RRef_marks ⟨Nat.le_of_ble_eq_true rfl, Nat.le_of_ble_eq_true rfl⟩ hl (va_Pr hP) (va_Dr hD) (ci := 6) rfl rfl hP hS hA rfl rfl (Nat.le_of_ble_eq_true rfl) ⟨Nat.le_of_ble_eq_true rfl, Nat.le_of_ble_eq_true rfl⟩ d_law_511 (fun H locs hP hS => ?_)
        refine lv_pop hx hb d_law_514 rfl ?_
        refine lv_goto (tgt := 831) hx hb d_law_515 (by decide) ?_
        refine lv_iinc (v := (v3 + 4)) (lv' := [(3, .int (v3 + 4)), (0, .ref b), (1, .ref (ad 0)), (2, .ref (bd 0))]) hx hb d_law_831 hl (k := 3) rfl rfl (by decide) rfl (fun ls hl => ?_)
        have hl := lv_sub hl [1, 2, 3, 0] rfl
        replace hl : lv_has ls 4 [(0, .ref b), (1, .ref (ad 0)), (2, .ref (bd 0)), (3, .int (v3 + 4))] := hl
        refine lv_goto (tgt := 28) hx hb d_law_834 (by decide) ?_
        exact ih g r (v3 + 4) hm _ _ hP hD hS ls hl
      replace hm := ineg c68 hm
      by_cases c73 : ((xs (v3).toNatClampNeg) &&& 31) = 14
      · replace hm := ip c73 hm
        refine lv_tableIn (off := 476) (tgt := 518) hx hb d_law_42 (by rw [c73]; decide) (by rw [c73]; decide) (by rw [c73]; rfl) (by decide) ?_
        refine lv_aload_n hx hb d_law_518 rfl (lv_at hl 1 rfl) ?_
        refine lv_aload_n hx hb d_law_519 rfl (lv_at hl 0 rfl) ?_
        refine lv_iload_n hx hb d_law_520 rfl (lv_at hl 3 rfl) ?_
        refine lv_iconst (v := 1) hx hb d_law_521 (by decide) ?_
        refine lv_iadd hx hb d_law_522 ?_
        obtain ⟨b74, hm⟩ := on hm
        refine va_sld hx hb hX hbl hbA hS b74 d_law_523 ?_
        refine lv_aload_n hx hb d_law_524 rfl (lv_at hl 0 rfl) ?_
        refine lv_iload_n hx hb d_law_525 rfl (lv_at hl 3 rfl) ?_
        refine lv_iconst (v := 2) hx hb d_law_526 (by decide) ?_
        refine lv_iadd hx hb d_law_527 ?_
        obtain ⟨b75, hm⟩ := on hm
        refine va_sld hx hb hX hbl hbA hS b75 d_law_528 ?_
        obtain ⟨q76, hq76, hm⟩ := ob hm
        refine inv_rVg (C := R_Log) (As := [.int (xs ((v3 + 1)).toNatClampNeg), .int (xs ((v3 + 2)).toNatClampNeg)]) (rest := []) (v := .int q76) X (c_Log_markOf l D ca ad _ g (xs ((v3 + 1)).toNatClampNeg) (xs ((v3 + 2)).toNatClampNeg) q76 hq76) g_law_85 yo_Log_markOf ⟨Nat.le_of_ble_eq_true rfl, Nat.le_of_ble_eq_true rfl⟩ hl (va_Pl hP) (va_Dl hD) (ci := 5) rfl rfl hP hS hA rfl rfl (Nat.le_of_ble_eq_true rfl) ⟨Nat.le_of_ble_eq_true rfl, Nat.le_of_ble_eq_true rfl⟩ d_law_529 (fun H locs hP hS => ?_)
        refine lv_pop hx hb d_law_532 rfl ?_
        refine lv_aload_n hx hb d_law_533 rfl (lv_at hl 2 rfl) ?_
        refine lv_aload_n hx hb d_law_534 rfl (lv_at hl 0 rfl) ?_
        refine lv_iload_n hx hb d_law_535 rfl (lv_at hl 3 rfl) ?_
        refine lv_iconst (v := 1) hx hb d_law_536 (by decide) ?_
        refine lv_iadd hx hb d_law_537 ?_
        obtain ⟨b77, hm⟩ := on hm
        refine va_sld hx hb hX hbl hbA hS b77 d_law_538 ?_
        refine lv_aload_n hx hb d_law_539 rfl (lv_at hl 0 rfl) ?_
        refine lv_iload_n hx hb d_law_540 rfl (lv_at hl 3 rfl) ?_
        refine lv_iconst (v := 2) hx hb d_law_541 (by decide) ?_
        refine lv_iadd hx hb d_law_542 ?_
        obtain ⟨b78, hm⟩ := on hm
        refine va_sld hx hb hX hbl hbA hS b78 d_law_543 ?_
        obtain ⟨q79, hq79, hm⟩ := ob hm
        refine inv_rVg (C := R_RRef) (As := [.int (xs ((v3 + 1)).toNatClampNeg), .int (xs ((v3 + 2)).toNatClampNeg)]) (rest := []) (v := .int q79) X (c_RRef_markOf l D ca bd _ r (xs ((v3 + 1)).toNatClampNeg) (xs ((v3 + 2)).toNatClampNeg) q79 hq79) g_law_89 yo_RRef_markOf ⟨Nat.le_of_ble_eq_true rfl, Nat.le_of_ble_eq_true rfl⟩ hl (va_Pr hP) (va_Dr hD) (ci := 6) rfl rfl hP hS hA rfl rfl (Nat.le_of_ble_eq_true rfl) ⟨Nat.le_of_ble_eq_true rfl, Nat.le_of_ble_eq_true rfl⟩ d_law_544 (fun H locs hP hS => ?_)
        refine lv_pop hx hb d_law_547 rfl ?_
        refine lv_goto (tgt := 831) hx hb d_law_548 (by decide) ?_
        refine lv_iinc (v := (v3 + 4)) (lv' := [(3, .int (v3 + 4)), (0, .ref b), (1, .ref (ad 0)), (2, .ref (bd 0))]) hx hb d_law_831 hl (k := 3) rfl rfl (by decide) rfl (fun ls hl => ?_)
        have hl := lv_sub hl [1, 2, 3, 0] rfl
        replace hl : lv_has ls 4 [(0, .ref b), (1, .ref (ad 0)), (2, .ref (bd 0)), (3, .int (v3 + 4))] := hl
        refine lv_goto (tgt := 28) hx hb d_law_834 (by decide) ?_
        exact ih g r (v3 + 4) hm _ _ hP hD hS ls hl
      replace hm := ineg c73 hm
      by_cases c80 : ((xs (v3).toNatClampNeg) &&& 31) = 15
      · replace hm := ip c80 hm
        refine lv_tableIn (off := 509) (tgt := 551) hx hb d_law_42 (by rw [c80]; decide) (by rw [c80]; decide) (by rw [c80]; rfl) (by decide) ?_
        refine lv_aload_n hx hb d_law_551 rfl (lv_at hl 1 rfl) ?_
        refine lv_aload_n hx hb d_law_552 rfl (lv_at hl 0 rfl) ?_
        refine lv_iload_n hx hb d_law_553 rfl (lv_at hl 3 rfl) ?_
        refine lv_iconst (v := 1) hx hb d_law_554 (by decide) ?_
        refine lv_iadd hx hb d_law_555 ?_
        obtain ⟨b81, hm⟩ := on hm
        refine va_sld hx hb hX hbl hbA hS b81 d_law_556 ?_
        refine lv_aload_n hx hb d_law_557 rfl (lv_at hl 0 rfl) ?_
        refine lv_iload_n hx hb d_law_558 rfl (lv_at hl 3 rfl) ?_
        refine lv_iconst (v := 2) hx hb d_law_559 (by decide) ?_
        refine lv_iadd hx hb d_law_560 ?_
        obtain ⟨b82, hm⟩ := on hm
        refine va_sld hx hb hX hbl hbA hS b82 d_law_561 ?_
        obtain ⟨q83, hq83, hm⟩ := ob hm
        refine inv_rVg (C := R_Log) (As := [.int (xs ((v3 + 1)).toNatClampNeg), .int (xs ((v3 + 2)).toNatClampNeg)]) (rest := []) (v := .long q83) X (c_Log_partOf l D ca ad _ g (xs ((v3 + 1)).toNatClampNeg) (xs ((v3 + 2)).toNatClampNeg) q83 hq83) g_law_90 yo_Log_partOf ⟨Nat.le_of_ble_eq_true rfl, Nat.le_of_ble_eq_true rfl⟩ hl (va_Pl hP) (va_Dl hD) (ci := 5) rfl rfl hP hS hA rfl rfl (Nat.le_of_ble_eq_true rfl) ⟨Nat.le_of_ble_eq_true rfl, Nat.le_of_ble_eq_true rfl⟩ d_law_562 (fun H locs hP hS => ?_)
        refine lv_pop2_2 hx hb d_law_565 rfl ?_
        refine lv_aload_n hx hb d_law_566 rfl (lv_at hl 2 rfl) ?_
        refine lv_aload_n hx hb d_law_567 rfl (lv_at hl 0 rfl) ?_
        refine lv_iload_n hx hb d_law_568 rfl (lv_at hl 3 rfl) ?_
        refine lv_iconst (v := 1) hx hb d_law_569 (by decide) ?_
        refine lv_iadd hx hb d_law_570 ?_
        obtain ⟨b84, hm⟩ := on hm
        refine va_sld hx hb hX hbl hbA hS b84 d_law_571 ?_
        refine lv_aload_n hx hb d_law_572 rfl (lv_at hl 0 rfl) ?_
        refine lv_iload_n hx hb d_law_573 rfl (lv_at hl 3 rfl) ?_
        refine lv_iconst (v := 2) hx hb d_law_574 (by decide) ?_
        refine lv_iadd hx hb d_law_575 ?_
        obtain ⟨b85, hm⟩ := on hm
        refine va_sld hx hb hX hbl hbA hS b85 d_law_576 ?_
        obtain ⟨q86, hq86, hm⟩ := ob hm
        refine inv_rVg (C := R_RRef) (As := [.int (xs ((v3 + 1)).toNatClampNeg), .int (xs ((v3 + 2)).toNatClampNeg)]) (rest := []) (v := .long q86) X (c_RRef_partOf l D ca bd _ r (xs ((v3 + 1)).toNatClampNeg) (xs ((v3 + 2)).toNatClampNeg) q86 hq86) g_law_94 yo_RRef_partOf ⟨Nat.le_of_ble_eq_true rfl, Nat.le_of_ble_eq_true rfl⟩ hl (va_Pr hP) (va_Dr hD) (ci := 6) rfl rfl hP hS hA rfl rfl (Nat.le_of_ble_eq_true rfl) ⟨Nat.le_of_ble_eq_true rfl, Nat.le_of_ble_eq_true rfl⟩ d_law_577 (fun H locs hP hS => ?_)
        refine lv_pop2_2 hx hb d_law_580 rfl ?_
        refine lv_goto (tgt := 831) hx hb d_law_581 (by decide) ?_
        refine lv_iinc (v := (v3 + 4)) (lv' := [(3, .int (v3 + 4)), (0, .ref b), (1, .ref (ad 0)), (2, .ref (bd 0))]) hx hb d_law_831 hl (k := 3) rfl rfl (by decide) rfl (fun ls hl => ?_)
        have hl := lv_sub hl [1, 2, 3, 0] rfl
        replace hl : lv_has ls 4 [(0, .ref b), (1, .ref (ad 0)), (2, .ref (bd 0)), (3, .int (v3 + 4))] := hl
        refine lv_goto (tgt := 28) hx hb d_law_834 (by decide) ?_
        exact ih g r (v3 + 4) hm _ _ hP hD hS ls hl
      replace hm := ineg c80 hm
      by_cases c87 : ((xs (v3).toNatClampNeg) &&& 31) = 16
      · replace hm := ip c87 hm
        refine lv_tableIn (off := 542) (tgt := 584) hx hb d_law_42 (by rw [c87]; decide) (by rw [c87]; decide) (by rw [c87]; rfl) (by decide) ?_
        refine lv_aload_n hx hb d_law_584 rfl (lv_at hl 1 rfl) ?_
        refine lv_aload_n hx hb d_law_585 rfl (lv_at hl 0 rfl) ?_
        refine lv_iload_n hx hb d_law_586 rfl (lv_at hl 3 rfl) ?_
        refine lv_iconst (v := 1) hx hb d_law_587 (by decide) ?_
        refine lv_iadd hx hb d_law_588 ?_
        obtain ⟨b88, hm⟩ := on hm
        refine va_sld hx hb hX hbl hbA hS b88 d_law_589 ?_
        refine lv_aload_n hx hb d_law_590 rfl (lv_at hl 0 rfl) ?_
        refine lv_iload_n hx hb d_law_591 rfl (lv_at hl 3 rfl) ?_
        refine lv_iconst (v := 2) hx hb d_law_592 (by decide) ?_
        refine lv_iadd hx hb d_law_593 ?_
        obtain ⟨b89, hm⟩ := on hm
        refine va_sld hx hb hX hbl hbA hS b89 d_law_594 ?_
        obtain ⟨q90, hq90, hm⟩ := ob hm
        refine inv_rVg (C := R_Log) (As := [.int (xs ((v3 + 1)).toNatClampNeg), .int (xs ((v3 + 2)).toNatClampNeg)]) (rest := []) (v := .int q90) X (c_Log_partByte l D ca ad _ g (xs ((v3 + 1)).toNatClampNeg) (xs ((v3 + 2)).toNatClampNeg) q90 hq90) g_law_95 yo_Log_partByte ⟨Nat.le_of_ble_eq_true rfl, Nat.le_of_ble_eq_true rfl⟩ hl (va_Pl hP) (va_Dl hD) (ci := 5) rfl rfl hP hS hA rfl rfl (Nat.le_of_ble_eq_true rfl) ⟨Nat.le_of_ble_eq_true rfl, Nat.le_of_ble_eq_true rfl⟩ d_law_595 (fun H locs hP hS => ?_)
        refine lv_pop hx hb d_law_598 rfl ?_
        refine lv_aload_n hx hb d_law_599 rfl (lv_at hl 2 rfl) ?_
        refine lv_aload_n hx hb d_law_600 rfl (lv_at hl 0 rfl) ?_
        refine lv_iload_n hx hb d_law_601 rfl (lv_at hl 3 rfl) ?_
        refine lv_iconst (v := 1) hx hb d_law_602 (by decide) ?_
        refine lv_iadd hx hb d_law_603 ?_
        obtain ⟨b91, hm⟩ := on hm
        refine va_sld hx hb hX hbl hbA hS b91 d_law_604 ?_
        refine lv_aload_n hx hb d_law_605 rfl (lv_at hl 0 rfl) ?_
        refine lv_iload_n hx hb d_law_606 rfl (lv_at hl 3 rfl) ?_
        refine lv_iconst (v := 2) hx hb d_law_607 (by decide) ?_
        refine lv_iadd hx hb d_law_608 ?_
        obtain ⟨b92, hm⟩ := on hm
        refine va_sld hx hb hX hbl hbA hS b92 d_law_609 ?_
        obtain ⟨q93, hq93, hm⟩ := ob hm
        refine inv_rVg (C := R_RRef) (As := [.int (xs ((v3 + 1)).toNatClampNeg), .int (xs ((v3 + 2)).toNatClampNeg)]) (rest := []) (v := .int q93) X (c_RRef_partByte l D ca bd _ r (xs ((v3 + 1)).toNatClampNeg) (xs ((v3 + 2)).toNatClampNeg) q93 hq93) g_law_98 yo_RRef_partByte ⟨Nat.le_of_ble_eq_true rfl, Nat.le_of_ble_eq_true rfl⟩ hl (va_Pr hP) (va_Dr hD) (ci := 6) rfl rfl hP hS hA rfl rfl (Nat.le_of_ble_eq_true rfl) ⟨Nat.le_of_ble_eq_true rfl, Nat.le_of_ble_eq_true rfl⟩ d_law_610 (fun H locs hP hS => ?_)
        refine lv_pop hx hb d_law_613 rfl ?_
        refine lv_goto (tgt := 831) hx hb d_law_614 (by decide) ?_
        refine lv_iinc (v := (v3 + 4)) (lv' := [(3, .int (v3 + 4)), (0, .ref b), (1, .ref (ad 0)), (2, .ref (bd 0))]) hx hb d_law_831 hl (k := 3) rfl rfl (by decide) rfl (fun ls hl => ?_)
        have hl := lv_sub hl [1, 2, 3, 0] rfl
        replace hl : lv_has ls 4 [(0, .ref b), (1, .ref (ad 0)), (2, .ref (bd 0)), (3, .int (v3 + 4))] := hl
        refine lv_goto (tgt := 28) hx hb d_law_834 (by decide) ?_
        exact ih g r (v3 + 4) hm _ _ hP hD hS ls hl
      replace hm := ineg c87 hm
      by_cases c94 : ((xs (v3).toNatClampNeg) &&& 31) = 17
      · replace hm := ip c94 hm
        refine lv_tableIn (off := 575) (tgt := 617) hx hb d_law_42 (by rw [c94]; decide) (by rw [c94]; decide) (by rw [c94]; rfl) (by decide) ?_
        refine lv_aload_n hx hb d_law_617 rfl (lv_at hl 1 rfl) ?_
        refine lv_aload_n hx hb d_law_618 rfl (lv_at hl 0 rfl) ?_
        refine lv_iload_n hx hb d_law_619 rfl (lv_at hl 3 rfl) ?_
        refine lv_iconst (v := 1) hx hb d_law_620 (by decide) ?_
        refine lv_iadd hx hb d_law_621 ?_
        obtain ⟨b95, hm⟩ := on hm
        refine va_sld hx hb hX hbl hbA hS b95 d_law_622 ?_
        obtain ⟨q96, hq96, hm⟩ := ob hm
        refine inv_rVg (C := R_Log) (As := [.int (xs ((v3 + 1)).toNatClampNeg)]) (rest := []) (v := .int q96) X (c_Log_named l D ca ad _ g (xs ((v3 + 1)).toNatClampNeg) q96 hq96) g_law_99 yo_Log_named ⟨Nat.le_of_ble_eq_true rfl, Nat.le_of_ble_eq_true rfl⟩ hl (va_Pl hP) (va_Dl hD) (ci := 5) rfl rfl hP hS hA rfl rfl (Nat.le_of_ble_eq_true rfl) ⟨Nat.le_of_ble_eq_true rfl, Nat.le_of_ble_eq_true rfl⟩ d_law_623 (fun H locs hP hS => ?_)
        refine lv_pop hx hb d_law_626 rfl ?_
        refine lv_aload_n hx hb d_law_627 rfl (lv_at hl 2 rfl) ?_
        refine lv_aload_n hx hb d_law_628 rfl (lv_at hl 0 rfl) ?_
        refine lv_iload_n hx hb d_law_629 rfl (lv_at hl 3 rfl) ?_
        refine lv_iconst (v := 1) hx hb d_law_630 (by decide) ?_
        refine lv_iadd hx hb d_law_631 ?_
        obtain ⟨b97, hm⟩ := on hm
        refine va_sld hx hb hX hbl hbA hS b97 d_law_632 ?_
        obtain ⟨q98, hq98, hm⟩ := ob hm
        refine inv_rVg (C := R_RRef) (As := [.int (xs ((v3 + 1)).toNatClampNeg)]) (rest := []) (v := .int q98) X (c_RRef_named l D ca bd _ r (xs ((v3 + 1)).toNatClampNeg) q98 hq98) g_law_102 yo_RRef_named ⟨Nat.le_of_ble_eq_true rfl, Nat.le_of_ble_eq_true rfl⟩ hl (va_Pr hP) (va_Dr hD) (ci := 6) rfl rfl hP hS hA rfl rfl (Nat.le_of_ble_eq_true rfl) ⟨Nat.le_of_ble_eq_true rfl, Nat.le_of_ble_eq_true rfl⟩ d_law_633 (fun H locs hP hS => ?_)
        refine lv_pop hx hb d_law_636 rfl ?_
        refine lv_goto (tgt := 831) hx hb d_law_637 (by decide) ?_
        refine lv_iinc (v := (v3 + 4)) (lv' := [(3, .int (v3 + 4)), (0, .ref b), (1, .ref (ad 0)), (2, .ref (bd 0))]) hx hb d_law_831 hl (k := 3) rfl rfl (by decide) rfl (fun ls hl => ?_)
        have hl := lv_sub hl [1, 2, 3, 0] rfl
        replace hl : lv_has ls 4 [(0, .ref b), (1, .ref (ad 0)), (2, .ref (bd 0)), (3, .int (v3 + 4))] := hl
        refine lv_goto (tgt := 28) hx hb d_law_834 (by decide) ?_
        exact ih g r (v3 + 4) hm _ _ hP hD hS ls hl
      replace hm := ineg c94 hm
      by_cases c99 : ((xs (v3).toNatClampNeg) &&& 31) = 18
      · replace hm := ip c99 hm
        refine lv_tableIn (off := 598) (tgt := 640) hx hb d_law_42 (by rw [c99]; decide) (by rw [c99]; decide) (by rw [c99]; rfl) (by decide) ?_
        refine lv_aload_n hx hb d_law_640 rfl (lv_at hl 1 rfl) ?_
        obtain ⟨q100, hq100, hm⟩ := ob hm
        refine inv_rVg (C := R_Log) (As := []) (rest := []) (v := .int q100) X (c_Log_badAt l D ca ad _ g q100 hq100) g_law_103 yo_Log_badAt ⟨Nat.le_of_ble_eq_true rfl, Nat.le_of_ble_eq_true rfl⟩ hl (va_Pl hP) (va_Dl hD) (ci := 5) rfl rfl hP hS hA rfl rfl (Nat.le_of_ble_eq_true rfl) ⟨Nat.le_of_ble_eq_true rfl, Nat.le_of_ble_eq_true rfl⟩ d_law_641 (fun H locs hP hS => ?_)
        refine lv_pop hx hb d_law_644 rfl ?_
        refine lv_aload_n hx hb d_law_645 rfl (lv_at hl 2 rfl) ?_
        obtain ⟨q101, hq101, hm⟩ := ob hm
        refine inv_rVg (C := R_RRef) (As := []) (rest := []) (v := .int q101) X (c_RRef_badAt l D ca bd _ r q101 hq101) g_law_106 yo_RRef_badAt ⟨Nat.le_of_ble_eq_true rfl, Nat.le_of_ble_eq_true rfl⟩ hl (va_Pr hP) (va_Dr hD) (ci := 6) rfl rfl hP hS hA rfl rfl (Nat.le_of_ble_eq_true rfl) ⟨Nat.le_of_ble_eq_true rfl, Nat.le_of_ble_eq_true rfl⟩ d_law_646 (fun H locs hP hS => ?_)
        refine lv_pop hx hb d_law_649 rfl ?_
        refine lv_goto (tgt := 831) hx hb d_law_650 (by decide) ?_
        refine lv_iinc (v := (v3 + 4)) (lv' := [(3, .int (v3 + 4)), (0, .ref b), (1, .ref (ad 0)), (2, .ref (bd 0))]) hx hb d_law_831 hl (k := 3) rfl rfl (by decide) rfl (fun ls hl => ?_)
        have hl := lv_sub hl [1, 2, 3, 0] rfl
        replace hl : lv_has ls 4 [(0, .ref b), (1, .ref (ad 0)), (2, .ref (bd 0)), (3, .int (v3 + 4))] := hl
        refine lv_goto (tgt := 28) hx hb d_law_834 (by decide) ?_
        exact ih g r (v3 + 4) hm _ _ hP hD hS ls hl
      replace hm := ineg c99 hm
      by_cases c102 : ((xs (v3).toNatClampNeg) &&& 31) = 19
      · replace hm := ip c102 hm
        refine lv_tableIn (off := 611) (tgt := 653) hx hb d_law_42 (by rw [c102]; decide) (by rw [c102]; decide) (by rw [c102]; rfl) (by decide) ?_
        refine lv_aload_n hx hb d_law_653 rfl (lv_at hl 1 rfl) ?_
        refine lv_aload_n hx hb d_law_654 rfl (lv_at hl 0 rfl) ?_
        refine lv_iload_n hx hb d_law_655 rfl (lv_at hl 3 rfl) ?_
        refine lv_iconst (v := 1) hx hb d_law_656 (by decide) ?_
        refine lv_iadd hx hb d_law_657 ?_
        obtain ⟨b103, hm⟩ := on hm
        refine va_sld hx hb hX hbl hbA hS b103 d_law_658 ?_
        refine lv_aload_n hx hb d_law_659 rfl (lv_at hl 0 rfl) ?_
        refine lv_iload_n hx hb d_law_660 rfl (lv_at hl 3 rfl) ?_
        refine lv_iconst (v := 2) hx hb d_law_661 (by decide) ?_
        refine lv_iadd hx hb d_law_662 ?_
        obtain ⟨b104, hm⟩ := on hm
        refine va_sld hx hb hX hbl hbA hS b104 d_law_663 ?_
        refine lv_aload_n hx hb d_law_664 rfl (lv_at hl 0 rfl) ?_
        refine lv_iload_n hx hb d_law_665 rfl (lv_at hl 3 rfl) ?_
        refine lv_iconst (v := 3) hx hb d_law_666 (by decide) ?_
        refine lv_iadd hx hb d_law_667 ?_
        obtain ⟨b105, hm⟩ := on hm
        refine va_sld hx hb hX hbl hbA hS b105 d_law_668 ?_
        obtain ⟨q106, hq106, hm⟩ := ob hm
        refine inv_mVg (C := R_Log) (As := [.int (xs ((v3 + 1)).toNatClampNeg), .int (xs ((v3 + 2)).toNatClampNeg), .int (xs ((v3 + 3)).toNatClampNeg)]) (rest := []) (v := .int q106.1) (ws' := wl_Log ca ad q106.2 ++ wl_Ref ca bd r) X (c_Log_poke l D ca ad _ g (xs ((v3 + 1)).toNatClampNeg) (xs ((v3 + 2)).toNatClampNeg) (xs ((v3 + 3)).toNatClampNeg) q106 hq106) g_law_107 yo_Log_poke ⟨Nat.le_of_ble_eq_true rfl, Nat.le_of_ble_eq_true rfl⟩ hl (va_Pl hP) (va_Dl hD) (jn_L hP hD rfl) (ci := 5) rfl rfl hS hA rfl rfl (Nat.le_of_ble_eq_true rfl) ⟨Nat.le_of_ble_eq_true rfl, Nat.le_of_ble_eq_true rfl⟩ d_law_669 (fun H locs hP hD hS => ?_)
        refine lv_pop hx hb d_law_672 rfl ?_
        refine lv_aload_n hx hb d_law_673 rfl (lv_at hl 2 rfl) ?_
        refine lv_aload_n hx hb d_law_674 rfl (lv_at hl 0 rfl) ?_
        refine lv_iload_n hx hb d_law_675 rfl (lv_at hl 3 rfl) ?_
        refine lv_iconst (v := 1) hx hb d_law_676 (by decide) ?_
        refine lv_iadd hx hb d_law_677 ?_
        obtain ⟨b107, hm⟩ := on hm
        refine va_sld hx hb hX hbl hbA hS b107 d_law_678 ?_
        refine lv_aload_n hx hb d_law_679 rfl (lv_at hl 0 rfl) ?_
        refine lv_iload_n hx hb d_law_680 rfl (lv_at hl 3 rfl) ?_
        refine lv_iconst (v := 2) hx hb d_law_681 (by decide) ?_
        refine lv_iadd hx hb d_law_682 ?_
        obtain ⟨b108, hm⟩ := on hm
        refine va_sld hx hb hX hbl hbA hS b108 d_law_683 ?_
        refine lv_aload_n hx hb d_law_684 rfl (lv_at hl 0 rfl) ?_
        refine lv_iload_n hx hb d_law_685 rfl (lv_at hl 3 rfl) ?_
        refine lv_iconst (v := 3) hx hb d_law_686 (by decide) ?_
        refine lv_iadd hx hb d_law_687 ?_
        obtain ⟨b109, hm⟩ := on hm
        refine va_sld hx hb hX hbl hbA hS b109 d_law_688 ?_
        obtain ⟨q110, hq110, hm⟩ := ob hm
        refine inv_mVg (C := R_RRef) (As := [.int (xs ((v3 + 1)).toNatClampNeg), .int (xs ((v3 + 2)).toNatClampNeg), .int (xs ((v3 + 3)).toNatClampNeg)]) (rest := []) (v := .int q110.1) (ws' := wl_Log ca ad q106.2 ++ wl_Ref ca bd q110.2) X (c_RRef_poke l D ca bd _ r (xs ((v3 + 1)).toNatClampNeg) (xs ((v3 + 2)).toNatClampNeg) (xs ((v3 + 3)).toNatClampNeg) q110 hq110) g_law_111 yo_RRef_poke ⟨Nat.le_of_ble_eq_true rfl, Nat.le_of_ble_eq_true rfl⟩ hl (va_Pr hP) (va_Dr hD) (jn_R hP hD rfl) (ci := 6) rfl rfl hS hA rfl rfl (Nat.le_of_ble_eq_true rfl) ⟨Nat.le_of_ble_eq_true rfl, Nat.le_of_ble_eq_true rfl⟩ d_law_689 (fun H locs hP hD hS => ?_)
        refine lv_pop hx hb d_law_692 rfl ?_
        refine lv_goto (tgt := 831) hx hb d_law_693 (by decide) ?_
        refine lv_iinc (v := (v3 + 4)) (lv' := [(3, .int (v3 + 4)), (0, .ref b), (1, .ref (ad 0)), (2, .ref (bd 0))]) hx hb d_law_831 hl (k := 3) rfl rfl (by decide) rfl (fun ls hl => ?_)
        have hl := lv_sub hl [1, 2, 3, 0] rfl
        replace hl : lv_has ls 4 [(0, .ref b), (1, .ref (ad 0)), (2, .ref (bd 0)), (3, .int (v3 + 4))] := hl
        refine lv_goto (tgt := 28) hx hb d_law_834 (by decide) ?_
        exact ih q106.2 q110.2 (v3 + 4) hm _ _ hP hD hS ls hl
      replace hm := ineg c102 hm
      by_cases c111 : ((xs (v3).toNatClampNeg) &&& 31) = 20
      · replace hm := ip c111 hm
        refine lv_tableIn (off := 654) (tgt := 696) hx hb d_law_42 (by rw [c111]; decide) (by rw [c111]; decide) (by rw [c111]; rfl) (by decide) ?_
        refine lv_aload_n hx hb d_law_696 rfl (lv_at hl 1 rfl) ?_
        refine lv_aload_n hx hb d_law_697 rfl (lv_at hl 0 rfl) ?_
        refine lv_iload_n hx hb d_law_698 rfl (lv_at hl 3 rfl) ?_
        refine lv_iconst (v := 1) hx hb d_law_699 (by decide) ?_
        refine lv_iadd hx hb d_law_700 ?_
        obtain ⟨b112, hm⟩ := on hm
        refine va_sld hx hb hX hbl hbA hS b112 d_law_701 ?_
        refine lv_aload_n hx hb d_law_702 rfl (lv_at hl 0 rfl) ?_
        refine lv_iload_n hx hb d_law_703 rfl (lv_at hl 3 rfl) ?_
        refine lv_iconst (v := 2) hx hb d_law_704 (by decide) ?_
        refine lv_iadd hx hb d_law_705 ?_
        obtain ⟨b113, hm⟩ := on hm
        refine va_sld hx hb hX hbl hbA hS b113 d_law_706 ?_
        obtain ⟨q114, hq114, hm⟩ := ob hm
        refine inv_rVg (C := R_Log) (As := [.int (xs ((v3 + 1)).toNatClampNeg), .int (xs ((v3 + 2)).toNatClampNeg)]) (rest := []) (v := .int q114) X (c_Log_byteAt l D ca ad _ g (xs ((v3 + 1)).toNatClampNeg) (xs ((v3 + 2)).toNatClampNeg) q114 hq114) g_law_112 yo_Log_byteAt ⟨Nat.le_of_ble_eq_true rfl, Nat.le_of_ble_eq_true rfl⟩ hl (va_Pl hP) (va_Dl hD) (ci := 5) rfl rfl hP hS hA rfl rfl (Nat.le_of_ble_eq_true rfl) ⟨Nat.le_of_ble_eq_true rfl, Nat.le_of_ble_eq_true rfl⟩ d_law_707 (fun H locs hP hS => ?_)
        refine lv_pop hx hb d_law_710 rfl ?_
        refine lv_aload_n hx hb d_law_711 rfl (lv_at hl 2 rfl) ?_
        refine lv_aload_n hx hb d_law_712 rfl (lv_at hl 0 rfl) ?_
        refine lv_iload_n hx hb d_law_713 rfl (lv_at hl 3 rfl) ?_
        refine lv_iconst (v := 1) hx hb d_law_714 (by decide) ?_
        refine lv_iadd hx hb d_law_715 ?_
        obtain ⟨b115, hm⟩ := on hm
        refine va_sld hx hb hX hbl hbA hS b115 d_law_716 ?_
        refine lv_aload_n hx hb d_law_717 rfl (lv_at hl 0 rfl) ?_
        refine lv_iload_n hx hb d_law_718 rfl (lv_at hl 3 rfl) ?_
        refine lv_iconst (v := 2) hx hb d_law_719 (by decide) ?_
        refine lv_iadd hx hb d_law_720 ?_
        obtain ⟨b116, hm⟩ := on hm
        refine va_sld hx hb hX hbl hbA hS b116 d_law_721 ?_
        obtain ⟨q117, hq117, hm⟩ := ob hm
        refine inv_rVg (C := R_RRef) (As := [.int (xs ((v3 + 1)).toNatClampNeg), .int (xs ((v3 + 2)).toNatClampNeg)]) (rest := []) (v := .int q117) X (c_RRef_byteAt l D ca bd _ r (xs ((v3 + 1)).toNatClampNeg) (xs ((v3 + 2)).toNatClampNeg) q117 hq117) g_law_115 yo_RRef_byteAt ⟨Nat.le_of_ble_eq_true rfl, Nat.le_of_ble_eq_true rfl⟩ hl (va_Pr hP) (va_Dr hD) (ci := 6) rfl rfl hP hS hA rfl rfl (Nat.le_of_ble_eq_true rfl) ⟨Nat.le_of_ble_eq_true rfl, Nat.le_of_ble_eq_true rfl⟩ d_law_722 (fun H locs hP hS => ?_)
        refine lv_pop hx hb d_law_725 rfl ?_
        refine lv_goto (tgt := 831) hx hb d_law_726 (by decide) ?_
        refine lv_iinc (v := (v3 + 4)) (lv' := [(3, .int (v3 + 4)), (0, .ref b), (1, .ref (ad 0)), (2, .ref (bd 0))]) hx hb d_law_831 hl (k := 3) rfl rfl (by decide) rfl (fun ls hl => ?_)
        have hl := lv_sub hl [1, 2, 3, 0] rfl
        replace hl : lv_has ls 4 [(0, .ref b), (1, .ref (ad 0)), (2, .ref (bd 0)), (3, .int (v3 + 4))] := hl
        refine lv_goto (tgt := 28) hx hb d_law_834 (by decide) ?_
        exact ih g r (v3 + 4) hm _ _ hP hD hS ls hl
      replace hm := ineg c111 hm
      by_cases c118 : ((xs (v3).toNatClampNeg) &&& 31) = 21
      · replace hm := ip c118 hm
        refine lv_tableIn (off := 687) (tgt := 729) hx hb d_law_42 (by rw [c118]; decide) (by rw [c118]; decide) (by rw [c118]; rfl) (by decide) ?_
        refine lv_aload_n hx hb d_law_729 rfl (lv_at hl 1 rfl) ?_
        refine lv_aload_n hx hb d_law_730 rfl (lv_at hl 0 rfl) ?_
        refine lv_iload_n hx hb d_law_731 rfl (lv_at hl 3 rfl) ?_
        refine lv_iconst (v := 1) hx hb d_law_732 (by decide) ?_
        refine lv_iadd hx hb d_law_733 ?_
        obtain ⟨b119, hm⟩ := on hm
        refine va_sld hx hb hX hbl hbA hS b119 d_law_734 ?_
        refine lv_aload_n hx hb d_law_735 rfl (lv_at hl 0 rfl) ?_
        refine lv_iload_n hx hb d_law_736 rfl (lv_at hl 3 rfl) ?_
        refine lv_iconst (v := 2) hx hb d_law_737 (by decide) ?_
        refine lv_iadd hx hb d_law_738 ?_
        obtain ⟨b120, hm⟩ := on hm
        refine va_sld hx hb hX hbl hbA hS b120 d_law_739 ?_
        obtain ⟨q121, hq121, hm⟩ := ob hm
        refine inv_mVg (C := R_Log) (As := [.int (xs ((v3 + 1)).toNatClampNeg), .int (xs ((v3 + 2)).toNatClampNeg)]) (rest := []) (v := .int q121.1) (ws' := wl_Log ca ad q121.2 ++ wl_Ref ca bd r) X (c_Log_out l D ca ad _ g (xs ((v3 + 1)).toNatClampNeg) (xs ((v3 + 2)).toNatClampNeg) q121 hq121) g_law_116 yo_Log_out ⟨Nat.le_of_ble_eq_true rfl, Nat.le_of_ble_eq_true rfl⟩ hl (va_Pl hP) (va_Dl hD) (jn_L hP hD rfl) (ci := 5) rfl rfl hS hA rfl rfl (Nat.le_of_ble_eq_true rfl) ⟨Nat.le_of_ble_eq_true rfl, Nat.le_of_ble_eq_true rfl⟩ d_law_740 (fun H locs hP hD hS => ?_)
        refine lv_pop hx hb d_law_743 rfl ?_
        refine lv_aload_n hx hb d_law_744 rfl (lv_at hl 2 rfl) ?_
        refine lv_aload_n hx hb d_law_745 rfl (lv_at hl 0 rfl) ?_
        refine lv_iload_n hx hb d_law_746 rfl (lv_at hl 3 rfl) ?_
        refine lv_iconst (v := 1) hx hb d_law_747 (by decide) ?_
        refine lv_iadd hx hb d_law_748 ?_
        obtain ⟨b122, hm⟩ := on hm
        refine va_sld hx hb hX hbl hbA hS b122 d_law_749 ?_
        refine lv_aload_n hx hb d_law_750 rfl (lv_at hl 0 rfl) ?_
        refine lv_iload_n hx hb d_law_751 rfl (lv_at hl 3 rfl) ?_
        refine lv_iconst (v := 2) hx hb d_law_752 (by decide) ?_
        refine lv_iadd hx hb d_law_753 ?_
        obtain ⟨b123, hm⟩ := on hm
        refine va_sld hx hb hX hbl hbA hS b123 d_law_754 ?_
        obtain ⟨q124, hq124, hm⟩ := ob hm
        refine inv_mVg (C := R_RRef) (As := [.int (xs ((v3 + 1)).toNatClampNeg), .int (xs ((v3 + 2)).toNatClampNeg)]) (rest := []) (v := .int q124.1) (ws' := wl_Log ca ad q121.2 ++ wl_Ref ca bd q124.2) X (c_RRef_out l D ca bd _ r (xs ((v3 + 1)).toNatClampNeg) (xs ((v3 + 2)).toNatClampNeg) q124 hq124) g_law_119 yo_RRef_out ⟨Nat.le_of_ble_eq_true rfl, Nat.le_of_ble_eq_true rfl⟩ hl (va_Pr hP) (va_Dr hD) (jn_R hP hD rfl) (ci := 6) rfl rfl hS hA rfl rfl (Nat.le_of_ble_eq_true rfl) ⟨Nat.le_of_ble_eq_true rfl, Nat.le_of_ble_eq_true rfl⟩ d_law_755 (fun H locs hP hD hS => ?_)
        refine lv_pop hx hb d_law_758 rfl ?_
        refine lv_goto (tgt := 831) hx hb d_law_759 (by decide) ?_
        refine lv_iinc (v := (v3 + 4)) (lv' := [(3, .int (v3 + 4)), (0, .ref b), (1, .ref (ad 0)), (2, .ref (bd 0))]) hx hb d_law_831 hl (k := 3) rfl rfl (by decide) rfl (fun ls hl => ?_)
        have hl := lv_sub hl [1, 2, 3, 0] rfl
        replace hl : lv_has ls 4 [(0, .ref b), (1, .ref (ad 0)), (2, .ref (bd 0)), (3, .int (v3 + 4))] := hl
        refine lv_goto (tgt := 28) hx hb d_law_834 (by decide) ?_
        exact ih q121.2 q124.2 (v3 + 4) hm _ _ hP hD hS ls hl
      replace hm := ineg c118 hm
      by_cases c125 : ((xs (v3).toNatClampNeg) &&& 31) = 22
      · replace hm := ip c125 hm
        refine lv_tableIn (off := 720) (tgt := 762) hx hb d_law_42 (by rw [c125]; decide) (by rw [c125]; decide) (by rw [c125]; rfl) (by decide) ?_
        refine lv_aload_n hx hb d_law_762 rfl (lv_at hl 1 rfl) ?_
        obtain ⟨q126, hq126, hm⟩ := ob hm
        refine inv_mVg (C := R_Log) (As := []) (rest := []) (v := .int q126.1) (ws' := wl_Log ca ad q126.2 ++ wl_Ref ca bd r) X (c_Log_in_ l D ca ad _ g q126 hq126) g_law_120 yo_Log_in_ ⟨Nat.le_of_ble_eq_true rfl, Nat.le_of_ble_eq_true rfl⟩ hl (va_Pl hP) (va_Dl hD) (jn_L hP hD rfl) (ci := 5) rfl rfl hS hA rfl rfl (Nat.le_of_ble_eq_true rfl) ⟨Nat.le_of_ble_eq_true rfl, Nat.le_of_ble_eq_true rfl⟩ d_law_763 (fun H locs hP hD hS => ?_)
        refine lv_pop hx hb d_law_766 rfl ?_
        refine lv_aload_n hx hb d_law_767 rfl (lv_at hl 2 rfl) ?_
        obtain ⟨q127, hq127, hm⟩ := ob hm
        refine inv_mVg (C := R_RRef) (As := []) (rest := []) (v := .int q127.1) (ws' := wl_Log ca ad q126.2 ++ wl_Ref ca bd q127.2) X (c_RRef_in_ l D ca bd _ r q127 hq127) g_law_123 yo_RRef_in_ ⟨Nat.le_of_ble_eq_true rfl, Nat.le_of_ble_eq_true rfl⟩ hl (va_Pr hP) (va_Dr hD) (jn_R hP hD rfl) (ci := 6) rfl rfl hS hA rfl rfl (Nat.le_of_ble_eq_true rfl) ⟨Nat.le_of_ble_eq_true rfl, Nat.le_of_ble_eq_true rfl⟩ d_law_768 (fun H locs hP hD hS => ?_)
        refine lv_pop hx hb d_law_771 rfl ?_
        refine lv_goto (tgt := 831) hx hb d_law_772 (by decide) ?_
        refine lv_iinc (v := (v3 + 4)) (lv' := [(3, .int (v3 + 4)), (0, .ref b), (1, .ref (ad 0)), (2, .ref (bd 0))]) hx hb d_law_831 hl (k := 3) rfl rfl (by decide) rfl (fun ls hl => ?_)
        have hl := lv_sub hl [1, 2, 3, 0] rfl
        replace hl : lv_has ls 4 [(0, .ref b), (1, .ref (ad 0)), (2, .ref (bd 0)), (3, .int (v3 + 4))] := hl
        refine lv_goto (tgt := 28) hx hb d_law_834 (by decide) ?_
        exact ih q126.2 q127.2 (v3 + 4) hm _ _ hP hD hS ls hl
      replace hm := ineg c125 hm
      by_cases c128 : ((xs (v3).toNatClampNeg) &&& 31) = 23
      · replace hm := ip c128 hm
        refine lv_tableIn (off := 733) (tgt := 775) hx hb d_law_42 (by rw [c128]; decide) (by rw [c128]; decide) (by rw [c128]; rfl) (by decide) ?_
        refine lv_aload_n hx hb d_law_775 rfl (lv_at hl 1 rfl) ?_
        refine lv_aload_n hx hb d_law_776 rfl (lv_at hl 0 rfl) ?_
        refine lv_iload_n hx hb d_law_777 rfl (lv_at hl 3 rfl) ?_
        refine lv_iconst (v := 1) hx hb d_law_778 (by decide) ?_
        refine lv_iadd hx hb d_law_779 ?_
        obtain ⟨b129, hm⟩ := on hm
        refine va_sld hx hb hX hbl hbA hS b129 d_law_780 ?_
        refine lv_aload_n hx hb d_law_781 rfl (lv_at hl 0 rfl) ?_
        refine lv_iload_n hx hb d_law_782 rfl (lv_at hl 3 rfl) ?_
        refine lv_iconst (v := 2) hx hb d_law_783 (by decide) ?_
        refine lv_iadd hx hb d_law_784 ?_
        obtain ⟨b130, hm⟩ := on hm
        refine va_sld hx hb hX hbl hbA hS b130 d_law_785 ?_
        obtain ⟨q131, hq131, hm⟩ := ob hm
        refine inv_mVg (C := R_Log) (As := [.int (xs ((v3 + 1)).toNatClampNeg), .int (xs ((v3 + 2)).toNatClampNeg)]) (rest := []) (v := .int q131.1) (ws' := wl_Log ca ad q131.2 ++ wl_Ref ca bd r) X (c_Log_equal l D ca ad _ g (xs ((v3 + 1)).toNatClampNeg) (xs ((v3 + 2)).toNatClampNeg) q131 hq131) g_law_124 yo_Log_equal ⟨Nat.le_of_ble_eq_true rfl, Nat.le_of_ble_eq_true rfl⟩ hl (va_Pl hP) (va_Dl hD) (jn_L hP hD rfl) (ci := 5) rfl rfl hS hA rfl rfl (Nat.le_of_ble_eq_true rfl) ⟨Nat.le_of_ble_eq_true rfl, Nat.le_of_ble_eq_true rfl⟩ d_law_786 (fun H locs hP hD hS => ?_)
        refine lv_pop hx hb d_law_789 rfl ?_
        refine lv_aload_n hx hb d_law_790 rfl (lv_at hl 2 rfl) ?_
        refine lv_aload_n hx hb d_law_791 rfl (lv_at hl 0 rfl) ?_
        refine lv_iload_n hx hb d_law_792 rfl (lv_at hl 3 rfl) ?_
        refine lv_iconst (v := 1) hx hb d_law_793 (by decide) ?_
        refine lv_iadd hx hb d_law_794 ?_
        obtain ⟨b132, hm⟩ := on hm
        refine va_sld hx hb hX hbl hbA hS b132 d_law_795 ?_
        refine lv_aload_n hx hb d_law_796 rfl (lv_at hl 0 rfl) ?_
        refine lv_iload_n hx hb d_law_797 rfl (lv_at hl 3 rfl) ?_
        refine lv_iconst (v := 2) hx hb d_law_798 (by decide) ?_
        refine lv_iadd hx hb d_law_799 ?_
        obtain ⟨b133, hm⟩ := on hm
        refine va_sld hx hb hX hbl hbA hS b133 d_law_800 ?_
        obtain ⟨q134, hq134, hm⟩ := ob hm
        refine inv_rVg (C := R_RRef) (As := [.int (xs ((v3 + 1)).toNatClampNeg), .int (xs ((v3 + 2)).toNatClampNeg)]) (rest := []) (v := .int q134) X (c_RRef_equal l D ca bd _ r (xs ((v3 + 1)).toNatClampNeg) (xs ((v3 + 2)).toNatClampNeg) q134 hq134) g_law_127 yo_RRef_equal ⟨Nat.le_of_ble_eq_true rfl, Nat.le_of_ble_eq_true rfl⟩ hl (va_Pr hP) (va_Dr hD) (ci := 6) rfl rfl hP hS hA rfl rfl (Nat.le_of_ble_eq_true rfl) ⟨Nat.le_of_ble_eq_true rfl, Nat.le_of_ble_eq_true rfl⟩ d_law_801 (fun H locs hP hS => ?_)
        refine lv_pop hx hb d_law_804 rfl ?_
        refine lv_goto (tgt := 831) hx hb d_law_805 (by decide) ?_
        refine lv_iinc (v := (v3 + 4)) (lv' := [(3, .int (v3 + 4)), (0, .ref b), (1, .ref (ad 0)), (2, .ref (bd 0))]) hx hb d_law_831 hl (k := 3) rfl rfl (by decide) rfl (fun ls hl => ?_)
        have hl := lv_sub hl [1, 2, 3, 0] rfl
        replace hl : lv_has ls 4 [(0, .ref b), (1, .ref (ad 0)), (2, .ref (bd 0)), (3, .int (v3 + 4))] := hl
        refine lv_goto (tgt := 28) hx hb d_law_834 (by decide) ?_
        exact ih q131.2 r (v3 + 4) hm _ _ hP hD hS ls hl
      replace hm := ineg c128 hm
      by_cases c135 : ((xs (v3).toNatClampNeg) &&& 31) = 24
      · replace hm := ip c135 hm
        refine lv_tableIn (off := 766) (tgt := 808) hx hb d_law_42 (by rw [c135]; decide) (by rw [c135]; decide) (by rw [c135]; rfl) (by decide) ?_
        refine lv_aload_n hx hb d_law_808 rfl (lv_at hl 1 rfl) ?_
        refine lv_aload_n hx hb d_law_809 rfl (lv_at hl 0 rfl) ?_
        refine lv_iload_n hx hb d_law_810 rfl (lv_at hl 3 rfl) ?_
        refine lv_iconst (v := 1) hx hb d_law_811 (by decide) ?_
        refine lv_iadd hx hb d_law_812 ?_
        obtain ⟨b136, hm⟩ := on hm
        refine va_sld hx hb hX hbl hbA hS b136 d_law_813 ?_
        obtain ⟨q137, hq137, hm⟩ := ob hm
        refine inv_rVg (C := R_Log) (As := [.int (xs ((v3 + 1)).toNatClampNeg)]) (rest := []) (v := .int q137) X (c_Log_told l D ca ad _ g (xs ((v3 + 1)).toNatClampNeg) q137 hq137) g_law_128 yo_Log_told ⟨Nat.le_of_ble_eq_true rfl, Nat.le_of_ble_eq_true rfl⟩ hl (va_Pl hP) (va_Dl hD) (ci := 5) rfl rfl hP hS hA rfl rfl (Nat.le_of_ble_eq_true rfl) ⟨Nat.le_of_ble_eq_true rfl, Nat.le_of_ble_eq_true rfl⟩ d_law_814 (fun H locs hP hS => ?_)
        refine lv_aload_n hx hb d_law_817 rfl (lv_at hl 2 rfl) ?_
        refine lv_aload_n hx hb d_law_818 rfl (lv_at hl 0 rfl) ?_
        refine lv_iload_n hx hb d_law_819 rfl (lv_at hl 3 rfl) ?_
        refine lv_iconst (v := 1) hx hb d_law_820 (by decide) ?_
        refine lv_iadd hx hb d_law_821 ?_
        obtain ⟨b138, hm⟩ := on hm
        refine va_sld hx hb hX hbl hbA hS b138 d_law_822 ?_
        obtain ⟨q139, hq139, hm⟩ := ob hm
        refine inv_mVg (C := R_RRef) (As := [.int (xs ((v3 + 1)).toNatClampNeg)]) (rest := [.int q137]) (v := .int q139.1) (ws' := wl_Log ca ad g ++ wl_Ref ca bd q139.2) X (c_RRef_told l D ca bd _ r (xs ((v3 + 1)).toNatClampNeg) q139 hq139) g_law_131 yo_RRef_told ⟨Nat.le_of_ble_eq_true rfl, Nat.le_of_ble_eq_true rfl⟩ hl (va_Pr hP) (va_Dr hD) (jn_R hP hD rfl) (ci := 6) rfl rfl hS hA rfl rfl (Nat.le_of_ble_eq_true rfl) ⟨Nat.le_of_ble_eq_true rfl, Nat.le_of_ble_eq_true rfl⟩ d_law_823 (fun H locs hP hD hS => ?_)
        refine lv_icmp_eq (tgt := 831) hx hb d_law_826 (by decide) (fun c140 => ?_) (fun c140 => ?_)
        · replace hm := ip c140 hm
          refine lv_iinc (v := (v3 + 4)) (lv' := [(3, .int (v3 + 4)), (0, .ref b), (1, .ref (ad 0)), (2, .ref (bd 0))]) hx hb d_law_831 hl (k := 3) rfl rfl (by decide) rfl (fun ls hl => ?_)
          have hl := lv_sub hl [1, 2, 3, 0] rfl
          replace hl : lv_has ls 4 [(0, .ref b), (1, .ref (ad 0)), (2, .ref (bd 0)), (3, .int (v3 + 4))] := hl
          refine lv_goto (tgt := 28) hx hb d_law_834 (by decide) ?_
          exact ih g q139.2 (v3 + 4) hm _ _ hP hD hS ls hl
        · replace hm := ineg c140 hm
          refine lv_iconst (v := 0) hx hb d_law_829 (by decide) ?_
          exact absurd hm (by decide)
      replace hm := ineg c135 hm
      refine lv_tableOut (tgt := 831) hx hb d_law_42 (by have c3n := lv_neT (a := 0) c3 (by decide); have c12n := lv_neT (a := 1) c12 (by decide); have c15n := lv_neT (a := 2) c15 (by decide); have c24n := lv_neT (a := 3) c24 (by decide); have c29n := lv_neT (a := 4) c29 (by decide); have c34n := lv_neT (a := 5) c34 (by decide); have c39n := lv_neT (a := 6) c39 (by decide); have c44n := lv_neT (a := 7) c44 (by decide); have c49n := lv_neT (a := 8) c49 (by decide); have c54n := lv_neT (a := 9) c54 (by decide); have c57n := lv_neT (a := 10) c57 (by decide); have c60n := lv_neT (a := 11) c60 (by decide); have c63n := lv_neT (a := 12) c63 (by decide); have c68n := lv_neT (a := 13) c68 (by decide); have c73n := lv_neT (a := 14) c73 (by decide); have c80n := lv_neT (a := 15) c80 (by decide); have c87n := lv_neT (a := 16) c87 (by decide); have c94n := lv_neT (a := 17) c94 (by decide); have c99n := lv_neT (a := 18) c99 (by decide); have c102n := lv_neT (a := 19) c102 (by decide); have c111n := lv_neT (a := 20) c111 (by decide); have c118n := lv_neT (a := 21) c118 (by decide); have c125n := lv_neT (a := 22) c125 (by decide); have c128n := lv_neT (a := 23) c128 (by decide); have c135n := lv_neT (a := 24) c135 (by decide); omega) (by decide) ?_
      refine lv_iinc (v := (v3 + 4)) (lv' := [(3, .int (v3 + 4)), (0, .ref b), (1, .ref (ad 0)), (2, .ref (bd 0))]) hx hb d_law_831 hl (k := 3) rfl rfl (by decide) rfl (fun ls hl => ?_)
      have hl := lv_sub hl [1, 2, 3, 0] rfl
      replace hl : lv_has ls 4 [(0, .ref b), (1, .ref (ad 0)), (2, .ref (bd 0)), (3, .int (v3 + 4))] := hl
      refine lv_goto (tgt := 28) hx hb d_law_834 (by decide) ?_
      exact ih g r (v3 + 4) hm _ _ hP hD hS ls hl
