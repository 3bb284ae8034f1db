set_option maxHeartbeats 4000000 in
set_option maxRecDepth 100000 in
theorem k_m_RRef_takeBack_L9 {p : Program} {l : Launch} {e : Env} {s : State} {m : MethodId} {args : Array Value} {below : List Frame} {meth : Method} {c : Code} {D : va_G} {ca : Nat → ClassId} {ad : Nat → Nat} {A : Nat → Prop} (X : Cx p s m args meth c R_RRef b_RRef_takeBack 5 (some .boolean) D ca) (hA : ∀ q, s.heap.size ≤ q → A q)  : ∀ (n : Nat) (g : St_Ref) (v1 : Int32) (v2 : Int32) (v3 : Int32) (v4 : Int32) (res : Int32 × St_Ref), m_RRef_takeBack_L9  n g v1 v2 v3 v4 = some res → ∀ (H : Heap) (locs : List Loc), va_P D classes (wl_Ref ca ad g) H → va_D A (wl_Ref ca ad g) → va_S A s.heap H locs → ∀ ls : Array Slot, lv_has ls 5 [(0, .ref (ad 0)), (1, .int v1), (2, .int v2), (3, .int v3), (4, .int v4)] → W p l e (RM 1 23) s m args below meth c H locs 0 0 (MQ below (QRm D (some (.int res.1)) (wl_Ref ca ad res.2) A) args s 0 0 A) (F0 m 9 ls []) := by
  obtain ⟨hx, hb, hml, hr, hown, hts, hK, hlocks⟩ := id X
  intro n
  induction n with
  | zero =>
    intro g v1 v2 v3 v4 res hm
    rw [m_RRef_takeBack_L9] at hm
    cases hm
  | succ n ih =>
    intro g v1 v2 v3 v4 res hm H locs hP hD hS ls hl
    rw [m_RRef_takeBack_L9] at hm
    refine lv_iload hx hb d_RRef_takeBack_9 (lv_at hl 4 rfl) ?_
    refine lv_iload_n hx hb d_RRef_takeBack_11 rfl (lv_at hl 2 rfl) ?_
    refine lv_icmp_ge (tgt := 35) hx hb d_RRef_takeBack_12 (by decide) (fun c2 => ?_) (fun c2 => ?_)
    · replace hm := ip c2 hm
      refine lv_iload_n hx hb d_RRef_takeBack_35 rfl (lv_at hl 3 rfl) ?_
      obtain ⟨z3, hm⟩ := on hm
      cases hm
      exact ret_mz X (nz z3).1 hP hS d_RRef_takeBack_36
    · replace hm := ineg c2 hm
      refine lv_iload_n hx hb d_RRef_takeBack_15 rfl (lv_at hl 3 rfl) ?_
      refine lv_if_eq (tgt := 35) hx hb d_RRef_takeBack_16 (by decide) (fun c4 => ?_) (fun c4 => ?_)
      · replace hm := ip c4 hm
        refine lv_iload_n hx hb d_RRef_takeBack_35 rfl (lv_at hl 3 rfl) ?_
        obtain ⟨z5, hm⟩ := on hm
        cases hm
        exact ret_mz X (nz z5).1 hP hS d_RRef_takeBack_36
      · replace hm := ineg c4 hm
        refine lv_aload_n hx hb d_RRef_takeBack_19 rfl (lv_at hl 0 rfl) ?_
        refine lv_iload_n hx hb d_RRef_takeBack_20 rfl (lv_at hl 1 rfl) ?_
        refine lv_iload hx hb d_RRef_takeBack_21 (lv_at hl 4 rfl) ?_
        refine lv_iadd hx hb d_RRef_takeBack_23 ?_
        refine lv_iconst (v := 0) hx hb d_RRef_takeBack_24 (by decide) ?_
        obtain ⟨q6, hq6, hm⟩ := ob hm
        refine inv_mVa (C := R_RRef) (As := [.int (v1 + v4), .int 0]) (rest := []) (v := .int q6.1) X (c_RRef_write l D ca ad _ g (v1 + v4) 0 q6 hq6) g_RRef_95 yo_RRef_write ⟨Nat.le_of_ble_eq_true rfl, Nat.le_of_ble_eq_true rfl⟩ hl hP hD rfl (ci := 6) rfl rfl hS hA rfl rfl (Nat.le_of_ble_eq_true rfl) ⟨Nat.zero_le _, Nat.zero_le _⟩ d_RRef_takeBack_25 (fun H locs hP hD hS => ?_)
        refine lv_istore_n (lv' := [(3, .int q6.1), (0, .ref (ad 0)), (1, .int v1), (2, .int v2), (4, .int v4)]) hx hb d_RRef_takeBack_28 rfl hl (by decide) rfl (fun ls hl => ?_)
        refine lv_iinc (v := (v4 + 1)) (lv' := [(4, .int (v4 + 1)), (3, .int q6.1), (0, .ref (ad 0)), (1, .int v1), (2, .int v2)]) hx hb d_RRef_takeBack_29 hl (k := 4) rfl rfl (by decide) rfl (fun ls hl => ?_)
        refine lv_goto (tgt := 9) hx hb d_RRef_takeBack_32 (by decide) ?_
        exact ih q6.2 v1 v2 q6.1 (v4 + 1) _ hm _ _ hP hD hS ls (lv_sub hl [2, 3, 4, 1, 0] rfl)
set_option maxHeartbeats 4000000 in
set_option maxRecDepth 100000 in
theorem c_RRef_takeBack (l : Launch) (D : va_G) (ca : Nat → ClassId) (ad : Nat → Nat) (sz : Nat) (g : St_Ref) (p1 : Int32) (p2 : Int32) (res : Int32 × St_Ref) (hm : m_RRef_takeBack g p1 p2 = some res) : Met l y_RRef_takeBack (cws y_RRef_takeBack b_RRef_takeBack 5 (some .boolean)) (RM 1 23) (PreW D ca (wl_Ref ca ad g) [.ref (ad 0), .int p1, .int p2] sz) (QRm D (some (.int res.1)) (wl_Ref ca ad res.2) (va_A (wl_Ref ca ad g) sz)) 0 0 (va_A (wl_Ref ca ad g) sz) := by
  refine met_ofM (own := R_RRef) (by decide) rfl (Nat.le_of_ble_eq_true rfl) ?_
  intro p e s m below meth c A X hA hP hD ls hl
  obtain ⟨hx, hb, hml, hr, hown, hts, hK, hlocks⟩ := id X
  have hS : va_S A s.heap s.heap [] := va_S.rf
  have hl : lv_has ls 5 [(0, .ref (ad 0)), (1, .int p1), (2, .int p2)] := hl
  unfold m_RRef_takeBack at hm
  refine lv_aload_n hx hb d_RRef_takeBack_0 rfl (lv_at hl 0 rfl) ?_
  obtain ⟨q1, hq1, hm⟩ := ob hm
  refine inv_mUa (C := R_RRef) (As := []) (rest := []) X (c_RRef_clearDraft l D ca ad _ g q1 hq1) g_RRef_99 yo_RRef_clearDraft ⟨Nat.le_of_ble_eq_true rfl, Nat.le_of_ble_eq_true rfl⟩ hl hP hD rfl (ci := 6) rfl rfl hS hA rfl rfl (Nat.le_of_ble_eq_true rfl) ⟨Nat.zero_le _, Nat.zero_le _⟩ d_RRef_takeBack_1 (fun H locs hP hD hS => ?_)
  refine lv_iconst (v := 1) hx hb d_RRef_takeBack_4 (by decide) ?_
  refine lv_istore_n (lv' := [(3, .int 1), (0, .ref (ad 0)), (1, .int p1), (2, .int p2)]) hx hb d_RRef_takeBack_5 rfl hl (by decide) rfl (fun ls hl => ?_)
  refine lv_iconst (v := 0) hx hb d_RRef_takeBack_6 (by decide) ?_
  refine lv_istore (lv' := [(4, .int 0), (3, .int 1), (0, .ref (ad 0)), (1, .int p1), (2, .int p2)]) hx hb d_RRef_takeBack_7 hl (by decide) rfl (fun ls hl => ?_)
  exact k_m_RRef_takeBack_L9 X hA FU q1 p1 p2 1 0 _ hm _ _ hP hD hS ls (lv_sub hl [2, 3, 4, 1, 0] rfl)
set_option maxHeartbeats 4000000 in
set_option maxRecDepth 100000 in
theorem c_RRef_forgetPart (l : Launch) (D : va_G) (ca : Nat → ClassId) (ad : Nat → Nat) (sz : Nat) (g : St_Ref) (p1 : Int32) (res : St_Ref) (hm : m_RRef_forgetPart g p1 = some res) : Met l y_RRef_forgetPart (cws y_RRef_forgetPart b_RRef_forgetPart 2 none) (RM 0 0) (PreW D ca (wl_Ref ca ad g) [.ref (ad 0), .int p1] sz) (QRm D none (wl_Ref ca ad res) (va_A (wl_Ref ca ad g) sz)) 0 0 (va_A (wl_Ref ca ad g) sz) := by
  refine met_ofM (own := R_RRef) (by decide) rfl (Nat.le_of_ble_eq_true rfl) ?_
  intro p e s m below meth c A X hA hP hD ls hl
  obtain ⟨hx, hb, hml, hr, hown, hts, hK, hlocks⟩ := id X
  have hS : va_S A s.heap s.heap [] := va_S.rf
  have hl : lv_has ls 2 [(0, .ref (ad 0)), (1, .int p1)] := hl
  unfold m_RRef_forgetPart at hm
  refine lv_aload_n hx hb d_RRef_forgetPart_0 rfl (lv_at hl 0 rfl) ?_
  refine lv_dup hx hb d_RRef_forgetPart_1 rfl ?_
  refine va_get (D := D) (ci := 6) (v := .int (g_Rparts g)) (C := R_RRef) (T := F_RRef) (N := 29) hx hb hts i_RRef hown hK hP 0 rfl rfl 12 (by decide) (hts _ wf_RRef_106) (fun _ h9 => h9) rfl d_RRef_forgetPart_2 ?_
  refine lv_iconst (v := 1) hx hb d_RRef_forgetPart_5 (by decide) ?_
  refine lv_isub hx hb d_RRef_forgetPart_6 ?_
  refine va_put (D := D) (ci := 6) (v := .int ((g_Rparts g) - 1)) (ty := .int) (C := R_RRef) (T := F_RRef) (N := 29) hx hb hts i_RRef t_RRef t_RRef_ok n_RRef hown hK hP hD hS 0 rfl rfl 12 (by decide) (hts _ wf_RRef_106) (fun _ h9 => h9) rfl (by decide +kernel) rfl rfl (Nat.le_of_ble_eq_true rfl) d_RRef_forgetPart_7 (fun H locs hP hD hS => ?_)
  replace hP : va_P D classes (wl_Ref ca ad (s_Rparts g ((g_Rparts g) - 1))) H := hP
  replace hD : va_D A (wl_Ref ca ad (s_Rparts g ((g_Rparts g) - 1))) := hD
  refine lv_aload_n hx hb d_RRef_forgetPart_10 rfl (lv_at hl 0 rfl) ?_
  refine va_get (D := D) (ci := 6) (v := .ref (ad 3)) (C := R_RRef) (T := F_RRef) (N := 29) hx hb hts i_RRef hown hK hP 0 rfl rfl 7 (by decide) (hts _ wf_RRef_24) (fun _ h9 => h9) rfl d_RRef_forgetPart_11 ?_
  refine lv_iload_n hx hb d_RRef_forgetPart_14 rfl (lv_at hl 1 rfl) ?_
  refine lv_aload_n hx hb d_RRef_forgetPart_15 rfl (lv_at hl 0 rfl) ?_
  refine va_get (D := D) (ci := 6) (v := .ref (ad 3)) (C := R_RRef) (T := F_RRef) (N := 29) hx hb hts i_RRef hown hK hP 0 rfl rfl 7 (by decide) (hts _ wf_RRef_24) (fun _ h9 => h9) rfl d_RRef_forgetPart_16 ?_
  refine lv_aload_n hx hb d_RRef_forgetPart_19 rfl (lv_at hl 0 rfl) ?_
  refine va_get (D := D) (ci := 6) (v := .int ((g_Rparts g) - 1)) (C := R_RRef) (T := F_RRef) (N := 29) hx hb hts i_RRef hown hK hP 0 rfl rfl 12 (by decide) (hts _ wf_RRef_106) (fun _ h9 => h9) rfl d_RRef_forgetPart_20 ?_
  obtain ⟨b1, hm⟩ := on hm
  refine va_iald hx hb hK hP 3 2 rfl rfl b1 d_RRef_forgetPart_23 ?_
  obtain ⟨b2, hm⟩ := on hm
  refine va_iast hx hb hK hP hD hS 3 2 rfl rfl b2 d_RRef_forgetPart_24 (fun H locs hP hD hS => ?_)
  replace hP : va_P D classes (wl_Ref ca ad (s_RpNumber (s_Rparts g ((g_Rparts g) - 1)) ((g_RpNumber g).1, upd (g_RpNumber g).2 (p1).toNatClampNeg ((g_RpNumber g).2 (((g_Rparts g) - 1)).toNatClampNeg)))) H := hP
  replace hD : va_D A (wl_Ref ca ad (s_RpNumber (s_Rparts g ((g_Rparts g) - 1)) ((g_RpNumber g).1, upd (g_RpNumber g).2 (p1).toNatClampNeg ((g_RpNumber g).2 (((g_Rparts g) - 1)).toNatClampNeg)))) := hD
  refine lv_aload_n hx hb d_RRef_forgetPart_25 rfl (lv_at hl 0 rfl) ?_
  refine va_get (D := D) (ci := 6) (v := .ref (ad 4)) (C := R_RRef) (T := F_RRef) (N := 29) hx hb hts i_RRef hown hK hP 0 rfl rfl 8 (by decide) (hts _ wf_RRef_28) (fun _ h9 => h9) rfl d_RRef_forgetPart_26 ?_
  refine lv_iload_n hx hb d_RRef_forgetPart_29 rfl (lv_at hl 1 rfl) ?_
  refine lv_aload_n hx hb d_RRef_forgetPart_30 rfl (lv_at hl 0 rfl) ?_
  refine va_get (D := D) (ci := 6) (v := .ref (ad 4)) (C := R_RRef) (T := F_RRef) (N := 29) hx hb hts i_RRef hown hK hP 0 rfl rfl 8 (by decide) (hts _ wf_RRef_28) (fun _ h9 => h9) rfl d_RRef_forgetPart_31 ?_
  refine lv_aload_n hx hb d_RRef_forgetPart_34 rfl (lv_at hl 0 rfl) ?_
  refine va_get (D := D) (ci := 6) (v := .int ((g_Rparts g) - 1)) (C := R_RRef) (T := F_RRef) (N := 29) hx hb hts i_RRef hown hK hP 0 rfl rfl 12 (by decide) (hts _ wf_RRef_106) (fun _ h9 => h9) rfl d_RRef_forgetPart_35 ?_
  obtain ⟨b3, hm⟩ := on hm
  refine va_iald hx hb hK hP 4 2 rfl rfl b3 d_RRef_forgetPart_38 ?_
  obtain ⟨b4, hm⟩ := on hm
  refine va_iast hx hb hK hP hD hS 4 2 rfl rfl b4 d_RRef_forgetPart_39 (fun H locs hP hD hS => ?_)
  replace hP : va_P D classes (wl_Ref ca ad (s_RpGroup (s_RpNumber (s_Rparts g ((g_Rparts g) - 1)) ((g_RpNumber g).1, upd (g_RpNumber g).2 (p1).toNatClampNeg ((g_RpNumber g).2 (((g_Rparts g) - 1)).toNatClampNeg))) ((g_RpGroup g).1, upd (g_RpGroup g).2 (p1).toNatClampNeg ((g_RpGroup g).2 (((g_Rparts g) - 1)).toNatClampNeg)))) H := hP
  replace hD : va_D A (wl_Ref ca ad (s_RpGroup (s_RpNumber (s_Rparts g ((g_Rparts g) - 1)) ((g_RpNumber g).1, upd (g_RpNumber g).2 (p1).toNatClampNeg ((g_RpNumber g).2 (((g_Rparts g) - 1)).toNatClampNeg))) ((g_RpGroup g).1, upd (g_RpGroup g).2 (p1).toNatClampNeg ((g_RpGroup g).2 (((g_Rparts g) - 1)).toNatClampNeg)))) := hD
  refine lv_aload_n hx hb d_RRef_forgetPart_40 rfl (lv_at hl 0 rfl) ?_
  refine va_get (D := D) (ci := 6) (v := .ref (ad 5)) (C := R_RRef) (T := F_RRef) (N := 29) hx hb hts i_RRef hown hK hP 0 rfl rfl 9 (by decide) (hts _ wf_RRef_31) (fun _ h9 => h9) rfl d_RRef_forgetPart_41 ?_
  refine lv_iload_n hx hb d_RRef_forgetPart_44 rfl (lv_at hl 1 rfl) ?_
  refine lv_aload_n hx hb d_RRef_forgetPart_45 rfl (lv_at hl 0 rfl) ?_
  refine va_get (D := D) (ci := 6) (v := .ref (ad 5)) (C := R_RRef) (T := F_RRef) (N := 29) hx hb hts i_RRef hown hK hP 0 rfl rfl 9 (by decide) (hts _ wf_RRef_31) (fun _ h9 => h9) rfl d_RRef_forgetPart_46 ?_
  refine lv_aload_n hx hb d_RRef_forgetPart_49 rfl (lv_at hl 0 rfl) ?_
  refine va_get (D := D) (ci := 6) (v := .int ((g_Rparts g) - 1)) (C := R_RRef) (T := F_RRef) (N := 29) hx hb hts i_RRef hown hK hP 0 rfl rfl 12 (by decide) (hts _ wf_RRef_106) (fun _ h9 => h9) rfl d_RRef_forgetPart_50 ?_
  obtain ⟨b5, hm⟩ := on hm
  refine va_lald hx hb hK hP 5 3 rfl rfl b5 d_RRef_forgetPart_53 ?_
  obtain ⟨b6, hm⟩ := on hm
  refine va_last hx hb hK hP hD hS 5 3 rfl rfl b6 d_RRef_forgetPart_54 (fun H locs hP hD hS => ?_)
  replace hP : va_P D classes (wl_Ref ca ad (s_RpPosition (s_RpGroup (s_RpNumber (s_Rparts g ((g_Rparts g) - 1)) ((g_RpNumber g).1, upd (g_RpNumber g).2 (p1).toNatClampNeg ((g_RpNumber g).2 (((g_Rparts g) - 1)).toNatClampNeg))) ((g_RpGroup g).1, upd (g_RpGroup g).2 (p1).toNatClampNeg ((g_RpGroup g).2 (((g_Rparts g) - 1)).toNatClampNeg))) ((g_RpPosition g).1, vp_updL (g_RpPosition g).2 (p1).toNatClampNeg ((g_RpPosition g).2 (((g_Rparts g) - 1)).toNatClampNeg)))) H := hP
  replace hD : va_D A (wl_Ref ca ad (s_RpPosition (s_RpGroup (s_RpNumber (s_Rparts g ((g_Rparts g) - 1)) ((g_RpNumber g).1, upd (g_RpNumber g).2 (p1).toNatClampNeg ((g_RpNumber g).2 (((g_Rparts g) - 1)).toNatClampNeg))) ((g_RpGroup g).1, upd (g_RpGroup g).2 (p1).toNatClampNeg ((g_RpGroup g).2 (((g_Rparts g) - 1)).toNatClampNeg))) ((g_RpPosition g).1, vp_updL (g_RpPosition g).2 (p1).toNatClampNeg ((g_RpPosition g).2 (((g_Rparts g) - 1)).toNatClampNeg)))) := hD
  refine lv_aload_n hx hb d_RRef_forgetPart_55 rfl (lv_at hl 0 rfl) ?_
  refine va_get (D := D) (ci := 6) (v := .ref (ad 6)) (C := R_RRef) (T := F_RRef) (N := 29) hx hb hts i_RRef hown hK hP 0 rfl rfl 10 (by decide) (hts _ wf_RRef_35) (fun _ h9 => h9) rfl d_RRef_forgetPart_56 ?_
  refine lv_iload_n hx hb d_RRef_forgetPart_59 rfl (lv_at hl 1 rfl) ?_
  refine lv_aload_n hx hb d_RRef_forgetPart_60 rfl (lv_at hl 0 rfl) ?_
  refine va_get (D := D) (ci := 6) (v := .ref (ad 6)) (C := R_RRef) (T := F_RRef) (N := 29) hx hb hts i_RRef hown hK hP 0 rfl rfl 10 (by decide) (hts _ wf_RRef_35) (fun _ h9 => h9) rfl d_RRef_forgetPart_61 ?_
  refine lv_aload_n hx hb d_RRef_forgetPart_64 rfl (lv_at hl 0 rfl) ?_
  refine va_get (D := D) (ci := 6) (v := .int ((g_Rparts g) - 1)) (C := R_RRef) (T := F_RRef) (N := 29) hx hb hts i_RRef hown hK hP 0 rfl rfl 12 (by decide) (hts _ wf_RRef_106) (fun _ h9 => h9) rfl d_RRef_forgetPart_65 ?_
  obtain ⟨b7, hm⟩ := on hm
  refine va_iald hx hb hK hP 6 2 rfl rfl b7 d_RRef_forgetPart_68 ?_
  obtain ⟨b8, hm⟩ := on hm
  refine va_iast hx hb hK hP hD hS 6 2 rfl rfl b8 d_RRef_forgetPart_69 (fun H locs hP hD hS => ?_)
  replace hP : va_P D classes (wl_Ref ca ad (s_RpLength (s_RpPosition (s_RpGroup (s_RpNumber (s_Rparts g ((g_Rparts g) - 1)) ((g_RpNumber g).1, upd (g_RpNumber g).2 (p1).toNatClampNeg ((g_RpNumber g).2 (((g_Rparts g) - 1)).toNatClampNeg))) ((g_RpGroup g).1, upd (g_RpGroup g).2 (p1).toNatClampNeg ((g_RpGroup g).2 (((g_Rparts g) - 1)).toNatClampNeg))) ((g_RpPosition g).1, vp_updL (g_RpPosition g).2 (p1).toNatClampNeg ((g_RpPosition g).2 (((g_Rparts g) - 1)).toNatClampNeg))) ((g_RpLength g).1, upd (g_RpLength g).2 (p1).toNatClampNeg ((g_RpLength g).2 (((g_Rparts g) - 1)).toNatClampNeg)))) H := hP
  replace hD : va_D A (wl_Ref ca ad (s_RpLength (s_RpPosition (s_RpGroup (s_RpNumber (s_Rparts g ((g_Rparts g) - 1)) ((g_RpNumber g).1, upd (g_RpNumber g).2 (p1).toNatClampNeg ((g_RpNumber g).2 (((g_Rparts g) - 1)).toNatClampNeg))) ((g_RpGroup g).1, upd (g_RpGroup g).2 (p1).toNatClampNeg ((g_RpGroup g).2 (((g_Rparts g) - 1)).toNatClampNeg))) ((g_RpPosition g).1, vp_updL (g_RpPosition g).2 (p1).toNatClampNeg ((g_RpPosition g).2 (((g_Rparts g) - 1)).toNatClampNeg))) ((g_RpLength g).1, upd (g_RpLength g).2 (p1).toNatClampNeg ((g_RpLength g).2 (((g_Rparts g) - 1)).toNatClampNeg)))) := hD
  refine lv_aload_n hx hb d_RRef_forgetPart_70 rfl (lv_at hl 0 rfl) ?_
  refine va_get (D := D) (ci := 6) (v := .ref (ad 7)) (C := R_RRef) (T := F_RRef) (N := 29) hx hb hts i_RRef hown hK hP 0 rfl rfl 11 (by decide) (hts _ wf_RRef_38) (fun _ h9 => h9) rfl d_RRef_forgetPart_71 ?_
  refine lv_iload_n hx hb d_RRef_forgetPart_74 rfl (lv_at hl 1 rfl) ?_
  refine lv_aload_n hx hb d_RRef_forgetPart_75 rfl (lv_at hl 0 rfl) ?_
  refine va_get (D := D) (ci := 6) (v := .ref (ad 7)) (C := R_RRef) (T := F_RRef) (N := 29) hx hb hts i_RRef hown hK hP 0 rfl rfl 11 (by decide) (hts _ wf_RRef_38) (fun _ h9 => h9) rfl d_RRef_forgetPart_76 ?_
  refine lv_aload_n hx hb d_RRef_forgetPart_79 rfl (lv_at hl 0 rfl) ?_
  refine va_get (D := D) (ci := 6) (v := .int ((g_Rparts g) - 1)) (C := R_RRef) (T := F_RRef) (N := 29) hx hb hts i_RRef hown hK hP 0 rfl rfl 12 (by decide) (hts _ wf_RRef_106) (fun _ h9 => h9) rfl d_RRef_forgetPart_80 ?_
  obtain ⟨b9, hm⟩ := on hm
  refine va_iald hx hb hK hP 7 2 rfl rfl b9 d_RRef_forgetPart_83 ?_
  obtain ⟨b10, hm⟩ := on hm
  refine va_iast hx hb hK hP hD hS 7 2 rfl rfl b10 d_RRef_forgetPart_84 (fun H locs hP hD hS => ?_)
  replace hP : va_P D classes (wl_Ref ca ad (s_RpRow (s_RpLength (s_RpPosition (s_RpGroup (s_RpNumber (s_Rparts g ((g_Rparts g) - 1)) ((g_RpNumber g).1, upd (g_RpNumber g).2 (p1).toNatClampNeg ((g_RpNumber g).2 (((g_Rparts g) - 1)).toNatClampNeg))) ((g_RpGroup g).1, upd (g_RpGroup g).2 (p1).toNatClampNeg ((g_RpGroup g).2 (((g_Rparts g) - 1)).toNatClampNeg))) ((g_RpPosition g).1, vp_updL (g_RpPosition g).2 (p1).toNatClampNeg ((g_RpPosition g).2 (((g_Rparts g) - 1)).toNatClampNeg))) ((g_RpLength g).1, upd (g_RpLength g).2 (p1).toNatClampNeg ((g_RpLength g).2 (((g_Rparts g) - 1)).toNatClampNeg))) ((g_RpRow g).1, upd (g_RpRow g).2 (p1).toNatClampNeg ((g_RpRow g).2 (((g_Rparts g) - 1)).toNatClampNeg)))) H := hP
  replace hD : va_D A (wl_Ref ca ad (s_RpRow (s_RpLength (s_RpPosition (s_RpGroup (s_RpNumber (s_Rparts g ((g_Rparts g) - 1)) ((g_RpNumber g).1, upd (g_RpNumber g).2 (p1).toNatClampNeg ((g_RpNumber g).2 (((g_Rparts g) - 1)).toNatClampNeg))) ((g_RpGroup g).1, upd (g_RpGroup g).2 (p1).toNatClampNeg ((g_RpGroup g).2 (((g_Rparts g) - 1)).toNatClampNeg))) ((g_RpPosition g).1, vp_updL (g_RpPosition g).2 (p1).toNatClampNeg ((g_RpPosition g).2 (((g_Rparts g) - 1)).toNatClampNeg))) ((g_RpLength g).1, upd (g_RpLength g).2 (p1).toNatClampNeg ((g_RpLength g).2 (((g_Rparts g) - 1)).toNatClampNeg))) ((g_RpRow g).1, upd (g_RpRow g).2 (p1).toNatClampNeg ((g_RpRow g).2 (((g_Rparts g) - 1)).toNatClampNeg)))) := hD
  cases hm
  exact ret_mv X hP hS d_RRef_forgetPart_85
set_option maxHeartbeats 4000000 in
set_option maxRecDepth 100000 in
theorem k_m_RRef_oldest_L4 {p : Program} {l : Launch} {e : Env} {s : State} {m : MethodId} {args : Array Value} {below : List Frame} {meth : Method} {c : Code} {D : va_G} {ca : Nat → ClassId} {ad : Nat → Nat} {A : Nat → Prop} (X : Cx p s m args meth c R_RRef b_RRef_oldest 3 (some .int) D ca) (hA : ∀ q, s.heap.size ≤ q → A q) {g : St_Ref} : ∀ (n : Nat) (v1 : Int32) (v2 : Int32) (res : Int32), m_RRef_oldest_L4 g n v1 v2 = some res → ∀ (H : Heap) (locs : List Loc), va_P D classes (wl_Ref ca ad g) H → va_D (fun _ => True) (wl_Ref ca ad g) → va_S A s.heap H locs → ∀ ls : Array Slot, lv_has ls 3 [(0, .ref (ad 0)), (1, .int v1), (2, .int v2)] → W p l e (RM 0 0) s m args below meth c H locs 0 0 (MQ below (QRr (.int res) A) args s 0 0 A) (F0 m 4 ls []) := by
  obtain ⟨hx, hb, hml, hr, hown, hts, hK, hlocks⟩ := id X
  intro n
  induction n with
  | zero =>
    intro v1 v2 res hm
    rw [m_RRef_oldest_L4] at hm
    cases hm
  | succ n ih =>
    intro v1 v2 res hm H locs hP hD hS ls hl
    rw [m_RRef_oldest_L4] at hm
    refine lv_iload_n hx hb d_RRef_oldest_4 rfl (lv_at hl 2 rfl) ?_
    refine lv_aload_n hx hb d_RRef_oldest_5 rfl (lv_at hl 0 rfl) ?_
    refine va_get (D := D) (ci := 6) (v := .int (g_Rmarks g)) (C := R_RRef) (T := F_RRef) (N := 29) hx hb hts i_RRef hown hK hP 0 rfl rfl 20 (by decide) (hts _ wf_RRef_109) (fun _ h9 => h9) rfl d_RRef_oldest_6 ?_
    refine lv_icmp_ge (tgt := 54) hx hb d_RRef_oldest_9 (by decide) (fun c1 => ?_) (fun c1 => ?_)
    · replace hm := ip c1 hm
      refine lv_iload_n hx hb d_RRef_oldest_54 rfl (lv_at hl 1 rfl) ?_
      cases hm
      exact ret_ri X hS d_RRef_oldest_55
    · replace hm := ineg c1 hm
      refine lv_aload_n hx hb d_RRef_oldest_12 rfl (lv_at hl 0 rfl) ?_
      refine va_get (D := D) (ci := 6) (v := .ref (ad 9)) (C := R_RRef) (T := F_RRef) (N := 29) hx hb hts i_RRef hown hK hP 0 rfl rfl 14 (by decide) (hts _ wf_RRef_44) (fun _ h9 => h9) rfl d_RRef_oldest_13 ?_
      refine lv_iload_n hx hb d_RRef_oldest_16 rfl (lv_at hl 2 rfl) ?_
      obtain ⟨b2, hm⟩ := on hm
      refine va_iald hx hb hK hP 9 2 rfl rfl b2 d_RRef_oldest_17 ?_
      refine lv_iconst (v := (-1)) hx hb d_RRef_oldest_18 (by decide) ?_
      refine lv_icmp_eq (tgt := 46) hx hb d_RRef_oldest_19 (by decide) (fun c3 => ?_) (fun c3 => ?_)
      · replace hm := ip c3 hm
        refine lv_iload_n hx hb d_RRef_oldest_46 rfl (lv_at hl 1 rfl) ?_
        refine lv_istore_n (lv' := [(1, .int v1), (0, .ref (ad 0)), (2, .int v2)]) hx hb d_RRef_oldest_47 rfl hl (by decide) rfl (fun ls hl => ?_)
        refine lv_iinc (v := (v2 + 1)) (lv' := [(2, .int (v2 + 1)), (1, .int v1), (0, .ref (ad 0))]) hx hb d_RRef_oldest_48 hl (k := 2) rfl rfl (by decide) rfl (fun ls hl => ?_)
        refine lv_goto (tgt := 4) hx hb d_RRef_oldest_51 (by decide) ?_
        exact ih  v1 (v2 + 1) _ hm _ _ hP hD hS ls (lv_sub hl [2, 1, 0] rfl)
      · replace hm := ineg c3 hm
        refine lv_iload_n hx hb d_RRef_oldest_22 rfl (lv_at hl 1 rfl) ?_
        refine lv_iconst (v := (-1)) hx hb d_RRef_oldest_23 (by decide) ?_
        refine lv_icmp_eq (tgt := 42) hx hb d_RRef_oldest_24 (by decide) (fun c4 => ?_) (fun c4 => ?_)
        · replace hm := ip c4 hm
          refine lv_iload_n hx hb d_RRef_oldest_42 rfl (lv_at hl 2 rfl) ?_
          refine lv_goto (tgt := 47) hx hb d_RRef_oldest_43 (by decide) ?_
          refine lv_istore_n (lv' := [(1, .int v2), (0, .ref (ad 0)), (2, .int v2)]) hx hb d_RRef_oldest_47 rfl hl (by decide) rfl (fun ls hl => ?_)
          refine lv_iinc (v := (v2 + 1)) (lv' := [(2, .int (v2 + 1)), (1, .int v2), (0, .ref (ad 0))]) hx hb d_RRef_oldest_48 hl (k := 2) rfl rfl (by decide) rfl (fun ls hl => ?_)
          refine lv_goto (tgt := 4) hx hb d_RRef_oldest_51 (by decide) ?_
          exact ih  v2 (v2 + 1) _ hm _ _ hP hD hS ls (lv_sub hl [2, 1, 0] rfl)
        · replace hm := ineg c4 hm
          refine lv_aload_n hx hb d_RRef_oldest_27 rfl (lv_at hl 0 rfl) ?_
          refine va_get (D := D) (ci := 6) (v := .ref (ad 8)) (C := R_RRef) (T := F_RRef) (N := 29) hx hb hts i_RRef hown hK hP 0 rfl rfl 13 (by decide) (hts _ wf_RRef_41) (fun _ h9 => h9) rfl d_RRef_oldest_28 ?_
          refine lv_iload_n hx hb d_RRef_oldest_31 rfl (lv_at hl 2 rfl) ?_
          obtain ⟨b5, hm⟩ := on hm
          refine va_iald hx hb hK hP 8 2 rfl rfl b5 d_RRef_oldest_32 ?_
          refine lv_aload_n hx hb d_RRef_oldest_33 rfl (lv_at hl 0 rfl) ?_
          refine va_get (D := D) (ci := 6) (v := .ref (ad 8)) (C := R_RRef) (T := F_RRef) (N := 29) hx hb hts i_RRef hown hK hP 0 rfl rfl 13 (by decide) (hts _ wf_RRef_41) (fun _ h9 => h9) rfl d_RRef_oldest_34 ?_
          refine lv_iload_n hx hb d_RRef_oldest_37 rfl (lv_at hl 1 rfl) ?_
          obtain ⟨b6, hm⟩ := on hm
          refine va_iald hx hb hK hP 8 2 rfl rfl b6 d_RRef_oldest_38 ?_
          refine lv_icmp_ge (tgt := 46) hx hb d_RRef_oldest_39 (by decide) (fun c7 => ?_) (fun c7 => ?_)
          · replace hm := ip c7 hm
            refine lv_iload_n hx hb d_RRef_oldest_46 rfl (lv_at hl 1 rfl) ?_
            refine lv_istore_n (lv' := [(1, .int v1), (0, .ref (ad 0)), (2, .int v2)]) hx hb d_RRef_oldest_47 rfl hl (by decide) rfl (fun ls hl => ?_)
            refine lv_iinc (v := (v2 + 1)) (lv' := [(2, .int (v2 + 1)), (1, .int v1), (0, .ref (ad 0))]) hx hb d_RRef_oldest_48 hl (k := 2) rfl rfl (by decide) rfl (fun ls hl => ?_)
            refine lv_goto (tgt := 4) hx hb d_RRef_oldest_51 (by decide) ?_
            exact ih  v1 (v2 + 1) _ hm _ _ hP hD hS ls (lv_sub hl [2, 1, 0] rfl)
          · replace hm := ineg c7 hm
            refine lv_iload_n hx hb d_RRef_oldest_42 rfl (lv_at hl 2 rfl) ?_
            refine lv_goto (tgt := 47) hx hb d_RRef_oldest_43 (by decide) ?_
            refine lv_istore_n (lv' := [(1, .int v2), (0, .ref (ad 0)), (2, .int v2)]) hx hb d_RRef_oldest_47 rfl hl (by decide) rfl (fun ls hl => ?_)
            refine lv_iinc (v := (v2 + 1)) (lv' := [(2, .int (v2 + 1)), (1, .int v2), (0, .ref (ad 0))]) hx hb d_RRef_oldest_48 hl (k := 2) rfl rfl (by decide) rfl (fun ls hl => ?_)
            refine lv_goto (tgt := 4) hx hb d_RRef_oldest_51 (by decide) ?_
            exact ih  v2 (v2 + 1) _ hm _ _ hP hD hS ls (lv_sub hl [2, 1, 0] rfl)
set_option maxHeartbeats 4000000 in
set_option maxRecDepth 100000 in
theorem c_RRef_oldest (l : Launch) (D : va_G) (ca : Nat → ClassId) (ad : Nat → Nat) (sz : Nat) (g : St_Ref)  (res : Int32) (hm : m_RRef_oldest g = some res) : Met l y_RRef_oldest (cws y_RRef_oldest b_RRef_oldest 3 (some .int)) (RM 0 0) (PreW D ca (wl_Ref ca ad g) [.ref (ad 0)] sz) (QRr (.int res) (va_A [] sz)) 0 0 (va_A [] sz) := by
  refine met_ofR (own := R_RRef) (by decide) rfl (Nat.le_of_ble_eq_true rfl) ?_
  intro p e s m below meth c A X hA hP hD ls hl
  obtain ⟨hx, hb, hml, hr, hown, hts, hK, hlocks⟩ := id X
  have hS : va_S A s.heap s.heap [] := va_S.rf
  have hl : lv_has ls 3 [(0, .ref (ad 0))] := hl
  unfold m_RRef_oldest at hm
  refine lv_iconst (v := (-1)) hx hb d_RRef_oldest_0 (by decide) ?_
  refine lv_istore_n (lv' := [(1, .int (-1)), (0, .ref (ad 0))]) hx hb d_RRef_oldest_1 rfl hl (by decide) rfl (fun ls hl => ?_)
  refine lv_iconst (v := 0) hx hb d_RRef_oldest_2 (by decide) ?_
  refine lv_istore_n (lv' := [(2, .int 0), (1, .int (-1)), (0, .ref (ad 0))]) hx hb d_RRef_oldest_3 rfl hl (by decide) rfl (fun ls hl => ?_)
  exact k_m_RRef_oldest_L4 X hA FU  (-1) 0 _ hm _ _ hP hD hS ls (lv_sub hl [2, 1, 0] rfl)
set_option maxHeartbeats 4000000 in
set_option maxRecDepth 100000 in
theorem k_m_RRef_drop_L146 {p : Program} {l : Launch} {e : Env} {s : State} {m : MethodId} {args : Array Value} {below : List Frame} {meth : Method} {c : Code} {D : va_G} {ca : Nat → ClassId} {ad : Nat → Nat} {A : Nat → Prop} (X : Cx p s m args meth c R_RRef b_RRef_drop 8 (some .int) D ca) (hA : ∀ q, s.heap.size ≤ q → A q)  {k : St_Ref → Int32 → Int32 → Int32 → Int32 → Option (Int32 × St_Ref)} (hk : ∀ (g9 : St_Ref) (w2 : Int32) (w3 : Int32) (w4 : Int32) (w6 : Int32) (res : Int32 × St_Ref), k g9 w2 w3 w4 w6 = some res → ∀ (H : Heap) (locs : List Loc), va_P D classes (wl_Ref ca ad g9) H → va_D A (wl_Ref ca ad g9) → va_S A s.heap H locs → ∀ ls : Array Slot, lv_has ls 8 [(0, .ref (ad 0)), (2, .int w2), (3, .int w3), (4, .int w4), (6, .int w6)] → W p l e (RM 2 47) s m args below meth c H locs 0 0 (MQ below (QRm D (some (.int res.1)) (wl_Ref ca ad res.2) A) args s 0 0 A) (F0 m 230 ls [])) : ∀ (n : Nat) (g : St_Ref) (v2 : Int32) (v3 : Int32) (v4 : Int32) (v6 : Int32) (v7 : Int32) (res : Int32 × St_Ref), m_RRef_drop_L146  k n g v2 v3 v4 v6 v7 = some res → ∀ (H : Heap) (locs : List Loc), va_P D classes (wl_Ref ca ad g) H → va_D A (wl_Ref ca ad g) → va_S A s.heap H locs → ∀ ls : Array Slot, lv_has ls 8 [(0, .ref (ad 0)), (2, .int v2), (3, .int v3), (4, .int v4), (6, .int v6), (7, .int v7)] → W p l e (RM 2 47) s m args below meth c H locs 0 0 (MQ below (QRm D (some (.int res.1)) (wl_Ref ca ad res.2) A) args s 0 0 A) (F0 m 146 ls []) := by
  obtain ⟨hx, hb, hml, hr, hown, hts, hK, hlocks⟩ := id X
  intro n
  induction n with
  | zero =>
    intro g v2 v3 v4 v6 v7 res hm
    rw [m_RRef_drop_L146] at hm
    cases hm
  | succ n ih =>
    intro g v2 v3 v4 v6 v7 res hm H locs hP hD hS ls hl
    rw [m_RRef_drop_L146] at hm
    refine lv_iload hx hb d_RRef_drop_146 (lv_at hl 5 rfl) ?_
    refine lv_aload_n hx hb d_RRef_drop_148 rfl (lv_at hl 0 rfl) ?_
    refine va_get (D := D) (ci := 6) (v := .int (g_Rparts g)) (C := R_RRef) (T := F_RRef) (N := 29) hx hb hts i_RRef hown hK hP 0 rfl rfl 12 (by decide) (hts _ wf_RRef_106) (fun _ h9 => h9) rfl d_RRef_drop_149 ?_
    refine lv_icmp_ge (tgt := 230) hx hb d_RRef_drop_152 (by decide) (fun c7 => ?_) (fun c7 => ?_)
    · replace hm := ip c7 hm
      exact hk g v2 v3 v4 v6 _ hm _ _ hP hD hS ls (lv_sub hl [0, 1, 2, 3, 4] rfl)
    · replace hm := ineg c7 hm
      refine lv_aload_n hx hb d_RRef_drop_155 rfl (lv_at hl 0 rfl) ?_
      refine va_get (D := D) (ci := 6) (v := .ref (ad 3)) (C := R_RRef) (T := F_RRef) (N := 29) hx hb hts i_RRef hown hK hP 0 rfl rfl 7 (by decide) (hts _ wf_RRef_24) (fun _ h9 => h9) rfl d_RRef_drop_156 ?_
      refine lv_iload hx hb d_RRef_drop_159 (lv_at hl 5 rfl) ?_
      obtain ⟨b8, hm⟩ := on hm
      refine va_iald hx hb hK hP 3 2 rfl rfl b8 d_RRef_drop_161 ?_
      refine lv_iload hx hb d_RRef_drop_162 (lv_at hl 3 rfl) ?_
      refine lv_icmp_le (tgt := 220) hx hb d_RRef_drop_164 (by decide) (fun c9 => ?_) (fun c9 => ?_)
      · replace hm := ip c9 hm
        refine lv_iload hx hb d_RRef_drop_220 (lv_at hl 4 rfl) ?_
        refine lv_istore (lv' := [(6, .int v6), (0, .ref (ad 0)), (2, .int v2), (3, .int v3), (4, .int v4), (7, .int v7)]) hx hb d_RRef_drop_222 hl (by decide) rfl (fun ls hl => ?_)
        refine lv_iinc (v := (v7 + 1)) (lv' := [(7, .int (v7 + 1)), (6, .int v6), (0, .ref (ad 0)), (2, .int v2), (3, .int v3), (4, .int v4)]) hx hb d_RRef_drop_224 hl (k := 5) rfl rfl (by decide) rfl (fun ls hl => ?_)
        refine lv_goto (tgt := 146) hx hb d_RRef_drop_227 (by decide) ?_
        exact ih g v2 v3 v4 v6 (v7 + 1) _ hm _ _ hP hD hS ls (lv_sub hl [2, 3, 4, 5, 1, 0] rfl)
      · replace hm := ineg c9 hm
        refine lv_aload_n hx hb d_RRef_drop_167 rfl (lv_at hl 0 rfl) ?_
        refine va_get (D := D) (ci := 6) (v := .ref (ad 3)) (C := R_RRef) (T := F_RRef) (N := 29) hx hb hts i_RRef hown hK hP 0 rfl rfl 7 (by decide) (hts _ wf_RRef_24) (fun _ h9 => h9) rfl d_RRef_drop_168 ?_
        refine lv_iload hx hb d_RRef_drop_171 (lv_at hl 5 rfl) ?_
        obtain ⟨b10, hm⟩ := on hm
        refine va_iald hx hb hK hP 3 2 rfl rfl b10 d_RRef_drop_173 ?_
        refine lv_iload_n hx hb d_RRef_drop_174 rfl (lv_at hl 1 rfl) ?_
        refine lv_icmp_gt (tgt := 220) hx hb d_RRef_drop_175 (by decide) (fun c11 => ?_) (fun c11 => ?_)
        · replace hm := ip c11 hm
          refine lv_iload hx hb d_RRef_drop_220 (lv_at hl 4 rfl) ?_
          refine lv_istore (lv' := [(6, .int v6), (0, .ref (ad 0)), (2, .int v2), (3, .int v3), (4, .int v4), (7, .int v7)]) hx hb d_RRef_drop_222 hl (by decide) rfl (fun ls hl => ?_)
          refine lv_iinc (v := (v7 + 1)) (lv' := [(7, .int (v7 + 1)), (6, .int v6), (0, .ref (ad 0)), (2, .int v2), (3, .int v3), (4, .int v4)]) hx hb d_RRef_drop_224 hl (k := 5) rfl rfl (by decide) rfl (fun ls hl => ?_)
          refine lv_goto (tgt := 146) hx hb d_RRef_drop_227 (by decide) ?_
          exact ih g v2 v3 v4 v6 (v7 + 1) _ hm _ _ hP hD hS ls (lv_sub hl [2, 3, 4, 5, 1, 0] rfl)
        · replace hm := ineg c11 hm
          refine lv_aload_n hx hb d_RRef_drop_178 rfl (lv_at hl 0 rfl) ?_
          refine lv_aload_n hx hb d_RRef_drop_179 rfl (lv_at hl 0 rfl) ?_
          refine va_get (D := D) (ci := 6) (v := .ref (ad 3)) (C := R_RRef) (T := F_RRef) (N := 29) hx hb hts i_RRef hown hK hP 0 rfl rfl 7 (by decide) (hts _ wf_RRef_24) (fun _ h9 => h9) rfl d_RRef_drop_180 ?_
          refine lv_iload hx hb d_RRef_drop_183 (lv_at hl 5 rfl) ?_
          obtain ⟨b12, hm⟩ := on hm
          refine va_iald hx hb hK hP 3 2 rfl rfl b12 d_RRef_drop_185 ?_
          obtain ⟨q13, hq13, hm⟩ := ob hm
          refine inv_rVa (C := R_RRef) (As := [.int ((g_RpNumber g).2 (v7).toNatClampNeg)]) (rest := []) (v := .int q13) X (c_RRef_named0 l D ca ad _ g ((g_RpNumber g).2 (v7).toNatClampNeg) q13 hq13) g_RRef_218 yo_RRef_named0 ⟨Nat.le_of_ble_eq_true rfl, Nat.le_of_ble_eq_true rfl⟩ hl hP hD (ci := 6) rfl rfl hS hA rfl rfl (Nat.le_of_ble_eq_true rfl) ⟨Nat.zero_le _, Nat.zero_le _⟩ d_RRef_drop_186 (fun H locs hP hS => ?_)
          refine lv_if_ne (tgt := 220) hx hb d_RRef_drop_189 (by decide) (fun c14 => ?_) (fun c14 => ?_)
          · replace hm := ineg c14 hm
            refine lv_iload hx hb d_RRef_drop_220 (lv_at hl 4 rfl) ?_
            refine lv_istore (lv' := [(6, .int v6), (0, .ref (ad 0)), (2, .int v2), (3, .int v3), (4, .int v4), (7, .int v7)]) hx hb d_RRef_drop_222 hl (by decide) rfl (fun ls hl => ?_)
            refine lv_iinc (v := (v7 + 1)) (lv' := [(7, .int (v7 + 1)), (6, .int v6), (0, .ref (ad 0)), (2, .int v2), (3, .int v3), (4, .int v4)]) hx hb d_RRef_drop_224 hl (k := 5) rfl rfl (by decide) rfl (fun ls hl => ?_)
            refine lv_goto (tgt := 146) hx hb d_RRef_drop_227 (by decide) ?_
            exact ih g v2 v3 v4 v6 (v7 + 1) _ hm _ _ hP hD hS ls (lv_sub hl [2, 3, 4, 5, 1, 0] rfl)
          · replace hm := ip c14 hm
            refine lv_iload hx hb d_RRef_drop_192 (lv_at hl 4 rfl) ?_
            refine lv_iconst (v := (-1)) hx hb d_RRef_drop_194 (by decide) ?_
            refine lv_icmp_eq (tgt := 215) hx hb d_RRef_drop_195 (by decide) (fun c15 => ?_) (fun c15 => ?_)
            · replace hm := ip c15 hm
              refine lv_iload hx hb d_RRef_drop_215 (lv_at hl 5 rfl) ?_
              refine lv_goto (tgt := 222) hx hb d_RRef_drop_217 (by decide) ?_
              refine lv_istore (lv' := [(6, .int v7), (0, .ref (ad 0)), (2, .int v2), (3, .int v3), (4, .int v4), (7, .int v7)]) hx hb d_RRef_drop_222 hl (by decide) rfl (fun ls hl => ?_)
              refine lv_iinc (v := (v7 + 1)) (lv' := [(7, .int (v7 + 1)), (6, .int v7), (0, .ref (ad 0)), (2, .int v2), (3, .int v3), (4, .int v4)]) hx hb d_RRef_drop_224 hl (k := 5) rfl rfl (by decide) rfl (fun ls hl => ?_)
              refine lv_goto (tgt := 146) hx hb d_RRef_drop_227 (by decide) ?_
              exact ih g v2 v3 v4 v7 (v7 + 1) _ hm _ _ hP hD hS ls (lv_sub hl [2, 3, 4, 5, 1, 0] rfl)
            · replace hm := ineg c15 hm
              refine lv_aload_n hx hb d_RRef_drop_198 rfl (lv_at hl 0 rfl) ?_
              refine va_get (D := D) (ci := 6) (v := .ref (ad 3)) (C := R_RRef) (T := F_RRef) (N := 29) hx hb hts i_RRef hown hK hP 0 rfl rfl 7 (by decide) (hts _ wf_RRef_24) (fun _ h9 => h9) rfl d_RRef_drop_199 ?_
              refine lv_iload hx hb d_RRef_drop_202 (lv_at hl 5 rfl) ?_
              obtain ⟨b16, hm⟩ := on hm
              refine va_iald hx hb hK hP 3 2 rfl rfl b16 d_RRef_drop_204 ?_
              refine lv_aload_n hx hb d_RRef_drop_205 rfl (lv_at hl 0 rfl) ?_
              refine va_get (D := D) (ci := 6) (v := .ref (ad 3)) (C := R_RRef) (T := F_RRef) (N := 29) hx hb hts i_RRef hown hK hP 0 rfl rfl 7 (by decide) (hts _ wf_RRef_24) (fun _ h9 => h9) rfl d_RRef_drop_206 ?_
              refine lv_iload hx hb d_RRef_drop_209 (lv_at hl 4 rfl) ?_
              obtain ⟨b17, hm⟩ := on hm
              refine va_iald hx hb hK hP 3 2 rfl rfl b17 d_RRef_drop_211 ?_
              refine lv_icmp_ge (tgt := 220) hx hb d_RRef_drop_212 (by decide) (fun c18 => ?_) (fun c18 => ?_)
              · replace hm := ip c18 hm
                refine lv_iload hx hb d_RRef_drop_220 (lv_at hl 4 rfl) ?_
                refine lv_istore (lv' := [(6, .int v6), (0, .ref (ad 0)), (2, .int v2), (3, .int v3), (4, .int v4), (7, .int v7)]) hx hb d_RRef_drop_222 hl (by decide) rfl (fun ls hl => ?_)
                refine lv_iinc (v := (v7 + 1)) (lv' := [(7, .int (v7 + 1)), (6, .int v6), (0, .ref (ad 0)), (2, .int v2), (3, .int v3), (4, .int v4)]) hx hb d_RRef_drop_224 hl (k := 5) rfl rfl (by decide) rfl (fun ls hl => ?_)
                refine lv_goto (tgt := 146) hx hb d_RRef_drop_227 (by decide) ?_
                exact ih g v2 v3 v4 v6 (v7 + 1) _ hm _ _ hP hD hS ls (lv_sub hl [2, 3, 4, 5, 1, 0] rfl)
              · replace hm := ineg c18 hm
                refine lv_iload hx hb d_RRef_drop_215 (lv_at hl 5 rfl) ?_
                refine lv_goto (tgt := 222) hx hb d_RRef_drop_217 (by decide) ?_
                refine lv_istore (lv' := [(6, .int v7), (0, .ref (ad 0)), (2, .int v2), (3, .int v3), (4, .int v4), (7, .int v7)]) hx hb d_RRef_drop_222 hl (by decide) rfl (fun ls hl => ?_)
                refine lv_iinc (v := (v7 + 1)) (lv' := [(7, .int (v7 + 1)), (6, .int v7), (0, .ref (ad 0)), (2, .int v2), (3, .int v3), (4, .int v4)]) hx hb d_RRef_drop_224 hl (k := 5) rfl rfl (by decide) rfl (fun ls hl => ?_)
                refine lv_goto (tgt := 146) hx hb d_RRef_drop_227 (by decide) ?_
                exact ih g v2 v3 v4 v7 (v7 + 1) _ hm _ _ hP hD hS ls (lv_sub hl [2, 3, 4, 5, 1, 0] rfl)
set_option maxHeartbeats 4000000 in
set_option maxRecDepth 100000 in
theorem k_m_RRef_drop_L135 {p : Program} {l : Launch} {e : Env} {s : State} {m : MethodId} {args : Array Value} {below : List Frame} {meth : Method} {c : Code} {D : va_G} {ca : Nat → ClassId} {ad : Nat → Nat} {A : Nat → Prop} (X : Cx p s m args meth c R_RRef b_RRef_drop 8 (some .int) D ca) (hA : ∀ q, s.heap.size ≤ q → A q)  : ∀ (n : Nat) (g : St_Ref) (v2 : Int32) (v3 : Int32) (v4 : Int32) (v5 : Int32) (res : Int32 × St_Ref), m_RRef_drop_L135  n g v2 v3 v4 v5 = some res → ∀ (H : Heap) (locs : List Loc), va_P D classes (wl_Ref ca ad g) H → va_D A (wl_Ref ca ad g) → va_S A s.heap H locs → ∀ ls : Array Slot, lv_has ls 8 [(0, .ref (ad 0)), (2, .int v2), (3, .int v3), (4, .int v4), (5, .int v5)] → W p l e (RM 2 47) s m args below meth c H locs 0 0 (MQ below (QRm D (some (.int res.1)) (wl_Ref ca ad res.2) A) args s 0 0 A) (F0 m 135 ls []) := by
  obtain ⟨hx, hb, hml, hr, hown, hts, hK, hlocks⟩ := id X
  intro n
  induction n with
  | zero =>
    intro g v2 v3 v4 v5 res hm
    rw [m_RRef_drop_L135] at hm
    cases hm
  | succ n ih =>
    intro g v2 v3 v4 v5 res hm H locs hP hD hS ls hl
    rw [m_RRef_drop_L135] at hm
    refine lv_iload hx hb d_RRef_drop_135 (lv_at hl 4 rfl) ?_
    refine lv_if_eq (tgt := 298) hx hb d_RRef_drop_137 (by decide) (fun c6 => ?_) (fun c6 => ?_)
    · replace hm := ip c6 hm
      refine lv_iload_n hx hb d_RRef_drop_298 rfl (lv_at hl 2 rfl) ?_
      cases hm
      exact ret_mi X hP hS d_RRef_drop_299
    · replace hm := ineg c6 hm
      refine lv_iconst (v := (-1)) hx hb d_RRef_drop_140 (by decide) ?_
      refine lv_istore (lv' := [(6, .int (-1)), (0, .ref (ad 0)), (2, .int v2), (3, .int v3), (4, .int v4), (5, .int v5)]) hx hb d_RRef_drop_141 hl (by decide) rfl (fun ls hl => ?_)
      refine lv_iconst (v := 0) hx hb d_RRef_drop_143 (by decide) ?_
      refine lv_istore (lv' := [(7, .int 0), (6, .int (-1)), (0, .ref (ad 0)), (2, .int v2), (3, .int v3), (4, .int v4), (5, .int v5)]) hx hb d_RRef_drop_144 hl (by decide) rfl (fun ls hl => ?_)
      refine k_m_RRef_drop_L146 X hA (k := (fun (g19 : St_Ref) (v2_20 : Int32) (v3_21 : Int32) (v4_22 : Int32) (v6_23 : Int32) => if v6_23 = (-1) then
        (m_RRef_drop_L135 n g19 v2_20 v3_21 v4_22 0)
        else
        (if v6_23 < 0 ∨ (g_RpNumber g19).1 ≤ (v6_23).toNatClampNeg then none else if v6_23 < 0 ∨ (g_RpRow g19).1 ≤ (v6_23).toNatClampNeg then none else if v6_23 < 0 ∨ (g_RpLength g19).1 ≤ (v6_23).toNatClampNeg then none else (m_RRef_bodies ((g_RpLength g19).2 (v6_23).toNatClampNeg)).bind fun q28 => (m_RRef_takeBack g19 ((g_RpRow g19).2 (v6_23).toNatClampNeg) (1 + q28)).bind fun q29 => if q29.1 = 0 then
          (some ((-5), q29.2))
          else
          ((m_RRef_forgetPart q29.2 v6_23).bind fun q31 => m_RRef_drop_L135 n q31 v2_20 (v3_21 + 1) ((g_RpNumber g19).2 (v6_23).toNatClampNeg) 1)))) (fun g19 v2_20 v3_21 v4_22 v6_23 res hm H locs hP hD hS ls hl => ?_) FU g v2 v3 v4 (-1) 0 _ hm _ _ hP hD hS ls (lv_sub hl [2, 3, 4, 5, 1, 0] rfl)
      · have hm := hm
        refine lv_iload hx hb d_RRef_drop_230 (lv_at hl 4 rfl) ?_
        refine lv_iconst (v := (-1)) hx hb d_RRef_drop_232 (by decide) ?_
        refine lv_icmp_eq (tgt := 240) hx hb d_RRef_drop_233 (by decide) (fun c24 => ?_) (fun c24 => ?_)
        · replace hm := ip c24 hm
          refine lv_iconst (v := 0) hx hb d_RRef_drop_240 (by decide) ?_
          refine lv_istore (lv' := [(5, .int 0), (0, .ref (ad 0)), (2, .int v2_20), (3, .int v3_21), (4, .int v4_22), (6, .int v6_23)]) hx hb d_RRef_drop_241 hl (by decide) rfl (fun ls hl => ?_)
          refine lv_iload hx hb d_RRef_drop_243 (lv_at hl 0 rfl) ?_
          refine lv_if_eq (tgt := 295) hx hb d_RRef_drop_245 (by decide) (fun _ => ?_) (fun h9 => absurd h9 (by decide))
          refine lv_goto (tgt := 135) hx hb d_RRef_drop_295 (by decide) ?_
          exact ih g19 v2_20 v3_21 v4_22 0 _ hm _ _ hP hD hS ls (lv_sub hl [1, 2, 3, 4, 0] rfl)
        · replace hm := ineg c24 hm
          refine lv_iconst (v := 1) hx hb d_RRef_drop_236 (by decide) ?_
          refine lv_goto (tgt := 241) hx hb d_RRef_drop_237 (by decide) ?_
          refine lv_istore (lv' := [(5, .int 1), (0, .ref (ad 0)), (2, .int v2_20), (3, .int v3_21), (4, .int v4_22), (6, .int v6_23)]) hx hb d_RRef_drop_241 hl (by decide) rfl (fun ls hl => ?_)
          refine lv_iload hx hb d_RRef_drop_243 (lv_at hl 0 rfl) ?_
          refine lv_if_eq (tgt := 295) hx hb d_RRef_drop_245 (by decide) (fun h9 => absurd h9 (by decide)) (fun _ => ?_)
          refine lv_aload_n hx hb d_RRef_drop_248 rfl (lv_at hl 1 rfl) ?_
          refine va_get (D := D) (ci := 6) (v := .ref (ad 3)) (C := R_RRef) (T := F_RRef) (N := 29) hx hb hts i_RRef hown hK hP 0 rfl rfl 7 (by decide) (hts _ wf_RRef_24) (fun _ h9 => h9) rfl d_RRef_drop_249 ?_
          refine lv_iload hx hb d_RRef_drop_252 (lv_at hl 5 rfl) ?_
          obtain ⟨b25, hm⟩ := on hm
          refine va_iald hx hb hK hP 3 2 rfl rfl b25 d_RRef_drop_254 ?_
          refine lv_istore (lv' := [(4, .int ((g_RpNumber g19).2 (v6_23).toNatClampNeg)), (5, .int 1), (0, .ref (ad 0)), (2, .int v2_20), (3, .int v3_21), (6, .int v6_23)]) hx hb d_RRef_drop_255 hl (by decide) rfl (fun ls hl => ?_)
          refine lv_aload_n hx hb d_RRef_drop_257 rfl (lv_at hl 2 rfl) ?_
          refine lv_aload_n hx hb d_RRef_drop_258 rfl (lv_at hl 2 rfl) ?_
          refine va_get (D := D) (ci := 6) (v := .ref (ad 7)) (C := R_RRef) (T := F_RRef) (N := 29) hx hb hts i_RRef hown hK hP 0 rfl rfl 11 (by decide) (hts _ wf_RRef_38) (fun _ h9 => h9) rfl d_RRef_drop_259 ?_
          refine lv_iload hx hb d_RRef_drop_262 (lv_at hl 5 rfl) ?_
          obtain ⟨b26, hm⟩ := on hm
          refine va_iald hx hb hK hP 7 2 rfl rfl b26 d_RRef_drop_264 ?_
          refine lv_iconst (v := 1) hx hb d_RRef_drop_265 (by decide) ?_
          refine lv_aload_n hx hb d_RRef_drop_266 rfl (lv_at hl 2 rfl) ?_
          refine va_get (D := D) (ci := 6) (v := .ref (ad 6)) (C := R_RRef) (T := F_RRef) (N := 29) hx hb hts i_RRef hown hK hP 0 rfl rfl 10 (by decide) (hts _ wf_RRef_35) (fun _ h9 => h9) rfl d_RRef_drop_267 ?_
          refine lv_iload hx hb d_RRef_drop_270 (lv_at hl 5 rfl) ?_
          obtain ⟨b27, hm⟩ := on hm
          refine va_iald hx hb hK hP 6 2 rfl rfl b27 d_RRef_drop_272 ?_
          obtain ⟨q28, hq28, hm⟩ := ob hm
          refine inv_rS (As := [.int ((g_RpLength g19).2 (v6_23).toNatClampNeg)]) (rest := [.int 1, .int ((g_RpRow g19).2 (v6_23).toNatClampNeg), .ref (ad 0)]) (v := .int q28) X (c_RRef_bodies l D ca  _ ((g_RpLength g19).2 (v6_23).toNatClampNeg) q28 hq28) g_RRef_112 yo_RRef_bodies ⟨Nat.le_of_ble_eq_true rfl, Nat.le_of_ble_eq_true rfl⟩ hl hP hD [] rfl rfl hS hA rfl rfl (Nat.le_of_ble_eq_true rfl) ⟨Nat.zero_le _, Nat.zero_le _⟩ d_RRef_drop_273 (fun H locs hP hS => ?_)
          refine lv_iadd hx hb d_RRef_drop_276 ?_
          obtain ⟨q29, hq29, hm⟩ := ob hm
          refine inv_mVa (C := R_RRef) (As := [.int ((g_RpRow g19).2 (v6_23).toNatClampNeg), .int (1 + q28)]) (rest := []) (v := .int q29.1) X (c_RRef_takeBack l D ca ad _ g19 ((g_RpRow g19).2 (v6_23).toNatClampNeg) (1 + q28) q29 hq29) g_RRef_215 yo_RRef_takeBack ⟨Nat.le_of_ble_eq_true rfl, Nat.le_of_ble_eq_true rfl⟩ hl hP hD rfl (ci := 6) rfl rfl hS hA rfl rfl (Nat.le_of_ble_eq_true rfl) ⟨Nat.zero_le _, Nat.zero_le _⟩ d_RRef_drop_277 (fun H locs hP hD hS => ?_)
          refine lv_if_ne (tgt := 286) hx hb d_RRef_drop_280 (by decide) (fun c30 => ?_) (fun c30 => ?_)
          · replace hm := ineg c30 hm
            refine lv_aload_n hx hb d_RRef_drop_286 rfl (lv_at hl 2 rfl) ?_
            refine lv_iload hx hb d_RRef_drop_287 (lv_at hl 5 rfl) ?_
            obtain ⟨q31, hq31, hm⟩ := ob hm
            refine inv_mUa (C := R_RRef) (As := [.int v6_23]) (rest := []) X (c_RRef_forgetPart l D ca ad _ q29.2 v6_23 q31 hq31) g_RRef_221 yo_RRef_forgetPart ⟨Nat.le_of_ble_eq_true rfl, Nat.le_of_ble_eq_true rfl⟩ hl hP hD rfl (ci := 6) rfl rfl hS hA rfl rfl (Nat.le_of_ble_eq_true rfl) ⟨Nat.zero_le _, Nat.zero_le _⟩ d_RRef_drop_289 (fun H locs hP hD hS => ?_)
            refine lv_iinc (v := (v3_21 + 1)) (lv' := [(3, .int (v3_21 + 1)), (4, .int ((g_RpNumber g19).2 (v6_23).toNatClampNeg)), (5, .int 1), (0, .ref (ad 0)), (2, .int v2_20), (6, .int v6_23)]) hx hb d_RRef_drop_292 hl (k := 4) rfl rfl (by decide) rfl (fun ls hl => ?_)
            refine lv_goto (tgt := 135) hx hb d_RRef_drop_295 (by decide) ?_
            exact ih q31 v2_20 (v3_21 + 1) ((g_RpNumber g19).2 (v6_23).toNatClampNeg) 1 _ hm _ _ hP hD hS ls (lv_sub hl [3, 4, 0, 1, 2] rfl)
          · replace hm := ip c30 hm
            refine lv_bipush (v := (-5)) hx hb d_RRef_drop_283 (by decide) ?_
            cases hm
            exact ret_mi X hP hS d_RRef_drop_285
set_option maxHeartbeats 4000000 in
set_option maxRecDepth 100000 in
theorem k_m_RRef_drop_L78 {p : Program} {l : Launch} {e : Env} {s : State} {m : MethodId} {args : Array Value} {below : List Frame} {meth : Method} {c : Code} {D : va_G} {ca : Nat → ClassId} {ad : Nat → Nat} {A : Nat → Prop} (X : Cx p s m args meth c R_RRef b_RRef_drop 8 (some .int) D ca) (hA : ∀ q, s.heap.size ≤ q → A q)  : ∀ (n : Nat) (g : St_Ref) (v1 : Int32) (v2 : Int32) (res : Int32 × St_Ref), m_RRef_drop_L78  n g v1 v2 = some res → ∀ (H : Heap) (locs : List Loc), va_P D classes (wl_Ref ca ad g) H → va_D A (wl_Ref ca ad g) → va_S A s.heap H locs → ∀ ls : Array Slot, lv_has ls 8 [(0, .ref (ad 0)), (1, .int v1), (2, .int v2)] → W p l e (RM 2 47) s m args below meth c H locs 0 0 (MQ below (QRm D (some (.int res.1)) (wl_Ref ca ad res.2) A) args s 0 0 A) (F0 m 78 ls []) := by
  obtain ⟨hx, hb, hml, hr, hown, hts, hK, hlocks⟩ := id X
  intro n
  induction n with
  | zero =>
    intro g v1 v2 res hm
    rw [m_RRef_drop_L78] at hm
    cases hm
  | succ n ih =>
    intro g v1 v2 res hm H locs hP hD hS ls hl
    rw [m_RRef_drop_L78] at hm
    refine lv_aload_n hx hb d_RRef_drop_78 rfl (lv_at hl 0 rfl) ?_
    refine lv_iconst (v := 1) hx hb d_RRef_drop_79 (by decide) ?_
    obtain ⟨q4, hq4, hm⟩ := ob hm
    refine inv_rVa (C := R_RRef) (As := [.int 1]) (rest := []) (v := .int q4) X (c_RRef_count l D ca ad _ g 1 q4 hq4) g_RRef_196 yo_RRef_count ⟨Nat.le_of_ble_eq_true rfl, Nat.le_of_ble_eq_true rfl⟩ hl hP hD (ci := 6) rfl rfl hS hA rfl rfl (Nat.le_of_ble_eq_true rfl) ⟨Nat.zero_le _, Nat.zero_le _⟩ d_RRef_drop_80 (fun H locs hP hS => ?_)
    refine lv_iload_n hx hb d_RRef_drop_83 rfl (lv_at hl 1 rfl) ?_
    refine lv_icmp_le (tgt := 127) hx hb d_RRef_drop_84 (by decide) (fun c5 => ?_) (fun c5 => ?_)
    · replace hm := ip c5 hm
      refine lv_iconst (v := 0) hx hb d_RRef_drop_127 (by decide) ?_
      refine lv_istore_n (lv' := [(3, .int 0), (0, .ref (ad 0)), (1, .int v1), (2, .int v2)]) hx hb d_RRef_drop_128 rfl hl (by decide) rfl (fun ls hl => ?_)
      refine lv_iconst (v := 0) hx hb d_RRef_drop_129 (by decide) ?_
      refine lv_istore (lv' := [(4, .int 0), (3, .int 0), (0, .ref (ad 0)), (1, .int v1), (2, .int v2)]) hx hb d_RRef_drop_130 hl (by decide) rfl (fun ls hl => ?_)
      refine lv_iconst (v := 1) hx hb d_RRef_drop_132 (by decide) ?_
      refine lv_istore (lv' := [(5, .int 1), (4, .int 0), (3, .int 0), (0, .ref (ad 0)), (1, .int v1), (2, .int v2)]) hx hb d_RRef_drop_133 hl (by decide) rfl (fun ls hl => ?_)
      exact k_m_RRef_drop_L135 X hA FU g v2 0 0 1 _ hm _ _ hP hD hS ls (lv_sub hl [3, 5, 2, 1, 0] rfl)
    · replace hm := ineg c5 hm
      refine lv_aload_n hx hb d_RRef_drop_87 rfl (lv_at hl 0 rfl) ?_
      obtain ⟨q32, hq32, hm⟩ := ob hm
      refine inv_rVa (C := R_RRef) (As := []) (rest := []) (v := .int q32) X (c_RRef_oldest l D ca ad _ g q32 hq32) g_RRef_211 yo_RRef_oldest ⟨Nat.le_of_ble_eq_true rfl, Nat.le_of_ble_eq_true rfl⟩ hl hP hD (ci := 6) rfl rfl hS hA rfl rfl (Nat.le_of_ble_eq_true rfl) ⟨Nat.zero_le _, Nat.zero_le _⟩ d_RRef_drop_88 (fun H locs hP hS => ?_)
      refine lv_istore_n (lv' := [(3, .int q32), (0, .ref (ad 0)), (1, .int v1), (2, .int v2)]) hx hb d_RRef_drop_91 rfl hl (by decide) rfl (fun ls hl => ?_)
      refine lv_aload_n hx hb d_RRef_drop_92 rfl (lv_at hl 1 rfl) ?_
      refine lv_aload_n hx hb d_RRef_drop_93 rfl (lv_at hl 1 rfl) ?_
      refine va_get (D := D) (ci := 6) (v := .ref (ad 9)) (C := R_RRef) (T := F_RRef) (N := 29) hx hb hts i_RRef hown hK hP 0 rfl rfl 14 (by decide) (hts _ wf_RRef_44) (fun _ h9 => h9) rfl d_RRef_drop_94 ?_
      refine lv_iload_n hx hb d_RRef_drop_97 rfl (lv_at hl 0 rfl) ?_
      obtain ⟨b33, hm⟩ := on hm
      refine va_iald hx hb hK hP 9 2 rfl rfl b33 d_RRef_drop_98 ?_
      refine lv_iconst (v := 1) hx hb d_RRef_drop_99 (by decide) ?_
      refine lv_aload_n hx hb d_RRef_drop_100 rfl (lv_at hl 1 rfl) ?_
      refine va_get (D := D) (ci := 6) (v := .ref (ad 10)) (C := R_RRef) (T := F_RRef) (N := 29) hx hb hts i_RRef hown hK hP 0 rfl rfl 15 (by decide) (hts _ wf_RRef_47) (fun _ h9 => h9) rfl d_RRef_drop_101 ?_
      refine lv_iload_n hx hb d_RRef_drop_104 rfl (lv_at hl 0 rfl) ?_
      obtain ⟨b34, hm⟩ := on hm
      refine va_iald hx hb hK hP 10 2 rfl rfl b34 d_RRef_drop_105 ?_
      obtain ⟨q35, hq35, hm⟩ := ob hm
      refine inv_rS (As := [.int ((g_RmCount g).2 (q32).toNatClampNeg)]) (rest := [.int 1, .int ((g_RmRow g).2 (q32).toNatClampNeg), .ref (ad 0)]) (v := .int q35) X (c_RRef_entries l D ca  _ ((g_RmCount g).2 (q32).toNatClampNeg) q35 hq35) g_RRef_116 yo_RRef_entries ⟨Nat.le_of_ble_eq_true rfl, Nat.le_of_ble_eq_true rfl⟩ hl hP hD [] rfl rfl hS hA rfl rfl (Nat.le_of_ble_eq_true rfl) ⟨Nat.zero_le _, Nat.zero_le _⟩ d_RRef_drop_106 (fun H locs hP hS => ?_)
      refine lv_iadd hx hb d_RRef_drop_109 ?_
      obtain ⟨q36, hq36, hm⟩ := ob hm
      refine inv_mVa (C := R_RRef) (As := [.int ((g_RmRow g).2 (q32).toNatClampNeg), .int (1 + q35)]) (rest := []) (v := .int q36.1) X (c_RRef_takeBack l D ca ad _ g ((g_RmRow g).2 (q32).toNatClampNeg) (1 + q35) q36 hq36) g_RRef_215 yo_RRef_takeBack ⟨Nat.le_of_ble_eq_true rfl, Nat.le_of_ble_eq_true rfl⟩ hl hP hD rfl (ci := 6) rfl rfl hS hA rfl rfl (Nat.le_of_ble_eq_true rfl) ⟨Nat.zero_le _, Nat.zero_le _⟩ d_RRef_drop_110 (fun H locs hP hD hS => ?_)
      refine lv_if_ne (tgt := 119) hx hb d_RRef_drop_113 (by decide) (fun c37 => ?_) (fun c37 => ?_)
      · replace hm := ineg c37 hm
        refine lv_aload_n hx hb d_RRef_drop_119 rfl (lv_at hl 1 rfl) ?_
        refine lv_iload_n hx hb d_RRef_drop_120 rfl (lv_at hl 0 rfl) ?_
        obtain ⟨q38, hq38, hm⟩ := ob hm
        refine inv_mUa (C := R_RRef) (As := [.int q32]) (rest := []) X (c_RRef_forgetMark l D ca ad _ q36.2 q32 q38 hq38) g_RRef_207 yo_RRef_forgetMark ⟨Nat.le_of_ble_eq_true rfl, Nat.le_of_ble_eq_true rfl⟩ hl hP hD rfl (ci := 6) rfl rfl hS hA rfl rfl (Nat.le_of_ble_eq_true rfl) ⟨Nat.zero_le _, Nat.zero_le _⟩ d_RRef_drop_121 (fun H locs hP hD hS => ?_)
        refine lv_goto (tgt := 78) hx hb d_RRef_drop_124 (by decide) ?_
        exact ih q38 v1 v2 _ hm _ _ hP hD hS ls (lv_sub hl [1, 2, 3] rfl)
      · replace hm := ip c37 hm
        refine lv_bipush (v := (-5)) hx hb d_RRef_drop_116 (by decide) ?_
        cases hm
        exact ret_mi X hP hS d_RRef_drop_118
set_option maxHeartbeats 4000000 in
set_option maxRecDepth 100000 in
theorem k_m_RRef_drop_L21 {p : Program} {l : Launch} {e : Env} {s : State} {m : MethodId} {args : Array Value} {below : List Frame} {meth : Method} {c : Code} {D : va_G} {ca : Nat → ClassId} {ad : Nat → Nat} {A : Nat → Prop} (X : Cx p s m args meth c R_RRef b_RRef_drop 8 (some .int) D ca) (hA : ∀ q, s.heap.size ≤ q → A q)  : ∀ (n : Nat) (g : St_Ref) (v1 : Int32) (v2 : Int32) (v3 : Int32) (res : Int32 × St_Ref), m_RRef_drop_L21  n g v1 v2 v3 = some res → ∀ (H : Heap) (locs : List Loc), va_P D classes (wl_Ref ca ad g) H → va_D A (wl_Ref ca ad g) → va_S A s.heap H locs → ∀ ls : Array Slot, lv_has ls 8 [(0, .ref (ad 0)), (1, .int v1), (2, .int v2), (3, .int v3)] → W p l e (RM 2 47) s m args below meth c H locs 0 0 (MQ below (QRm D (some (.int res.1)) (wl_Ref ca ad res.2) A) args s 0 0 A) (F0 m 21 ls []) := by
  obtain ⟨hx, hb, hml, hr, hown, hts, hK, hlocks⟩ := id X
  intro n
  induction n with
  | zero =>
    intro g v1 v2 v3 res hm
    rw [m_RRef_drop_L21] at hm
    cases hm
  | succ n ih =>
    intro g v1 v2 v3 res hm H locs hP hD hS ls hl
    rw [m_RRef_drop_L21] at hm
    refine lv_iload_n hx hb d_RRef_drop_21 rfl (lv_at hl 3 rfl) ?_
    refine lv_aload_n hx hb d_RRef_drop_22 rfl (lv_at hl 0 rfl) ?_
    refine va_get (D := D) (ci := 6) (v := .int (g_Rmarks g)) (C := R_RRef) (T := F_RRef) (N := 29) hx hb hts i_RRef hown hK hP 0 rfl rfl 20 (by decide) (hts _ wf_RRef_109) (fun _ h9 => h9) rfl d_RRef_drop_23 ?_
    refine lv_icmp_ge (tgt := 78) hx hb d_RRef_drop_26 (by decide) (fun c3 => ?_) (fun c3 => ?_)
    · replace hm := ip c3 hm
      exact k_m_RRef_drop_L78 X hA FU g v1 v2 _ hm _ _ hP hD hS ls (lv_sub hl [0, 1, 2] rfl)
    · replace hm := ineg c3 hm
      refine lv_aload_n hx hb d_RRef_drop_29 rfl (lv_at hl 0 rfl) ?_
      refine va_get (D := D) (ci := 6) (v := .ref (ad 12)) (C := R_RRef) (T := F_RRef) (N := 29) hx hb hts i_RRef hown hK hP 0 rfl rfl 17 (by decide) (hts _ wf_RRef_53) (fun _ h9 => h9) rfl d_RRef_drop_30 ?_
      refine lv_bipush (v := 12) hx hb d_RRef_drop_33 (by decide) ?_
      refine lv_iload_n hx hb d_RRef_drop_35 rfl (lv_at hl 3 rfl) ?_
      refine lv_imul hx hb d_RRef_drop_36 ?_
      refine lv_aload_n hx hb d_RRef_drop_37 rfl (lv_at hl 0 rfl) ?_
      refine va_get (D := D) (ci := 6) (v := .ref (ad 10)) (C := R_RRef) (T := F_RRef) (N := 29) hx hb hts i_RRef hown hK hP 0 rfl rfl 15 (by decide) (hts _ wf_RRef_47) (fun _ h9 => h9) rfl d_RRef_drop_38 ?_
      refine lv_iload_n hx hb d_RRef_drop_41 rfl (lv_at hl 3 rfl) ?_
      obtain ⟨b39, hm⟩ := on hm
      refine va_iald hx hb hK hP 10 2 rfl rfl b39 d_RRef_drop_42 ?_
      refine lv_iadd hx hb d_RRef_drop_43 ?_
      refine lv_iconst (v := 1) hx hb d_RRef_drop_44 (by decide) ?_
      refine lv_isub hx hb d_RRef_drop_45 ?_
      obtain ⟨b40, hm⟩ := on hm
      refine va_iald hx hb hK hP 12 2 rfl rfl b40 d_RRef_drop_46 ?_
      refine lv_istore (lv' := [(4, .int ((g_RmPart g).2 ((((12 * v3) + ((g_RmCount g).2 (v3).toNatClampNeg)) - 1)).toNatClampNeg)), (0, .ref (ad 0)), (1, .int v1), (2, .int v2), (3, .int v3)]) hx hb d_RRef_drop_47 hl (by decide) rfl (fun ls hl => ?_)
      refine lv_aload_n hx hb d_RRef_drop_49 rfl (lv_at hl 1 rfl) ?_
      refine va_get (D := D) (ci := 6) (v := .ref (ad 9)) (C := R_RRef) (T := F_RRef) (N := 29) hx hb hts i_RRef hown hK hP 0 rfl rfl 14 (by decide) (hts _ wf_RRef_44) (fun _ h9 => h9) rfl d_RRef_drop_50 ?_
      refine lv_iload_n hx hb d_RRef_drop_53 rfl (lv_at hl 4 rfl) ?_
      obtain ⟨b41, hm⟩ := on hm
      refine va_iald hx hb hK hP 9 2 rfl rfl b41 d_RRef_drop_54 ?_
      refine lv_iconst (v := (-1)) hx hb d_RRef_drop_55 (by decide) ?_
      refine lv_icmp_eq (tgt := 70) hx hb d_RRef_drop_56 (by decide) (fun c42 => ?_) (fun c42 => ?_)
      · replace hm := ip c42 hm
        refine lv_iload_n hx hb d_RRef_drop_70 rfl (lv_at hl 3 rfl) ?_
        refine lv_istore_n (lv' := [(2, .int v2), (4, .int ((g_RmPart g).2 ((((12 * v3) + ((g_RmCount g).2 (v3).toNatClampNeg)) - 1)).toNatClampNeg)), (0, .ref (ad 0)), (1, .int v1), (3, .int v3)]) hx hb d_RRef_drop_71 rfl hl (by decide) rfl (fun ls hl => ?_)
        refine lv_iinc (v := (v3 + 1)) (lv' := [(3, .int (v3 + 1)), (2, .int v2), (4, .int ((g_RmPart g).2 ((((12 * v3) + ((g_RmCount g).2 (v3).toNatClampNeg)) - 1)).toNatClampNeg)), (0, .ref (ad 0)), (1, .int v1)]) hx hb d_RRef_drop_72 hl (k := 4) rfl rfl (by decide) rfl (fun ls hl => ?_)
        refine lv_goto (tgt := 21) hx hb d_RRef_drop_75 (by decide) ?_
        exact ih g v1 v2 (v3 + 1) _ hm _ _ hP hD hS ls (lv_sub hl [3, 4, 1, 0] rfl)
      · replace hm := ineg c42 hm
        refine lv_iload hx hb d_RRef_drop_59 (lv_at hl 0 rfl) ?_
        refine lv_iload_n hx hb d_RRef_drop_61 rfl (lv_at hl 3 rfl) ?_
        refine lv_icmp_le (tgt := 70) hx hb d_RRef_drop_62 (by decide) (fun c43 => ?_) (fun c43 => ?_)
        · replace hm := ip c43 hm
          refine lv_iload_n hx hb d_RRef_drop_70 rfl (lv_at hl 3 rfl) ?_
          refine lv_istore_n (lv' := [(2, .int v2), (4, .int ((g_RmPart g).2 ((((12 * v3) + ((g_RmCount g).2 (v3).toNatClampNeg)) - 1)).toNatClampNeg)), (0, .ref (ad 0)), (1, .int v1), (3, .int v3)]) hx hb d_RRef_drop_71 rfl hl (by decide) rfl (fun ls hl => ?_)
          refine lv_iinc (v := (v3 + 1)) (lv' := [(3, .int (v3 + 1)), (2, .int v2), (4, .int ((g_RmPart g).2 ((((12 * v3) + ((g_RmCount g).2 (v3).toNatClampNeg)) - 1)).toNatClampNeg)), (0, .ref (ad 0)), (1, .int v1)]) hx hb d_RRef_drop_72 hl (k := 4) rfl rfl (by decide) rfl (fun ls hl => ?_)
          refine lv_goto (tgt := 21) hx hb d_RRef_drop_75 (by decide) ?_
          exact ih g v1 v2 (v3 + 1) _ hm _ _ hP hD hS ls (lv_sub hl [3, 4, 1, 0] rfl)
        · replace hm := ineg c43 hm
          refine lv_iload hx hb d_RRef_drop_65 (lv_at hl 0 rfl) ?_
          refine lv_goto (tgt := 71) hx hb d_RRef_drop_67 (by decide) ?_
          refine lv_istore_n (lv' := [(2, .int ((g_RmPart g).2 ((((12 * v3) + ((g_RmCount g).2 (v3).toNatClampNeg)) - 1)).toNatClampNeg)), (4, .int ((g_RmPart g).2 ((((12 * v3) + ((g_RmCount g).2 (v3).toNatClampNeg)) - 1)).toNatClampNeg)), (0, .ref (ad 0)), (1, .int v1), (3, .int v3)]) hx hb d_RRef_drop_71 rfl hl (by decide) rfl (fun ls hl => ?_)
          refine lv_iinc (v := (v3 + 1)) (lv' := [(3, .int (v3 + 1)), (2, .int ((g_RmPart g).2 ((((12 * v3) + ((g_RmCount g).2 (v3).toNatClampNeg)) - 1)).toNatClampNeg)), (4, .int ((g_RmPart g).2 ((((12 * v3) + ((g_RmCount g).2 (v3).toNatClampNeg)) - 1)).toNatClampNeg)), (0, .ref (ad 0)), (1, .int v1)]) hx hb d_RRef_drop_72 hl (k := 4) rfl rfl (by decide) rfl (fun ls hl => ?_)
          refine lv_goto (tgt := 21) hx hb d_RRef_drop_75 (by decide) ?_
          exact ih g v1 ((g_RmPart g).2 ((((12 * v3) + ((g_RmCount g).2 (v3).toNatClampNeg)) - 1)).toNatClampNeg) (v3 + 1) _ hm _ _ hP hD hS ls (lv_sub hl [3, 4, 1, 0] rfl)
set_option maxHeartbeats 4000000 in
set_option maxRecDepth 100000 in
theorem c_RRef_drop (l : Launch) (D : va_G) (ca : Nat → ClassId) (ad : Nat → Nat) (sz : Nat) (g : St_Ref) (p1 : Int32) (res : Int32 × St_Ref) (hm : m_RRef_drop g p1 = some res) : Met l y_RRef_drop (cws y_RRef_drop b_RRef_drop 8 (some .int)) (RM 2 47) (PreW D ca (wl_Ref ca ad g) [.ref (ad 0), .int p1] sz) (QRm D (some (.int res.1)) (wl_Ref ca ad res.2) (va_A (wl_Ref ca ad g) sz)) 0 0 (va_A (wl_Ref ca ad g) sz) := by
  refine met_ofM (own := R_RRef) (by decide) rfl (Nat.le_of_ble_eq_true rfl) ?_
  intro p e s m below meth c A X hA hP hD ls hl
  obtain ⟨hx, hb, hml, hr, hown, hts, hK, hlocks⟩ := id X
  have hS : va_S A s.heap s.heap [] := va_S.rf
  have hl : lv_has ls 8 [(0, .ref (ad 0)), (1, .int p1)] := hl
  unfold m_RRef_drop at hm
  refine lv_aload_n hx hb d_RRef_drop_0 rfl (lv_at hl 0 rfl) ?_
  refine va_get (D := D) (ci := 6) (v := .int (g_Ropen g)) (C := R_RRef) (T := F_RRef) (N := 29) hx hb hts i_RRef hown hK hP 0 rfl rfl 2 (by decide) (hts _ wf_RRef_13) (fun _ h9 => h9) rfl d_RRef_drop_1 ?_
  refine lv_if_ne (tgt := 10) hx hb d_RRef_drop_4 (by decide) (fun c1 => ?_) (fun c1 => ?_)
  · replace hm := ineg c1 hm
    refine lv_iload_n hx hb d_RRef_drop_10 rfl (lv_at hl 1 rfl) ?_
    refine lv_if_ge (tgt := 17) hx hb d_RRef_drop_11 (by decide) (fun c2 => ?_) (fun c2 => ?_)
    · replace hm := ip c2 hm
      refine lv_iconst (v := 0) hx hb d_RRef_drop_17 (by decide) ?_
      refine lv_istore_n (lv' := [(2, .int 0), (0, .ref (ad 0)), (1, .int p1)]) hx hb d_RRef_drop_18 rfl hl (by decide) rfl (fun ls hl => ?_)
      refine lv_iconst (v := 0) hx hb d_RRef_drop_19 (by decide) ?_
      refine lv_istore_n (lv' := [(3, .int 0), (2, .int 0), (0, .ref (ad 0)), (1, .int p1)]) hx hb d_RRef_drop_20 rfl hl (by decide) rfl (fun ls hl => ?_)
      exact k_m_RRef_drop_L21 X hA FU g p1 0 0 _ hm _ _ hP hD hS ls (lv_sub hl [2, 3, 1, 0] rfl)
    · replace hm := ineg c2 hm
      refine lv_bipush (v := (-2)) hx hb d_RRef_drop_14 (by decide) ?_
      cases hm
      exact ret_mi X hP hS d_RRef_drop_16
  · replace hm := ip c1 hm
    refine lv_bipush (v := (-3)) hx hb d_RRef_drop_7 (by decide) ?_
    cases hm
    exact ret_mi X hP hS d_RRef_drop_9
set_option maxHeartbeats 4000000 in
set_option maxRecDepth 100000 in
theorem c_RRef_cut (l : Launch) (D : va_G) (ca : Nat → ClassId) (ad : Nat → Nat) (sz : Nat) (g : St_Ref) (p1 : Int32) (res : Int32 × St_Ref) (hm : m_RRef_cut g p1 = some res) : Met l y_RRef_cut (cws y_RRef_cut b_RRef_cut 2 (some .boolean)) (RM 1 22) (PreW D ca (wl_Ref ca ad g) [.ref (ad 0), .int p1] sz) (QRm D (some (.int res.1)) (wl_Ref ca ad res.2) (va_A (wl_Ref ca ad g) sz)) 0 0 (va_A (wl_Ref ca ad g) sz) := by
  refine met_ofM (own := R_RRef) (by decide) rfl (Nat.le_of_ble_eq_true rfl) ?_
  intro p e s m below meth c A X hA hP hD ls hl
  obtain ⟨hx, hb, hml, hr, hown, hts, hK, hlocks⟩ := id X
  have hS : va_S A s.heap s.heap [] := va_S.rf
  have hl : lv_has ls 2 [(0, .ref (ad 0)), (1, .int p1)] := hl
  unfold m_RRef_cut at hm
  refine lv_iload_n hx hb d_RRef_cut_0 rfl (lv_at hl 1 rfl) ?_
  refine lv_iconst (v := (-1)) hx hb d_RRef_cut_1 (by decide) ?_
  refine lv_sipush (v := 20000) hx hb d_RRef_cut_2 (by decide) ?_
  obtain ⟨q1, hq1, hm⟩ := ob hm
  refine inv_rS (As := [.int p1, .int (-1), .int 20000]) (rest := []) (v := .int q1) X (c_RRef_isIn l D ca  _ p1 (-1) 20000 q1 hq1) g_RRef_172 yo_RRef_isIn ⟨Nat.le_of_ble_eq_true rfl, Nat.le_of_ble_eq_true rfl⟩ hl hP hD [] rfl rfl hS hA rfl rfl (Nat.le_of_ble_eq_true rfl) ⟨Nat.zero_le _, Nat.zero_le _⟩ d_RRef_cut_5 (fun H locs hP hS => ?_)
  refine lv_if_ne (tgt := 13) hx hb d_RRef_cut_8 (by decide) (fun c2 => ?_) (fun c2 => ?_)
  · replace hm := ineg c2 hm
    refine lv_aload_n hx hb d_RRef_cut_13 rfl (lv_at hl 0 rfl) ?_
    refine lv_iload_n hx hb d_RRef_cut_14 rfl (lv_at hl 1 rfl) ?_
    refine va_put (D := D) (ci := 6) (v := .int p1) (ty := .int) (C := R_RRef) (T := F_RRef) (N := 29) hx hb hts i_RRef t_RRef t_RRef_ok n_RRef hown hK hP hD hS 0 rfl rfl 3 (by decide) (hts _ wf_RRef_17) (fun _ h9 => h9) rfl (by decide +kernel) rfl rfl (Nat.le_of_ble_eq_true rfl) d_RRef_cut_15 (fun H locs hP hD hS => ?_)
    replace hP : va_P D classes (wl_Ref ca ad (s_RcutIn g p1)) H := hP
    replace hD : va_D A (wl_Ref ca ad (s_RcutIn g p1)) := hD
    refine lv_iconst (v := 1) hx hb d_RRef_cut_18 (by decide) ?_
    cases hm
    exact ret_mz X nz1 hP hS d_RRef_cut_19
  · replace hm := ip c2 hm
    refine lv_iconst (v := 0) hx hb d_RRef_cut_11 (by decide) ?_
    cases hm
    exact ret_mz X nz0 hP hS d_RRef_cut_12
set_option maxHeartbeats 4000000 in
set_option maxRecDepth 100000 in
theorem c_RRef_close (l : Launch) (D : va_G) (ca : Nat → ClassId) (ad : Nat → Nat) (sz : Nat) (g : St_Ref)  (res : Int32 × St_Ref) (hm : m_RRef_close g = some res) : Met l y_RRef_close (cws y_RRef_close b_RRef_close 2 (some .boolean)) (RM 0 0) (PreW D ca (wl_Ref ca ad g) [.ref (ad 0)] sz) (QRm D (some (.int res.1)) (wl_Ref ca ad res.2) (va_A (wl_Ref ca ad g) sz)) 0 0 (va_A (wl_Ref ca ad g) sz) := by
  refine met_ofM (own := R_RRef) (by decide) rfl (Nat.le_of_ble_eq_true rfl) ?_
  intro p e s m below meth c A X hA hP hD ls hl
  obtain ⟨hx, hb, hml, hr, hown, hts, hK, hlocks⟩ := id X
  have hS : va_S A s.heap s.heap [] := va_S.rf
  have hl : lv_has ls 2 [(0, .ref (ad 0))] := hl
  unfold m_RRef_close at hm
  refine lv_aload_n hx hb d_RRef_close_0 rfl (lv_at hl 0 rfl) ?_
  refine va_get (D := D) (ci := 6) (v := .int (g_Ropen g)) (C := R_RRef) (T := F_RRef) (N := 29) hx hb hts i_RRef hown hK hP 0 rfl rfl 2 (by decide) (hts _ wf_RRef_13) (fun _ h9 => h9) rfl d_RRef_close_1 ?_
  refine lv_istore_n (lv' := [(1, .int (g_Ropen g)), (0, .ref (ad 0))]) hx hb d_RRef_close_4 rfl hl (by decide) rfl (fun ls hl => ?_)
  refine lv_aload_n hx hb d_RRef_close_5 rfl (lv_at hl 1 rfl) ?_
  refine lv_iconst (v := 0) hx hb d_RRef_close_6 (by decide) ?_
  refine va_put (D := D) (ci := 6) (v := .int 0) (ty := .boolean) (C := R_RRef) (T := F_RRef) (N := 29) hx hb hts i_RRef t_RRef t_RRef_ok n_RRef hown hK hP hD hS 0 rfl rfl 2 (by decide) (hts _ wf_RRef_13) (fun _ h9 => h9) rfl (by decide +kernel) rfl rfl (Nat.le_of_ble_eq_true rfl) d_RRef_close_7 (fun H locs hP hD hS => ?_)
  replace hP : va_P D classes (wl_Ref ca ad (s_Ropen g 0)) H := hP
  replace hD : va_D A (wl_Ref ca ad (s_Ropen g 0)) := hD
  refine lv_iload_n hx hb d_RRef_close_10 rfl (lv_at hl 0 rfl) ?_
  obtain ⟨z1, hm⟩ := on hm
  cases hm
  exact ret_mz X (nz z1).1 hP hS d_RRef_close_11
set_option maxHeartbeats 4000000 in
set_option maxRecDepth 100000 in
theorem c_RRef_isWholePart (l : Launch) (D : va_G) (ca : Nat → ClassId) (ad : Nat → Nat) (sz : Nat) (g : St_Ref) (p1 : Int32) (res : Int32) (hm : m_RRef_isWholePart g p1 = some res) : Met l y_RRef_isWholePart (cws y_RRef_isWholePart b_RRef_isWholePart 3 (some .boolean)) (RM 2 48) (PreW D ca (wl_Ref ca ad g) [.ref (ad 0), .int p1] sz) (QRr (.int res) (va_A [] sz)) 0 0 (va_A [] sz) := by
  refine met_ofR (own := R_RRef) (by decide) rfl (Nat.le_of_ble_eq_true rfl) ?_
  intro p e s m below meth c A X hA hP hD ls hl
  obtain ⟨hx, hb, hml, hr, hown, hts, hK, hlocks⟩ := id X
  have hS : va_S A s.heap s.heap [] := va_S.rf
  have hl : lv_has ls 3 [(0, .ref (ad 0)), (1, .int p1)] := hl
  unfold m_RRef_isWholePart at hm
  refine lv_bipush (v := 32) hx hb d_RRef_isWholePart_0 (by decide) ?_
  refine lv_aload_n hx hb d_RRef_isWholePart_2 rfl (lv_at hl 0 rfl) ?_
  refine va_get (D := D) (ci := 6) (v := .ref (ad 7)) (C := R_RRef) (T := F_RRef) (N := 29) hx hb hts i_RRef hown hK hP 0 rfl rfl 11 (by decide) (hts _ wf_RRef_38) (fun _ h9 => h9) rfl d_RRef_isWholePart_3 ?_
  refine lv_iload_n hx hb d_RRef_isWholePart_6 rfl (lv_at hl 1 rfl) ?_
  obtain ⟨b1, hm⟩ := on hm
  refine va_iald hx hb hK hP 7 2 rfl rfl b1 d_RRef_isWholePart_7 ?_
  refine lv_imul hx hb d_RRef_isWholePart_8 ?_
  refine lv_istore_n (lv' := [(2, .int (32 * ((g_RpRow g).2 (p1).toNatClampNeg))), (0, .ref (ad 0)), (1, .int p1)]) hx hb d_RRef_isWholePart_9 rfl hl (by decide) rfl (fun ls hl => ?_)
  refine lv_aload_n hx hb d_RRef_isWholePart_10 rfl (lv_at hl 1 rfl) ?_
  refine lv_aload_n hx hb d_RRef_isWholePart_11 rfl (lv_at hl 1 rfl) ?_
  refine va_get (D := D) (ci := 6) (v := .ref (ad 7)) (C := R_RRef) (T := F_RRef) (N := 29) hx hb hts i_RRef hown hK hP 0 rfl rfl 11 (by decide) (hts _ wf_RRef_38) (fun _ h9 => h9) rfl d_RRef_isWholePart_12 ?_
  refine lv_iload_n hx hb d_RRef_isWholePart_15 rfl (lv_at hl 2 rfl) ?_
  obtain ⟨b2, hm⟩ := on hm
  refine va_iald hx hb hK hP 7 2 rfl rfl b2 d_RRef_isWholePart_16 ?_
  obtain ⟨q3, hq3, hm⟩ := ob hm
  refine inv_rVa (C := R_RRef) (As := [.int ((g_RpRow g).2 (p1).toNatClampNeg)]) (rest := []) (v := .int q3) X (c_RRef_kind l D ca ad _ g ((g_RpRow g).2 (p1).toNatClampNeg) q3 hq3) g_RRef_119 yo_RRef_kind ⟨Nat.le_of_ble_eq_true rfl, Nat.le_of_ble_eq_true rfl⟩ hl hP hD (ci := 6) rfl rfl hS hA rfl rfl (Nat.le_of_ble_eq_true rfl) ⟨Nat.zero_le _, Nat.zero_le _⟩ d_RRef_isWholePart_17 (fun H locs hP hS => ?_)
  refine lv_iconst (v := 1) hx hb d_RRef_isWholePart_20 (by decide) ?_
  refine lv_icmp_ne (tgt := 125) hx hb d_RRef_isWholePart_21 (by decide) (fun c4 => ?_) (fun c4 => ?_)
  · replace hm := ineg c4 hm
    refine lv_iconst (v := 0) hx hb d_RRef_isWholePart_125 (by decide) ?_
    cases hm
    exact ret_rz X nz0 hS d_RRef_isWholePart_126
  · replace hm := ip c4 hm
    refine lv_aload_n hx hb d_RRef_isWholePart_24 rfl (lv_at hl 1 rfl) ?_
    refine lv_aload_n hx hb d_RRef_isWholePart_25 rfl (lv_at hl 1 rfl) ?_
    refine va_get (D := D) (ci := 6) (v := .ref (ad 7)) (C := R_RRef) (T := F_RRef) (N := 29) hx hb hts i_RRef hown hK hP 0 rfl rfl 11 (by decide) (hts _ wf_RRef_38) (fun _ h9 => h9) rfl d_RRef_isWholePart_26 ?_
    refine lv_iload_n hx hb d_RRef_isWholePart_29 rfl (lv_at hl 2 rfl) ?_
    obtain ⟨b5, hm⟩ := on hm
    refine va_iald hx hb hK hP 7 2 rfl rfl b5 d_RRef_isWholePart_30 ?_
    obtain ⟨q6, hq6, hm⟩ := ob hm
    refine inv_rVa (C := R_RRef) (As := [.int ((g_RpRow g).2 (p1).toNatClampNeg)]) (rest := []) (v := .int q6) X (c_RRef_isSummed l D ca ad _ g ((g_RpRow g).2 (p1).toNatClampNeg) q6 hq6) g_RRef_122 yo_RRef_isSummed ⟨Nat.le_of_ble_eq_true rfl, Nat.le_of_ble_eq_true rfl⟩ hl hP hD (ci := 6) rfl rfl hS hA rfl rfl (Nat.le_of_ble_eq_true rfl) ⟨Nat.zero_le _, Nat.zero_le _⟩ d_RRef_isWholePart_31 (fun H locs hP hS => ?_)
    refine lv_if_eq (tgt := 125) hx hb d_RRef_isWholePart_34 (by decide) (fun c7 => ?_) (fun c7 => ?_)
    · replace hm := ip c7 hm
      refine lv_iconst (v := 0) hx hb d_RRef_isWholePart_125 (by decide) ?_
      cases hm
      exact ret_rz X nz0 hS d_RRef_isWholePart_126
    · replace hm := ineg c7 hm
      refine lv_aload_n hx hb d_RRef_isWholePart_37 rfl (lv_at hl 1 rfl) ?_
      refine va_get (D := D) (ci := 6) (v := .ref (ad 1)) (C := R_RRef) (T := F_RRef) (N := 29) hx hb hts i_RRef hown hK hP 0 rfl rfl 0 (by decide) (hts _ wf_RRef_7) (fun _ h9 => h9) rfl d_RRef_isWholePart_38 ?_
      refine lv_iload_n hx hb d_RRef_isWholePart_41 rfl (lv_at hl 0 rfl) ?_
      refine lv_iconst (v := 4) hx hb d_RRef_isWholePart_42 (by decide) ?_
      refine lv_iadd hx hb d_RRef_isWholePart_43 ?_
      refine lv_iconst (v := 4) hx hb d_RRef_isWholePart_44 (by decide) ?_
      obtain ⟨q8, hq8, hm⟩ := ob hm
      refine inv_rS (As := [.ref (ad 1), .int ((32 * ((g_RpRow g).2 (p1).toNatClampNeg)) + 4), .int 4]) (rest := []) (v := .long q8) X (c_RRef_number l D ca (ad 1) _ (g_Rmedium g) ((32 * ((g_RpRow g).2 (p1).toNatClampNeg)) + 4) 4 q8 hq8) g_RRef_85 yo_RRef_number ⟨Nat.le_of_ble_eq_true rfl, Nat.le_of_ble_eq_true rfl⟩ hl hP hD [1] rfl rfl hS hA rfl rfl (Nat.le_of_ble_eq_true rfl) ⟨Nat.zero_le _, Nat.zero_le _⟩ d_RRef_isWholePart_45 (fun H locs hP hS => ?_)
      refine lv_aload_n hx hb d_RRef_isWholePart_48 rfl (lv_at hl 1 rfl) ?_
      refine va_get (D := D) (ci := 6) (v := .ref (ad 3)) (C := R_RRef) (T := F_RRef) (N := 29) hx hb hts i_RRef hown hK hP 0 rfl rfl 7 (by decide) (hts _ wf_RRef_24) (fun _ h9 => h9) rfl d_RRef_isWholePart_49 ?_
      refine lv_iload_n hx hb d_RRef_isWholePart_52 rfl (lv_at hl 2 rfl) ?_
      obtain ⟨b9, hm⟩ := on hm
      refine va_iald hx hb hK hP 3 2 rfl rfl b9 d_RRef_isWholePart_53 ?_
      refine lv_i2l (v := ((((g_RpNumber g).2 (p1).toNatClampNeg)).toInt64)) hx hb d_RRef_isWholePart_54 rfl ?_
      refine W.lcmp hx hb d_RRef_isWholePart_55 ?_
      refine lv_if_ne (tgt := 125) hx hb d_RRef_isWholePart_56 (by decide) (fun c10 => ?_) (fun c10 => ?_)
      · replace hm := ineg c10 hm
        refine lv_iconst (v := 0) hx hb d_RRef_isWholePart_125 (by decide) ?_
        cases hm
        exact ret_rz X nz0 hS d_RRef_isWholePart_126
      · replace hm := ip c10 hm
        refine lv_aload_n hx hb d_RRef_isWholePart_59 rfl (lv_at hl 1 rfl) ?_
        refine va_get (D := D) (ci := 6) (v := .ref (ad 1)) (C := R_RRef) (T := F_RRef) (N := 29) hx hb hts i_RRef hown hK hP 0 rfl rfl 0 (by decide) (hts _ wf_RRef_7) (fun _ h9 => h9) rfl d_RRef_isWholePart_60 ?_
        refine lv_iload_n hx hb d_RRef_isWholePart_63 rfl (lv_at hl 0 rfl) ?_
        refine lv_iconst (v := 2) hx hb d_RRef_isWholePart_64 (by decide) ?_
        refine lv_iadd hx hb d_RRef_isWholePart_65 ?_
        refine lv_iconst (v := 2) hx hb d_RRef_isWholePart_66 (by decide) ?_
        obtain ⟨q11, hq11, hm⟩ := ob hm
        refine inv_rS (As := [.ref (ad 1), .int ((32 * ((g_RpRow g).2 (p1).toNatClampNeg)) + 2), .int 2]) (rest := []) (v := .long q11) X (c_RRef_number l D ca (ad 1) _ (g_Rmedium g) ((32 * ((g_RpRow g).2 (p1).toNatClampNeg)) + 2) 2 q11 hq11) g_RRef_85 yo_RRef_number ⟨Nat.le_of_ble_eq_true rfl, Nat.le_of_ble_eq_true rfl⟩ hl hP hD [1] rfl rfl hS hA rfl rfl (Nat.le_of_ble_eq_true rfl) ⟨Nat.zero_le _, Nat.zero_le _⟩ d_RRef_isWholePart_67 (fun H locs hP hS => ?_)
        refine lv_aload_n hx hb d_RRef_isWholePart_70 rfl (lv_at hl 1 rfl) ?_
        refine va_get (D := D) (ci := 6) (v := .ref (ad 6)) (C := R_RRef) (T := F_RRef) (N := 29) hx hb hts i_RRef hown hK hP 0 rfl rfl 10 (by decide) (hts _ wf_RRef_35) (fun _ h9 => h9) rfl d_RRef_isWholePart_71 ?_
        refine lv_iload_n hx hb d_RRef_isWholePart_74 rfl (lv_at hl 2 rfl) ?_
        obtain ⟨b12, hm⟩ := on hm
        refine va_iald hx hb hK hP 6 2 rfl rfl b12 d_RRef_isWholePart_75 ?_
        refine lv_i2l (v := ((((g_RpLength g).2 (p1).toNatClampNeg)).toInt64)) hx hb d_RRef_isWholePart_76 rfl ?_
        refine W.lcmp hx hb d_RRef_isWholePart_77 ?_
        refine lv_if_ne (tgt := 125) hx hb d_RRef_isWholePart_78 (by decide) (fun c13 => ?_) (fun c13 => ?_)
        · replace hm := ineg c13 hm
          refine lv_iconst (v := 0) hx hb d_RRef_isWholePart_125 (by decide) ?_
          cases hm
          exact ret_rz X nz0 hS d_RRef_isWholePart_126
        · replace hm := ip c13 hm
          refine lv_aload_n hx hb d_RRef_isWholePart_81 rfl (lv_at hl 1 rfl) ?_
          refine va_get (D := D) (ci := 6) (v := .ref (ad 1)) (C := R_RRef) (T := F_RRef) (N := 29) hx hb hts i_RRef hown hK hP 0 rfl rfl 0 (by decide) (hts _ wf_RRef_7) (fun _ h9 => h9) rfl d_RRef_isWholePart_82 ?_
          refine lv_iload_n hx hb d_RRef_isWholePart_85 rfl (lv_at hl 0 rfl) ?_
          refine lv_bipush (v := 16) hx hb d_RRef_isWholePart_86 (by decide) ?_
          refine lv_iadd hx hb d_RRef_isWholePart_88 ?_
          refine lv_bipush (v := 8) hx hb d_RRef_isWholePart_89 (by decide) ?_
          obtain ⟨q14, hq14, hm⟩ := ob hm
          refine inv_rS (As := [.ref (ad 1), .int ((32 * ((g_RpRow g).2 (p1).toNatClampNeg)) + 16), .int 8]) (rest := []) (v := .long q14) X (c_RRef_number l D ca (ad 1) _ (g_Rmedium g) ((32 * ((g_RpRow g).2 (p1).toNatClampNeg)) + 16) 8 q14 hq14) g_RRef_85 yo_RRef_number ⟨Nat.le_of_ble_eq_true rfl, Nat.le_of_ble_eq_true rfl⟩ hl hP hD [1] rfl rfl hS hA rfl rfl (Nat.le_of_ble_eq_true rfl) ⟨Nat.zero_le _, Nat.zero_le _⟩ d_RRef_isWholePart_91 (fun H locs hP hS => ?_)
          refine lv_aload_n hx hb d_RRef_isWholePart_94 rfl (lv_at hl 1 rfl) ?_
          refine va_get (D := D) (ci := 6) (v := .ref (ad 1)) (C := R_RRef) (T := F_RRef) (N := 29) hx hb hts i_RRef hown hK hP 0 rfl rfl 0 (by decide) (hts _ wf_RRef_7) (fun _ h9 => h9) rfl d_RRef_isWholePart_95 ?_
          refine lv_iload_n hx hb d_RRef_isWholePart_98 rfl (lv_at hl 0 rfl) ?_
          refine lv_bipush (v := 32) hx hb d_RRef_isWholePart_99 (by decide) ?_
          refine lv_iadd hx hb d_RRef_isWholePart_101 ?_
          refine lv_bipush (v := 32) hx hb d_RRef_isWholePart_102 (by decide) ?_
          refine lv_aload_n hx hb d_RRef_isWholePart_104 rfl (lv_at hl 1 rfl) ?_
          refine va_get (D := D) (ci := 6) (v := .ref (ad 6)) (C := R_RRef) (T := F_RRef) (N := 29) hx hb hts i_RRef hown hK hP 0 rfl rfl 10 (by decide) (hts _ wf_RRef_35) (fun _ h9 => h9) rfl d_RRef_isWholePart_105 ?_
          refine lv_iload_n hx hb d_RRef_isWholePart_108 rfl (lv_at hl 2 rfl) ?_
          obtain ⟨b15, hm⟩ := on hm
          refine va_iald hx hb hK hP 6 2 rfl rfl b15 d_RRef_isWholePart_109 ?_
          obtain ⟨q16, hq16, hm⟩ := ob hm
          refine inv_rS (As := [.int ((g_RpLength g).2 (p1).toNatClampNeg)]) (rest := [.int 32, .int ((32 * ((g_RpRow g).2 (p1).toNatClampNeg)) + 32), .ref (ad 1), .long q14]) (v := .int q16) X (c_RRef_bodies l D ca  _ ((g_RpLength g).2 (p1).toNatClampNeg) q16 hq16) g_RRef_112 yo_RRef_bodies ⟨Nat.le_of_ble_eq_true rfl, Nat.le_of_ble_eq_true rfl⟩ hl hP hD [] rfl rfl hS hA rfl rfl (Nat.le_of_ble_eq_true rfl) ⟨Nat.zero_le _, Nat.zero_le _⟩ d_RRef_isWholePart_110 (fun H locs hP hS => ?_)
          refine lv_imul hx hb d_RRef_isWholePart_113 ?_
          obtain ⟨q17, hq17, hm⟩ := ob hm
          refine inv_rS (As := [.ref (ad 1), .int ((32 * ((g_RpRow g).2 (p1).toNatClampNeg)) + 32), .int (32 * q16)]) (rest := [.long q14]) (v := .long q17) X (c_RRef_digest l D ca (ad 1) _ (g_Rmedium g) ((32 * ((g_RpRow g).2 (p1).toNatClampNeg)) + 32) (32 * q16) q17 hq17) g_RRef_89 yo_RRef_digest ⟨Nat.le_of_ble_eq_true rfl, Nat.le_of_ble_eq_true rfl⟩ hl hP hD [1] rfl rfl hS hA rfl rfl (Nat.le_of_ble_eq_true rfl) ⟨Nat.zero_le _, Nat.zero_le _⟩ d_RRef_isWholePart_114 (fun H locs hP hS => ?_)
          refine W.lcmp hx hb d_RRef_isWholePart_117 ?_
          refine lv_if_ne (tgt := 125) hx hb d_RRef_isWholePart_118 (by decide) (fun c18 => ?_) (fun c18 => ?_)
          · replace hm := ineg c18 hm
            refine lv_iconst (v := 0) hx hb d_RRef_isWholePart_125 (by decide) ?_
            cases hm
            exact ret_rz X nz0 hS d_RRef_isWholePart_126
          · replace hm := ip c18 hm
            refine lv_iconst (v := 1) hx hb d_RRef_isWholePart_121 (by decide) ?_
            refine lv_goto (tgt := 126) hx hb d_RRef_isWholePart_122 (by decide) ?_
            cases hm
            exact ret_rz X nz1 hS d_RRef_isWholePart_126
set_option maxHeartbeats 4000000 in
set_option maxRecDepth 100000 in
theorem c_RRef_isAsFound (l : Launch) (D : va_G) (ca : Nat → ClassId) (ad : Nat → Nat) (sz : Nat) (g : St_Ref) (p1 : Int32) (res : Int32) (hm : m_RRef_isAsFound g p1 = some res) : Met l y_RRef_isAsFound (cws y_RRef_isAsFound b_RRef_isAsFound 3 (some .boolean)) (RM 2 48) (PreW D ca (wl_Ref ca ad g) [.ref (ad 0), .int p1] sz) (QRr (.int res) (va_A [] sz)) 0 0 (va_A [] sz) := by
  refine met_ofR (own := R_RRef) (by decide) rfl (Nat.le_of_ble_eq_true rfl) ?_
  intro p e s m below meth c A X hA hP hD ls hl
  obtain ⟨hx, hb, hml, hr, hown, hts, hK, hlocks⟩ := id X
  have hS : va_S A s.heap s.heap [] := va_S.rf
  have hl : lv_has ls 3 [(0, .ref (ad 0)), (1, .int p1)] := hl
  unfold m_RRef_isAsFound at hm
  refine lv_bipush (v := 32) hx hb d_RRef_isAsFound_0 (by decide) ?_
  refine lv_aload_n hx hb d_RRef_isAsFound_2 rfl (lv_at hl 0 rfl) ?_
  refine va_get (D := D) (ci := 6) (v := .ref (ad 9)) (C := R_RRef) (T := F_RRef) (N := 29) hx hb hts i_RRef hown hK hP 0 rfl rfl 14 (by decide) (hts _ wf_RRef_44) (fun _ h9 => h9) rfl d_RRef_isAsFound_3 ?_
  refine lv_iload_n hx hb d_RRef_isAsFound_6 rfl (lv_at hl 1 rfl) ?_
  obtain ⟨b1, hm⟩ := on hm
  refine va_iald hx hb hK hP 9 2 rfl rfl b1 d_RRef_isAsFound_7 ?_
  refine lv_imul hx hb d_RRef_isAsFound_8 ?_
  refine lv_istore_n (lv' := [(2, .int (32 * ((g_RmRow g).2 (p1).toNatClampNeg))), (0, .ref (ad 0)), (1, .int p1)]) hx hb d_RRef_isAsFound_9 rfl hl (by decide) rfl (fun ls hl => ?_)
  refine lv_aload_n hx hb d_RRef_isAsFound_10 rfl (lv_at hl 1 rfl) ?_
  refine lv_aload_n hx hb d_RRef_isAsFound_11 rfl (lv_at hl 1 rfl) ?_
  refine va_get (D := D) (ci := 6) (v := .ref (ad 9)) (C := R_RRef) (T := F_RRef) (N := 29) hx hb hts i_RRef hown hK hP 0 rfl rfl 14 (by decide) (hts _ wf_RRef_44) (fun _ h9 => h9) rfl d_RRef_isAsFound_12 ?_
  refine lv_iload_n hx hb d_RRef_isAsFound_15 rfl (lv_at hl 2 rfl) ?_
  obtain ⟨b2, hm⟩ := on hm
  refine va_iald hx hb hK hP 9 2 rfl rfl b2 d_RRef_isAsFound_16 ?_
  obtain ⟨q3, hq3, hm⟩ := ob hm
  refine inv_rVa (C := R_RRef) (As := [.int ((g_RmRow g).2 (p1).toNatClampNeg)]) (rest := []) (v := .int q3) X (c_RRef_kind l D ca ad _ g ((g_RmRow g).2 (p1).toNatClampNeg) q3 hq3) g_RRef_119 yo_RRef_kind ⟨Nat.le_of_ble_eq_true rfl, Nat.le_of_ble_eq_true rfl⟩ hl hP hD (ci := 6) rfl rfl hS hA rfl rfl (Nat.le_of_ble_eq_true rfl) ⟨Nat.zero_le _, Nat.zero_le _⟩ d_RRef_isAsFound_17 (fun H locs hP hS => ?_)
  refine lv_iconst (v := 2) hx hb d_RRef_isAsFound_20 (by decide) ?_
  refine lv_icmp_ne (tgt := 140) hx hb d_RRef_isAsFound_21 (by decide) (fun c4 => ?_) (fun c4 => ?_)
  · replace hm := ineg c4 hm
    refine lv_iconst (v := 0) hx hb d_RRef_isAsFound_140 (by decide) ?_
    cases hm
    exact ret_rz X nz0 hS d_RRef_isAsFound_141
  · replace hm := ip c4 hm
    refine lv_aload_n hx hb d_RRef_isAsFound_24 rfl (lv_at hl 1 rfl) ?_
    refine lv_aload_n hx hb d_RRef_isAsFound_25 rfl (lv_at hl 1 rfl) ?_
    refine va_get (D := D) (ci := 6) (v := .ref (ad 9)) (C := R_RRef) (T := F_RRef) (N := 29) hx hb hts i_RRef hown hK hP 0 rfl rfl 14 (by decide) (hts _ wf_RRef_44) (fun _ h9 => h9) rfl d_RRef_isAsFound_26 ?_
    refine lv_iload_n hx hb d_RRef_isAsFound_29 rfl (lv_at hl 2 rfl) ?_
    obtain ⟨b5, hm⟩ := on hm
    refine va_iald hx hb hK hP 9 2 rfl rfl b5 d_RRef_isAsFound_30 ?_
    obtain ⟨q6, hq6, hm⟩ := ob hm
    refine inv_rVa (C := R_RRef) (As := [.int ((g_RmRow g).2 (p1).toNatClampNeg)]) (rest := []) (v := .int q6) X (c_RRef_isSummed l D ca ad _ g ((g_RmRow g).2 (p1).toNatClampNeg) q6 hq6) g_RRef_122 yo_RRef_isSummed ⟨Nat.le_of_ble_eq_true rfl, Nat.le_of_ble_eq_true rfl⟩ hl hP hD (ci := 6) rfl rfl hS hA rfl rfl (Nat.le_of_ble_eq_true rfl) ⟨Nat.zero_le _, Nat.zero_le _⟩ d_RRef_isAsFound_31 (fun H locs hP hS => ?_)
    refine lv_if_eq (tgt := 140) hx hb d_RRef_isAsFound_34 (by decide) (fun c7 => ?_) (fun c7 => ?_)
    · replace hm := ip c7 hm
      refine lv_iconst (v := 0) hx hb d_RRef_isAsFound_140 (by decide) ?_
      cases hm
      exact ret_rz X nz0 hS d_RRef_isAsFound_141
    · replace hm := ineg c7 hm
      refine lv_aload_n hx hb d_RRef_isAsFound_37 rfl (lv_at hl 1 rfl) ?_
      refine va_get (D := D) (ci := 6) (v := .ref (ad 1)) (C := R_RRef) (T := F_RRef) (N := 29) hx hb hts i_RRef hown hK hP 0 rfl rfl 0 (by decide) (hts _ wf_RRef_7) (fun _ h9 => h9) rfl d_RRef_isAsFound_38 ?_
      refine lv_iload_n hx hb d_RRef_isAsFound_41 rfl (lv_at hl 0 rfl) ?_
      refine lv_iconst (v := 4) hx hb d_RRef_isAsFound_42 (by decide) ?_
      refine lv_iadd hx hb d_RRef_isAsFound_43 ?_
      refine lv_iconst (v := 4) hx hb d_RRef_isAsFound_44 (by decide) ?_
      obtain ⟨q8, hq8, hm⟩ := ob hm
      refine inv_rS (As := [.ref (ad 1), .int ((32 * ((g_RmRow g).2 (p1).toNatClampNeg)) + 4), .int 4]) (rest := []) (v := .long q8) X (c_RRef_number l D ca (ad 1) _ (g_Rmedium g) ((32 * ((g_RmRow g).2 (p1).toNatClampNeg)) + 4) 4 q8 hq8) g_RRef_85 yo_RRef_number ⟨Nat.le_of_ble_eq_true rfl, Nat.le_of_ble_eq_true rfl⟩ hl hP hD [1] rfl rfl hS hA rfl rfl (Nat.le_of_ble_eq_true rfl) ⟨Nat.zero_le _, Nat.zero_le _⟩ d_RRef_isAsFound_45 (fun H locs hP hS => ?_)
      refine lv_aload_n hx hb d_RRef_isAsFound_48 rfl (lv_at hl 1 rfl) ?_
      refine va_get (D := D) (ci := 6) (v := .ref (ad 8)) (C := R_RRef) (T := F_RRef) (N := 29) hx hb hts i_RRef hown hK hP 0 rfl rfl 13 (by decide) (hts _ wf_RRef_41) (fun _ h9 => h9) rfl d_RRef_isAsFound_49 ?_
      refine lv_iload_n hx hb d_RRef_isAsFound_52 rfl (lv_at hl 2 rfl) ?_
      obtain ⟨b9, hm⟩ := on hm
      refine va_iald hx hb hK hP 8 2 rfl rfl b9 d_RRef_isAsFound_53 ?_
      refine lv_i2l (v := ((((g_RmNumber g).2 (p1).toNatClampNeg)).toInt64)) hx hb d_RRef_isAsFound_54 rfl ?_
      refine W.lcmp hx hb d_RRef_isAsFound_55 ?_
      refine lv_if_ne (tgt := 140) hx hb d_RRef_isAsFound_56 (by decide) (fun c10 => ?_) (fun c10 => ?_)
      · replace hm := ineg c10 hm
        refine lv_iconst (v := 0) hx hb d_RRef_isAsFound_140 (by decide) ?_
        cases hm
        exact ret_rz X nz0 hS d_RRef_isAsFound_141
      · replace hm := ip c10 hm
        refine lv_aload_n hx hb d_RRef_isAsFound_59 rfl (lv_at hl 1 rfl) ?_
        refine va_get (D := D) (ci := 6) (v := .ref (ad 1)) (C := R_RRef) (T := F_RRef) (N := 29) hx hb hts i_RRef hown hK hP 0 rfl rfl 0 (by decide) (hts _ wf_RRef_7) (fun _ h9 => h9) rfl d_RRef_isAsFound_60 ?_
        refine lv_iload_n hx hb d_RRef_isAsFound_63 rfl (lv_at hl 0 rfl) ?_
        refine lv_iconst (v := 1) hx hb d_RRef_isAsFound_64 (by decide) ?_
        refine lv_iadd hx hb d_RRef_isAsFound_65 ?_
        obtain ⟨b11, hm⟩ := on hm
        refine va_bald hx hb hK hP 1 0 rfl rfl b11 d_RRef_isAsFound_66 ?_
        refine lv_sipush (v := 255) hx hb d_RRef_isAsFound_67 (by decide) ?_
        refine lv_iand hx hb d_RRef_isAsFound_70 ?_
        refine lv_aload_n hx hb d_RRef_isAsFound_71 rfl (lv_at hl 1 rfl) ?_
        refine va_get (D := D) (ci := 6) (v := .ref (ad 10)) (C := R_RRef) (T := F_RRef) (N := 29) hx hb hts i_RRef hown hK hP 0 rfl rfl 15 (by decide) (hts _ wf_RRef_47) (fun _ h9 => h9) rfl d_RRef_isAsFound_72 ?_
        refine lv_iload_n hx hb d_RRef_isAsFound_75 rfl (lv_at hl 2 rfl) ?_
        obtain ⟨b12, hm⟩ := on hm
        refine va_iald hx hb hK hP 10 2 rfl rfl b12 d_RRef_isAsFound_76 ?_
        refine lv_icmp_ne (tgt := 140) hx hb d_RRef_isAsFound_77 (by decide) (fun c13 => ?_) (fun c13 => ?_)
        · replace hm := ineg c13 hm
          refine lv_iconst (v := 0) hx hb d_RRef_isAsFound_140 (by decide) ?_
          cases hm
          exact ret_rz X nz0 hS d_RRef_isAsFound_141
        · replace hm := ip c13 hm
          refine lv_aload_n hx hb d_RRef_isAsFound_80 rfl (lv_at hl 1 rfl) ?_
          refine va_get (D := D) (ci := 6) (v := .ref (ad 1)) (C := R_RRef) (T := F_RRef) (N := 29) hx hb hts i_RRef hown hK hP 0 rfl rfl 0 (by decide) (hts _ wf_RRef_7) (fun _ h9 => h9) rfl d_RRef_isAsFound_81 ?_
          refine lv_iload_n hx hb d_RRef_isAsFound_84 rfl (lv_at hl 0 rfl) ?_
          refine lv_bipush (v := 8) hx hb d_RRef_isAsFound_85 (by decide) ?_
          refine lv_iadd hx hb d_RRef_isAsFound_87 ?_
          refine lv_bipush (v := 8) hx hb d_RRef_isAsFound_88 (by decide) ?_
          obtain ⟨q14, hq14, hm⟩ := ob hm
          refine inv_rS (As := [.ref (ad 1), .int ((32 * ((g_RmRow g).2 (p1).toNatClampNeg)) + 8), .int 8]) (rest := []) (v := .long q14) X (c_RRef_number l D ca (ad 1) _ (g_Rmedium g) ((32 * ((g_RmRow g).2 (p1).toNatClampNeg)) + 8) 8 q14 hq14) g_RRef_85 yo_RRef_number ⟨Nat.le_of_ble_eq_true rfl, Nat.le_of_ble_eq_true rfl⟩ hl hP hD [1] rfl rfl hS hA rfl rfl (Nat.le_of_ble_eq_true rfl) ⟨Nat.zero_le _, Nat.zero_le _⟩ d_RRef_isAsFound_90 (fun H locs hP hS => ?_)
          refine lv_aload_n hx hb d_RRef_isAsFound_93 rfl (lv_at hl 1 rfl) ?_
          refine va_get (D := D) (ci := 6) (v := .ref (ad 11)) (C := R_RRef) (T := F_RRef) (N := 29) hx hb hts i_RRef hown hK hP 0 rfl rfl 16 (by decide) (hts _ wf_RRef_50) (fun _ h9 => h9) rfl d_RRef_isAsFound_94 ?_
          refine lv_iload_n hx hb d_RRef_isAsFound_97 rfl (lv_at hl 2 rfl) ?_
          obtain ⟨b15, hm⟩ := on hm
          refine va_lald hx hb hK hP 11 3 rfl rfl b15 d_RRef_isAsFound_98 ?_
          refine W.lcmp hx hb d_RRef_isAsFound_99 ?_
          refine lv_if_ne (tgt := 140) hx hb d_RRef_isAsFound_100 (by decide) (fun c16 => ?_) (fun c16 => ?_)
          · replace hm := ineg c16 hm
            refine lv_iconst (v := 0) hx hb d_RRef_isAsFound_140 (by decide) ?_
            cases hm
            exact ret_rz X nz0 hS d_RRef_isAsFound_141
          · replace hm := ip c16 hm
            refine lv_aload_n hx hb d_RRef_isAsFound_103 rfl (lv_at hl 1 rfl) ?_
            refine va_get (D := D) (ci := 6) (v := .ref (ad 11)) (C := R_RRef) (T := F_RRef) (N := 29) hx hb hts i_RRef hown hK hP 0 rfl rfl 16 (by decide) (hts _ wf_RRef_50) (fun _ h9 => h9) rfl d_RRef_isAsFound_104 ?_
            refine lv_iload_n hx hb d_RRef_isAsFound_107 rfl (lv_at hl 2 rfl) ?_
            obtain ⟨b17, hm⟩ := on hm
            refine va_lald hx hb hK hP 11 3 rfl rfl b17 d_RRef_isAsFound_108 ?_
            refine lv_aload_n hx hb d_RRef_isAsFound_109 rfl (lv_at hl 1 rfl) ?_
            refine va_get (D := D) (ci := 6) (v := .ref (ad 1)) (C := R_RRef) (T := F_RRef) (N := 29) hx hb hts i_RRef hown hK hP 0 rfl rfl 0 (by decide) (hts _ wf_RRef_7) (fun _ h9 => h9) rfl d_RRef_isAsFound_110 ?_
            refine lv_iload_n hx hb d_RRef_isAsFound_113 rfl (lv_at hl 0 rfl) ?_
            refine lv_bipush (v := 32) hx hb d_RRef_isAsFound_114 (by decide) ?_
            refine lv_iadd hx hb d_RRef_isAsFound_116 ?_
            refine lv_bipush (v := 32) hx hb d_RRef_isAsFound_117 (by decide) ?_
            refine lv_aload_n hx hb d_RRef_isAsFound_119 rfl (lv_at hl 1 rfl) ?_
            refine va_get (D := D) (ci := 6) (v := .ref (ad 10)) (C := R_RRef) (T := F_RRef) (N := 29) hx hb hts i_RRef hown hK hP 0 rfl rfl 15 (by decide) (hts _ wf_RRef_47) (fun _ h9 => h9) rfl d_RRef_isAsFound_120 ?_
            refine lv_iload_n hx hb d_RRef_isAsFound_123 rfl (lv_at hl 2 rfl) ?_
            obtain ⟨b18, hm⟩ := on hm
            refine va_iald hx hb hK hP 10 2 rfl rfl b18 d_RRef_isAsFound_124 ?_
            obtain ⟨q19, hq19, hm⟩ := ob hm
            refine inv_rS (As := [.int ((g_RmCount g).2 (p1).toNatClampNeg)]) (rest := [.int 32, .int ((32 * ((g_RmRow g).2 (p1).toNatClampNeg)) + 32), .ref (ad 1), .long ((g_RmDigest g).2 (p1).toNatClampNeg)]) (v := .int q19) X (c_RRef_entries l D ca  _ ((g_RmCount g).2 (p1).toNatClampNeg) q19 hq19) g_RRef_116 yo_RRef_entries ⟨Nat.le_of_ble_eq_true rfl, Nat.le_of_ble_eq_true rfl⟩ hl hP hD [] rfl rfl hS hA rfl rfl (Nat.le_of_ble_eq_true rfl) ⟨Nat.zero_le _, Nat.zero_le _⟩ d_RRef_isAsFound_125 (fun H locs hP hS => ?_)
            refine lv_imul hx hb d_RRef_isAsFound_128 ?_
            obtain ⟨q20, hq20, hm⟩ := ob hm
            refine inv_rS (As := [.ref (ad 1), .int ((32 * ((g_RmRow g).2 (p1).toNatClampNeg)) + 32), .int (32 * q19)]) (rest := [.long ((g_RmDigest g).2 (p1).toNatClampNeg)]) (v := .long q20) X (c_RRef_digest l D ca (ad 1) _ (g_Rmedium g) ((32 * ((g_RmRow g).2 (p1).toNatClampNeg)) + 32) (32 * q19) q20 hq20) g_RRef_89 yo_RRef_digest ⟨Nat.le_of_ble_eq_true rfl, Nat.le_of_ble_eq_true rfl⟩ hl hP hD [1] rfl rfl hS hA rfl rfl (Nat.le_of_ble_eq_true rfl) ⟨Nat.zero_le _, Nat.zero_le _⟩ d_RRef_isAsFound_129 (fun H locs hP hS => ?_)
            refine W.lcmp hx hb d_RRef_isAsFound_132 ?_
            refine lv_if_ne (tgt := 140) hx hb d_RRef_isAsFound_133 (by decide) (fun c21 => ?_) (fun c21 => ?_)
            · replace hm := ineg c21 hm
              refine lv_iconst (v := 0) hx hb d_RRef_isAsFound_140 (by decide) ?_
              cases hm
              exact ret_rz X nz0 hS d_RRef_isAsFound_141
            · replace hm := ip c21 hm
              refine lv_iconst (v := 1) hx hb d_RRef_isAsFound_136 (by decide) ?_
              refine lv_goto (tgt := 141) hx hb d_RRef_isAsFound_137 (by decide) ?_
              cases hm
              exact ret_rz X nz1 hS d_RRef_isAsFound_141
set_option maxHeartbeats 4000000 in
set_option maxRecDepth 100000 in
theorem k_m_RRef_isWholeMark_L37 {p : Program} {l : Launch} {e : Env} {s : State} {m : MethodId} {args : Array Value} {below : List Frame} {meth : Method} {c : Code} {D : va_G} {ca : Nat → ClassId} {ad : Nat → Nat} {A : Nat → Prop} (X : Cx p s m args meth c R_RRef b_RRef_isWholeMark 6 (some .boolean) D ca) (hA : ∀ q, s.heap.size ≤ q → A q) {g : St_Ref} : ∀ (n : Nat) (v1 : Int32) (v2 : Int32) (v3 : Int32) (v4 : Int32) (res : Int32), m_RRef_isWholeMark_L37 g n v1 v2 v3 v4 = some res → ∀ (H : Heap) (locs : List Loc), va_P D classes (wl_Ref ca ad g) H → va_D (fun _ => True) (wl_Ref ca ad g) → va_S A s.heap H locs → ∀ ls : Array Slot, lv_has ls 6 [(0, .ref (ad 0)), (1, .int v1), (2, .int v2), (3, .int v3), (4, .int v4)] → W p l e (RM 3 70) s m args below meth c H locs 0 0 (MQ below (QRr (.int res) A) args s 0 0 A) (F0 m 37 ls []) := by
  obtain ⟨hx, hb, hml, hr, hown, hts, hK, hlocks⟩ := id X
  intro n
  induction n with
  | zero =>
    intro v1 v2 v3 v4 res hm
    rw [m_RRef_isWholeMark_L37] at hm
    cases hm
  | succ n ih =>
    intro v1 v2 v3 v4 res hm H locs hP hD hS ls hl
    rw [m_RRef_isWholeMark_L37] at hm
    refine lv_iload hx hb d_RRef_isWholeMark_37 (lv_at hl 4 rfl) ?_
    refine lv_aload_n hx hb d_RRef_isWholeMark_39 rfl (lv_at hl 0 rfl) ?_
    refine va_get (D := D) (ci := 6) (v := .ref (ad 10)) (C := R_RRef) (T := F_RRef) (N := 29) hx hb hts i_RRef hown hK hP 0 rfl rfl 15 (by decide) (hts _ wf_RRef_47) (fun _ h9 => h9) rfl d_RRef_isWholeMark_40 ?_
    refine lv_iload_n hx hb d_RRef_isWholeMark_43 rfl (lv_at hl 1 rfl) ?_
    obtain ⟨b3, hm⟩ := on hm
    refine va_iald hx hb hK hP 10 2 rfl rfl b3 d_RRef_isWholeMark_44 ?_
    refine lv_icmp_ge (tgt := 171) hx hb d_RRef_isWholeMark_45 (by decide) (fun c4 => ?_) (fun c4 => ?_)
    · replace hm := ip c4 hm
      refine lv_iload_n hx hb d_RRef_isWholeMark_171 rfl (lv_at hl 3 rfl) ?_
      obtain ⟨z5, hm⟩ := on hm
      cases hm
      exact ret_rz X (nz z5).1 hS d_RRef_isWholeMark_172
    · replace hm := ineg c4 hm
      refine lv_iload_n hx hb d_RRef_isWholeMark_48 rfl (lv_at hl 3 rfl) ?_
      refine lv_if_eq (tgt := 171) hx hb d_RRef_isWholeMark_49 (by decide) (fun c6 => ?_) (fun c6 => ?_)
      · replace hm := ip c6 hm
        refine lv_iload_n hx hb d_RRef_isWholeMark_171 rfl (lv_at hl 3 rfl) ?_
        obtain ⟨z7, hm⟩ := on hm
        cases hm
        exact ret_rz X (nz z7).1 hS d_RRef_isWholeMark_172
      · replace hm := ineg c6 hm
        refine lv_aload_n hx hb d_RRef_isWholeMark_52 rfl (lv_at hl 0 rfl) ?_
        refine lv_aload_n hx hb d_RRef_isWholeMark_53 rfl (lv_at hl 0 rfl) ?_
        refine va_get (D := D) (ci := 6) (v := .ref (ad 12)) (C := R_RRef) (T := F_RRef) (N := 29) hx hb hts i_RRef hown hK hP 0 rfl rfl 17 (by decide) (hts _ wf_RRef_53) (fun _ h9 => h9) rfl d_RRef_isWholeMark_54 ?_
        refine lv_bipush (v := 12) hx hb d_RRef_isWholeMark_57 (by decide) ?_
        refine lv_iload_n hx hb d_RRef_isWholeMark_59 rfl (lv_at hl 1 rfl) ?_
        refine lv_imul hx hb d_RRef_isWholeMark_60 ?_
        refine lv_iload hx hb d_RRef_isWholeMark_61 (lv_at hl 4 rfl) ?_
        refine lv_iadd hx hb d_RRef_isWholeMark_63 ?_
        obtain ⟨b8, hm⟩ := on hm
        refine va_iald hx hb hK hP 12 2 rfl rfl b8 d_RRef_isWholeMark_64 ?_
        obtain ⟨q9, hq9, hm⟩ := ob hm
        refine inv_rVa (C := R_RRef) (As := [.int ((g_RmPart g).2 (((12 * v1) + v4)).toNatClampNeg)]) (rest := []) (v := .int q9) X (c_RRef_findPart l D ca ad _ g ((g_RmPart g).2 (((12 * v1) + v4)).toNatClampNeg) q9 hq9) g_RRef_129 yo_RRef_findPart ⟨Nat.le_of_ble_eq_true rfl, Nat.le_of_ble_eq_true rfl⟩ hl hP hD (ci := 6) rfl rfl hS hA rfl rfl (Nat.le_of_ble_eq_true rfl) ⟨Nat.zero_le _, Nat.zero_le _⟩ d_RRef_isWholeMark_65 (fun H locs hP hS => ?_)
        refine lv_istore (lv' := [(5, .int q9), (0, .ref (ad 0)), (1, .int v1), (2, .int v2), (3, .int v3), (4, .int v4)]) hx hb d_RRef_isWholeMark_68 hl (by decide) rfl (fun ls hl => ?_)
        refine lv_iload hx hb d_RRef_isWholeMark_70 (lv_at hl 0 rfl) ?_
        refine lv_iconst (v := (-1)) hx hb d_RRef_isWholeMark_72 (by decide) ?_
        refine lv_icmp_eq (tgt := 89) hx hb d_RRef_isWholeMark_73 (by decide) (fun c10 => ?_) (fun c10 => ?_)
        · replace hm := ip c10 hm
          refine lv_iconst (v := 0) hx hb d_RRef_isWholeMark_89 (by decide) ?_
          refine lv_istore_n (lv' := [(3, .int 0), (5, .int q9), (0, .ref (ad 0)), (1, .int v1), (2, .int v2), (4, .int v4)]) hx hb d_RRef_isWholeMark_90 rfl hl (by decide) rfl (fun ls hl => ?_)
          refine lv_iload_n hx hb d_RRef_isWholeMark_91 rfl (lv_at hl 0 rfl) ?_
          refine lv_if_eq (tgt := 165) hx hb d_RRef_isWholeMark_92 (by decide) (fun _ => ?_) (fun h9 => absurd h9 (by decide))
          refine lv_iinc (v := (v4 + 1)) (lv' := [(4, .int (v4 + 1)), (3, .int 0), (5, .int q9), (0, .ref (ad 0)), (1, .int v1), (2, .int v2)]) hx hb d_RRef_isWholeMark_165 hl (k := 5) rfl rfl (by decide) rfl (fun ls hl => ?_)
          refine lv_goto (tgt := 37) hx hb d_RRef_isWholeMark_168 (by decide) ?_
          exact ih  v1 v2 0 (v4 + 1) _ hm _ _ hP hD hS ls (lv_sub hl [3, 4, 5, 1, 0] rfl)
        · replace hm := ineg c10 hm
          refine lv_aload_n hx hb d_RRef_isWholeMark_76 rfl (lv_at hl 1 rfl) ?_
          refine lv_iload hx hb d_RRef_isWholeMark_77 (lv_at hl 0 rfl) ?_
          obtain ⟨q11, hq11, hm⟩ := ob hm
          refine inv_rVa (C := R_RRef) (As := [.int q9]) (rest := []) (v := .int q11) X (c_RRef_isWholePart l D ca ad _ g q9 q11 hq11) g_RRef_132 yo_RRef_isWholePart ⟨Nat.le_of_ble_eq_true rfl, Nat.le_of_ble_eq_true rfl⟩ hl hP hD (ci := 6) rfl rfl hS hA rfl rfl (Nat.le_of_ble_eq_true rfl) ⟨Nat.zero_le _, Nat.zero_le _⟩ d_RRef_isWholeMark_79 (fun H locs hP hS => ?_)
          refine lv_if_eq (tgt := 89) hx hb d_RRef_isWholeMark_82 (by decide) (fun c12 => ?_) (fun c12 => ?_)
          · replace hm := ip c12 hm
            refine lv_iconst (v := 0) hx hb d_RRef_isWholeMark_89 (by decide) ?_
            refine lv_istore_n (lv' := [(3, .int 0), (5, .int q9), (0, .ref (ad 0)), (1, .int v1), (2, .int v2), (4, .int v4)]) hx hb d_RRef_isWholeMark_90 rfl hl (by decide) rfl (fun ls hl => ?_)
            refine lv_iload_n hx hb d_RRef_isWholeMark_91 rfl (lv_at hl 0 rfl) ?_
            refine lv_if_eq (tgt := 165) hx hb d_RRef_isWholeMark_92 (by decide) (fun _ => ?_) (fun h9 => absurd h9 (by decide))
            refine lv_iinc (v := (v4 + 1)) (lv' := [(4, .int (v4 + 1)), (3, .int 0), (5, .int q9), (0, .ref (ad 0)), (1, .int v1), (2, .int v2)]) hx hb d_RRef_isWholeMark_165 hl (k := 5) rfl rfl (by decide) rfl (fun ls hl => ?_)
            refine lv_goto (tgt := 37) hx hb d_RRef_isWholeMark_168 (by decide) ?_
            exact ih  v1 v2 0 (v4 + 1) _ hm _ _ hP hD hS ls (lv_sub hl [3, 4, 5, 1, 0] rfl)
          · replace hm := ineg c12 hm
            refine lv_iconst (v := 1) hx hb d_RRef_isWholeMark_85 (by decide) ?_
            refine lv_goto (tgt := 90) hx hb d_RRef_isWholeMark_86 (by decide) ?_
            refine lv_istore_n (lv' := [(3, .int 1), (5, .int q9), (0, .ref (ad 0)), (1, .int v1), (2, .int v2), (4, .int v4)]) hx hb d_RRef_isWholeMark_90 rfl hl (by decide) rfl (fun ls hl => ?_)
            refine lv_iload_n hx hb d_RRef_isWholeMark_91 rfl (lv_at hl 0 rfl) ?_
            refine lv_if_eq (tgt := 165) hx hb d_RRef_isWholeMark_92 (by decide) (fun h9 => absurd h9 (by decide)) (fun _ => ?_)
            refine lv_iload_n hx hb d_RRef_isWholeMark_95 rfl (lv_at hl 4 rfl) ?_
            refine lv_if_eq (tgt := 165) hx hb d_RRef_isWholeMark_96 (by decide) (fun c13 => ?_) (fun c13 => ?_)
            · replace hm := ip c13 hm
              refine lv_iinc (v := (v4 + 1)) (lv' := [(4, .int (v4 + 1)), (3, .int 1), (5, .int q9), (0, .ref (ad 0)), (1, .int v1), (2, .int v2)]) hx hb d_RRef_isWholeMark_165 hl (k := 5) rfl rfl (by decide) rfl (fun ls hl => ?_)
              refine lv_goto (tgt := 37) hx hb d_RRef_isWholeMark_168 (by decide) ?_
              exact ih  v1 v2 1 (v4 + 1) _ hm _ _ hP hD hS ls (lv_sub hl [3, 4, 5, 1, 0] rfl)
            · replace hm := ineg c13 hm
              refine lv_aload_n hx hb d_RRef_isWholeMark_99 rfl (lv_at hl 2 rfl) ?_
              refine va_get (D := D) (ci := 6) (v := .ref (ad 7)) (C := R_RRef) (T := F_RRef) (N := 29) hx hb hts i_RRef hown hK hP 0 rfl rfl 11 (by decide) (hts _ wf_RRef_38) (fun _ h9 => h9) rfl d_RRef_isWholeMark_100 ?_
              refine lv_iload hx hb d_RRef_isWholeMark_103 (lv_at hl 1 rfl) ?_
              obtain ⟨b14, hm⟩ := on hm
              refine va_iald hx hb hK hP 7 2 rfl rfl b14 d_RRef_isWholeMark_105 ?_
              refine lv_aload_n hx hb d_RRef_isWholeMark_106 rfl (lv_at hl 2 rfl) ?_
              refine va_get (D := D) (ci := 6) (v := .ref (ad 13)) (C := R_RRef) (T := F_RRef) (N := 29) hx hb hts i_RRef hown hK hP 0 rfl rfl 18 (by decide) (hts _ wf_RRef_56) (fun _ h9 => h9) rfl d_RRef_isWholeMark_107 ?_
              refine lv_bipush (v := 12) hx hb d_RRef_isWholeMark_110 (by decide) ?_
              refine lv_iload_n hx hb d_RRef_isWholeMark_112 rfl (lv_at hl 3 rfl) ?_
              refine lv_imul hx hb d_RRef_isWholeMark_113 ?_
              refine lv_iload hx hb d_RRef_isWholeMark_114 (lv_at hl 5 rfl) ?_
              refine lv_iadd hx hb d_RRef_isWholeMark_116 ?_
              obtain ⟨b15, hm⟩ := on hm
              refine va_iald hx hb hK hP 13 2 rfl rfl b15 d_RRef_isWholeMark_117 ?_
              refine lv_icmp_ne (tgt := 163) hx hb d_RRef_isWholeMark_118 (by decide) (fun c16 => ?_) (fun c16 => ?_)
              · replace hm := ineg c16 hm
                refine lv_iconst (v := 0) hx hb d_RRef_isWholeMark_163 (by decide) ?_
                refine lv_istore_n (lv' := [(3, .int 0), (5, .int q9), (0, .ref (ad 0)), (1, .int v1), (2, .int v2), (4, .int v4)]) hx hb d_RRef_isWholeMark_164 rfl hl (by decide) rfl (fun ls hl => ?_)
                refine lv_iinc (v := (v4 + 1)) (lv' := [(4, .int (v4 + 1)), (3, .int 0), (5, .int q9), (0, .ref (ad 0)), (1, .int v1), (2, .int v2)]) hx hb d_RRef_isWholeMark_165 hl (k := 5) rfl rfl (by decide) rfl (fun ls hl => ?_)
                refine lv_goto (tgt := 37) hx hb d_RRef_isWholeMark_168 (by decide) ?_
                exact ih  v1 v2 0 (v4 + 1) _ hm _ _ hP hD hS ls (lv_sub hl [3, 4, 5, 1, 0] rfl)
              · replace hm := ip c16 hm
                refine lv_aload_n hx hb d_RRef_isWholeMark_121 rfl (lv_at hl 2 rfl) ?_
                refine va_get (D := D) (ci := 6) (v := .ref (ad 1)) (C := R_RRef) (T := F_RRef) (N := 29) hx hb hts i_RRef hown hK hP 0 rfl rfl 0 (by decide) (hts _ wf_RRef_7) (fun _ h9 => h9) rfl d_RRef_isWholeMark_122 ?_
                refine lv_bipush (v := 32) hx hb d_RRef_isWholeMark_125 (by decide) ?_
                refine lv_aload_n hx hb d_RRef_isWholeMark_127 rfl (lv_at hl 2 rfl) ?_
                refine va_get (D := D) (ci := 6) (v := .ref (ad 7)) (C := R_RRef) (T := F_RRef) (N := 29) hx hb hts i_RRef hown hK hP 0 rfl rfl 11 (by decide) (hts _ wf_RRef_38) (fun _ h9 => h9) rfl d_RRef_isWholeMark_128 ?_
                refine lv_iload hx hb d_RRef_isWholeMark_131 (lv_at hl 1 rfl) ?_
                obtain ⟨b17, hm⟩ := on hm
                refine va_iald hx hb hK hP 7 2 rfl rfl b17 d_RRef_isWholeMark_133 ?_
                refine lv_imul hx hb d_RRef_isWholeMark_134 ?_
                refine lv_bipush (v := 16) hx hb d_RRef_isWholeMark_135 (by decide) ?_
                refine lv_iadd hx hb d_RRef_isWholeMark_137 ?_
                refine lv_bipush (v := 8) hx hb d_RRef_isWholeMark_138 (by decide) ?_
                obtain ⟨q18, hq18, hm⟩ := ob hm
                refine inv_rS (As := [.ref (ad 1), .int ((32 * ((g_RpRow g).2 (q9).toNatClampNeg)) + 16), .int 8]) (rest := []) (v := .long q18) X (c_RRef_number l D ca (ad 1) _ (g_Rmedium g) ((32 * ((g_RpRow g).2 (q9).toNatClampNeg)) + 16) 8 q18 hq18) g_RRef_85 yo_RRef_number ⟨Nat.le_of_ble_eq_true rfl, Nat.le_of_ble_eq_true rfl⟩ hl hP hD [1] rfl rfl hS hA rfl rfl (Nat.le_of_ble_eq_true rfl) ⟨Nat.zero_le _, Nat.zero_le _⟩ d_RRef_isWholeMark_140 (fun H locs hP hS => ?_)
                refine lv_aload_n hx hb d_RRef_isWholeMark_143 rfl (lv_at hl 2 rfl) ?_
                refine va_get (D := D) (ci := 6) (v := .ref (ad 14)) (C := R_RRef) (T := F_RRef) (N := 29) hx hb hts i_RRef hown hK hP 0 rfl rfl 19 (by decide) (hts _ wf_RRef_59) (fun _ h9 => h9) rfl d_RRef_isWholeMark_144 ?_
                refine lv_bipush (v := 12) hx hb d_RRef_isWholeMark_147 (by decide) ?_
                refine lv_iload_n hx hb d_RRef_isWholeMark_149 rfl (lv_at hl 3 rfl) ?_
                refine lv_imul hx hb d_RRef_isWholeMark_150 ?_
                refine lv_iload hx hb d_RRef_isWholeMark_151 (lv_at hl 5 rfl) ?_
                refine lv_iadd hx hb d_RRef_isWholeMark_153 ?_
                obtain ⟨b19, hm⟩ := on hm
                refine va_lald hx hb hK hP 14 3 rfl rfl b19 d_RRef_isWholeMark_154 ?_
                refine W.lcmp hx hb d_RRef_isWholeMark_155 ?_
                refine lv_if_ne (tgt := 163) hx hb d_RRef_isWholeMark_156 (by decide) (fun c20 => ?_) (fun c20 => ?_)
                · replace hm := ineg c20 hm
                  refine lv_iconst (v := 0) hx hb d_RRef_isWholeMark_163 (by decide) ?_
                  refine lv_istore_n (lv' := [(3, .int 0), (5, .int q9), (0, .ref (ad 0)), (1, .int v1), (2, .int v2), (4, .int v4)]) hx hb d_RRef_isWholeMark_164 rfl hl (by decide) rfl (fun ls hl => ?_)
                  refine lv_iinc (v := (v4 + 1)) (lv' := [(4, .int (v4 + 1)), (3, .int 0), (5, .int q9), (0, .ref (ad 0)), (1, .int v1), (2, .int v2)]) hx hb d_RRef_isWholeMark_165 hl (k := 5) rfl rfl (by decide) rfl (fun ls hl => ?_)
                  refine lv_goto (tgt := 37) hx hb d_RRef_isWholeMark_168 (by decide) ?_
                  exact ih  v1 v2 0 (v4 + 1) _ hm _ _ hP hD hS ls (lv_sub hl [3, 4, 5, 1, 0] rfl)
                · replace hm := ip c20 hm
                  refine lv_iconst (v := 1) hx hb d_RRef_isWholeMark_159 (by decide) ?_
                  refine lv_goto (tgt := 164) hx hb d_RRef_isWholeMark_160 (by decide) ?_
                  refine lv_istore_n (lv' := [(3, .int 1), (5, .int q9), (0, .ref (ad 0)), (1, .int v1), (2, .int v2), (4, .int v4)]) hx hb d_RRef_isWholeMark_164 rfl hl (by decide) rfl (fun ls hl => ?_)
                  refine lv_iinc (v := (v4 + 1)) (lv' := [(4, .int (v4 + 1)), (3, .int 1), (5, .int q9), (0, .ref (ad 0)), (1, .int v1), (2, .int v2)]) hx hb d_RRef_isWholeMark_165 hl (k := 5) rfl rfl (by decide) rfl (fun ls hl => ?_)
                  refine lv_goto (tgt := 37) hx hb d_RRef_isWholeMark_168 (by decide) ?_
                  exact ih  v1 v2 1 (v4 + 1) _ hm _ _ hP hD hS ls (lv_sub hl [3, 4, 5, 1, 0] rfl)
set_option maxHeartbeats 4000000 in
set_option maxRecDepth 100000 in
theorem c_RRef_isWholeMark (l : Launch) (D : va_G) (ca : Nat → ClassId) (ad : Nat → Nat) (sz : Nat) (g : St_Ref) (p1 : Int32) (res : Int32) (hm : m_RRef_isWholeMark g p1 = some res) : Met l y_RRef_isWholeMark (cws y_RRef_isWholeMark b_RRef_isWholeMark 6 (some .boolean)) (RM 3 70) (PreW D ca (wl_Ref ca ad g) [.ref (ad 0), .int p1] sz) (QRr (.int res) (va_A [] sz)) 0 0 (va_A [] sz) := by
  refine met_ofR (own := R_RRef) (by decide) rfl (Nat.le_of_ble_eq_true rfl) ?_
  intro p e s m below meth c A X hA hP hD ls hl
  obtain ⟨hx, hb, hml, hr, hown, hts, hK, hlocks⟩ := id X
  have hS : va_S A s.heap s.heap [] := va_S.rf
  have hl : lv_has ls 6 [(0, .ref (ad 0)), (1, .int p1)] := hl
  unfold m_RRef_isWholeMark at hm
  refine lv_aload_n hx hb d_RRef_isWholeMark_0 rfl (lv_at hl 0 rfl) ?_
  refine va_get (D := D) (ci := 6) (v := .ref (ad 9)) (C := R_RRef) (T := F_RRef) (N := 29) hx hb hts i_RRef hown hK hP 0 rfl rfl 14 (by decide) (hts _ wf_RRef_44) (fun _ h9 => h9) rfl d_RRef_isWholeMark_1 ?_
  refine lv_iload_n hx hb d_RRef_isWholeMark_4 rfl (lv_at hl 1 rfl) ?_
  obtain ⟨b1, hm⟩ := on hm
  refine va_iald hx hb hK hP 9 2 rfl rfl b1 d_RRef_isWholeMark_5 ?_
  refine lv_iconst (v := (-1)) hx hb d_RRef_isWholeMark_6 (by decide) ?_
  refine lv_icmp_eq (tgt := 14) hx hb d_RRef_isWholeMark_7 (by decide) (fun c2 => ?_) (fun c2 => ?_)
  · replace hm := ip c2 hm
    refine lv_iconst (v := 0) hx hb d_RRef_isWholeMark_14 (by decide) ?_
    refine lv_istore_n (lv' := [(2, .int 0), (0, .ref (ad 0)), (1, .int p1)]) hx hb d_RRef_isWholeMark_15 rfl hl (by decide) rfl (fun ls hl => ?_)
    refine lv_iload_n hx hb d_RRef_isWholeMark_16 rfl (lv_at hl 0 rfl) ?_
    refine lv_if_eq (tgt := 28) hx hb d_RRef_isWholeMark_17 (by decide) (fun _ => ?_) (fun h9 => absurd h9 (by decide))
    refine lv_iconst (v := 1) hx hb d_RRef_isWholeMark_28 (by decide) ?_
    refine lv_goto (tgt := 33) hx hb d_RRef_isWholeMark_29 (by decide) ?_
    refine lv_istore_n (lv' := [(3, .int 1), (2, .int 0), (0, .ref (ad 0)), (1, .int p1)]) hx hb d_RRef_isWholeMark_33 rfl hl (by decide) rfl (fun ls hl => ?_)
    refine lv_iconst (v := 0) hx hb d_RRef_isWholeMark_34 (by decide) ?_
    refine lv_istore (lv' := [(4, .int 0), (3, .int 1), (2, .int 0), (0, .ref (ad 0)), (1, .int p1)]) hx hb d_RRef_isWholeMark_35 hl (by decide) rfl (fun ls hl => ?_)
    exact k_m_RRef_isWholeMark_L37 X hA FU  p1 0 1 0 _ hm _ _ hP hD hS ls (lv_sub hl [3, 4, 2, 1, 0] rfl)
  · replace hm := ineg c2 hm
    refine lv_iconst (v := 1) hx hb d_RRef_isWholeMark_10 (by decide) ?_
    refine lv_goto (tgt := 15) hx hb d_RRef_isWholeMark_11 (by decide) ?_
    refine lv_istore_n (lv' := [(2, .int 1), (0, .ref (ad 0)), (1, .int p1)]) hx hb d_RRef_isWholeMark_15 rfl hl (by decide) rfl (fun ls hl => ?_)
    refine lv_iload_n hx hb d_RRef_isWholeMark_16 rfl (lv_at hl 0 rfl) ?_
    refine lv_if_eq (tgt := 28) hx hb d_RRef_isWholeMark_17 (by decide) (fun h9 => absurd h9 (by decide)) (fun _ => ?_)
    refine lv_aload_n hx hb d_RRef_isWholeMark_20 rfl (lv_at hl 1 rfl) ?_
    refine lv_iload_n hx hb d_RRef_isWholeMark_21 rfl (lv_at hl 2 rfl) ?_
    obtain ⟨q21, hq21, hm⟩ := ob hm
    refine inv_rVa (C := R_RRef) (As := [.int p1]) (rest := []) (v := .int q21) X (c_RRef_isAsFound l D ca ad _ g p1 q21 hq21) g_RRef_126 yo_RRef_isAsFound ⟨Nat.le_of_ble_eq_true rfl, Nat.le_of_ble_eq_true rfl⟩ hl hP hD (ci := 6) rfl rfl hS hA rfl rfl (Nat.le_of_ble_eq_true rfl) ⟨Nat.zero_le _, Nat.zero_le _⟩ d_RRef_isWholeMark_22 (fun H locs hP hS => ?_)
    refine lv_if_eq (tgt := 32) hx hb d_RRef_isWholeMark_25 (by decide) (fun c22 => ?_) (fun c22 => ?_)
    · replace hm := ip c22 hm
      refine lv_iconst (v := 0) hx hb d_RRef_isWholeMark_32 (by decide) ?_
      refine lv_istore_n (lv' := [(3, .int 0), (2, .int 1), (0, .ref (ad 0)), (1, .int p1)]) hx hb d_RRef_isWholeMark_33 rfl hl (by decide) rfl (fun ls hl => ?_)
      refine lv_iconst (v := 0) hx hb d_RRef_isWholeMark_34 (by decide) ?_
      refine lv_istore (lv' := [(4, .int 0), (3, .int 0), (2, .int 1), (0, .ref (ad 0)), (1, .int p1)]) hx hb d_RRef_isWholeMark_35 hl (by decide) rfl (fun ls hl => ?_)
      exact k_m_RRef_isWholeMark_L37 X hA FU  p1 1 0 0 _ hm _ _ hP hD hS ls (lv_sub hl [3, 4, 2, 1, 0] rfl)
    · replace hm := ineg c22 hm
      refine lv_iconst (v := 1) hx hb d_RRef_isWholeMark_28 (by decide) ?_
      refine lv_goto (tgt := 33) hx hb d_RRef_isWholeMark_29 (by decide) ?_
      refine lv_istore_n (lv' := [(3, .int 1), (2, .int 1), (0, .ref (ad 0)), (1, .int p1)]) hx hb d_RRef_isWholeMark_33 rfl hl (by decide) rfl (fun ls hl => ?_)
      refine lv_iconst (v := 0) hx hb d_RRef_isWholeMark_34 (by decide) ?_
      refine lv_istore (lv' := [(4, .int 0), (3, .int 1), (2, .int 1), (0, .ref (ad 0)), (1, .int p1)]) hx hb d_RRef_isWholeMark_35 hl (by decide) rfl (fun ls hl => ?_)
      exact k_m_RRef_isWholeMark_L37 X hA FU  p1 1 1 0 _ hm _ _ hP hD hS ls (lv_sub hl [3, 4, 2, 1, 0] rfl)
set_option maxHeartbeats 4000000 in
set_option maxRecDepth 100000 in
theorem k_m_RRef_usable_L14 {p : Program} {l : Launch} {e : Env} {s : State} {m : MethodId} {args : Array Value} {below : List Frame} {meth : Method} {c : Code} {D : va_G} {ca : Nat → ClassId} {ad : Nat → Nat} {A : Nat → Prop} (X : Cx p s m args meth c R_RRef b_RRef_usable 3 (some .int) D ca) (hA : ∀ q, s.heap.size ≤ q → A q) {g : St_Ref} : ∀ (n : Nat) (v1 : Int32) (v2 : Int32) (res : Int32), m_RRef_usable_L14 g n v1 v2 = some res → ∀ (H : Heap) (locs : List Loc), va_P D classes (wl_Ref ca ad g) H → va_D (fun _ => True) (wl_Ref ca ad g) → va_S A s.heap H locs → ∀ ls : Array Slot, lv_has ls 3 [(0, .ref (ad 0)), (1, .int v1), (2, .int v2)] → W p l e (RM 4 95) s m args below meth c H locs 0 0 (MQ below (QRr (.int res) A) args s 0 0 A) (F0 m 14 ls []) := by
  obtain ⟨hx, hb, hml, hr, hown, hts, hK, hlocks⟩ := id X
  intro n
  induction n with
  | zero =>
    intro v1 v2 res hm
    rw [m_RRef_usable_L14] at hm
    cases hm
  | succ n ih =>
    intro v1 v2 res hm H locs hP hD hS ls hl
    rw [m_RRef_usable_L14] at hm
    refine lv_iload_n hx hb d_RRef_usable_14 rfl (lv_at hl 2 rfl) ?_
    refine lv_aload_n hx hb d_RRef_usable_15 rfl (lv_at hl 0 rfl) ?_
    refine va_get (D := D) (ci := 6) (v := .int (g_Rmarks g)) (C := R_RRef) (T := F_RRef) (N := 29) hx hb hts i_RRef hown hK hP 0 rfl rfl 20 (by decide) (hts _ wf_RRef_109) (fun _ h9 => h9) rfl d_RRef_usable_16 ?_
    refine lv_icmp_ge (tgt := 67) hx hb d_RRef_usable_19 (by decide) (fun c2 => ?_) (fun c2 => ?_)
    · replace hm := ip c2 hm
      refine lv_iload_n hx hb d_RRef_usable_67 rfl (lv_at hl 1 rfl) ?_
      cases hm
      exact ret_ri X hS d_RRef_usable_68
    · replace hm := ineg c2 hm
      refine lv_aload_n hx hb d_RRef_usable_22 rfl (lv_at hl 0 rfl) ?_
      refine va_get (D := D) (ci := 6) (v := .ref (ad 9)) (C := R_RRef) (T := F_RRef) (N := 29) hx hb hts i_RRef hown hK hP 0 rfl rfl 14 (by decide) (hts _ wf_RRef_44) (fun _ h9 => h9) rfl d_RRef_usable_23 ?_
      refine lv_iload_n hx hb d_RRef_usable_26 rfl (lv_at hl 2 rfl) ?_
      obtain ⟨b3, hm⟩ := on hm
      refine va_iald hx hb hK hP 9 2 rfl rfl b3 d_RRef_usable_27 ?_
      refine lv_iconst (v := (-1)) hx hb d_RRef_usable_28 (by decide) ?_
      refine lv_icmp_eq (tgt := 59) hx hb d_RRef_usable_29 (by decide) (fun c4 => ?_) (fun c4 => ?_)
      · replace hm := ip c4 hm
        refine lv_iload_n hx hb d_RRef_usable_59 rfl (lv_at hl 1 rfl) ?_
        refine lv_istore_n (lv' := [(1, .int v1), (0, .ref (ad 0)), (2, .int v2)]) hx hb d_RRef_usable_60 rfl hl (by decide) rfl (fun ls hl => ?_)
        refine lv_iinc (v := (v2 + 1)) (lv' := [(2, .int (v2 + 1)), (1, .int v1), (0, .ref (ad 0))]) hx hb d_RRef_usable_61 hl (k := 2) rfl rfl (by decide) rfl (fun ls hl => ?_)
        refine lv_goto (tgt := 14) hx hb d_RRef_usable_64 (by decide) ?_
        exact ih  v1 (v2 + 1) _ hm _ _ hP hD hS ls (lv_sub hl [2, 1, 0] rfl)
      · replace hm := ineg c4 hm
        refine lv_aload_n hx hb d_RRef_usable_32 rfl (lv_at hl 0 rfl) ?_
        refine va_get (D := D) (ci := 6) (v := .ref (ad 8)) (C := R_RRef) (T := F_RRef) (N := 29) hx hb hts i_RRef hown hK hP 0 rfl rfl 13 (by decide) (hts _ wf_RRef_41) (fun _ h9 => h9) rfl d_RRef_usable_33 ?_
        refine lv_iload_n hx hb d_RRef_usable_36 rfl (lv_at hl 2 rfl) ?_
        obtain ⟨b5, hm⟩ := on hm
        refine va_iald hx hb hK hP 8 2 rfl rfl b5 d_RRef_usable_37 ?_
        refine lv_iload_n hx hb d_RRef_usable_38 rfl (lv_at hl 1 rfl) ?_
        refine lv_icmp_le (tgt := 59) hx hb d_RRef_usable_39 (by decide) (fun c6 => ?_) (fun c6 => ?_)
        · replace hm := ip c6 hm
          refine lv_iload_n hx hb d_RRef_usable_59 rfl (lv_at hl 1 rfl) ?_
          refine lv_istore_n (lv' := [(1, .int v1), (0, .ref (ad 0)), (2, .int v2)]) hx hb d_RRef_usable_60 rfl hl (by decide) rfl (fun ls hl => ?_)
          refine lv_iinc (v := (v2 + 1)) (lv' := [(2, .int (v2 + 1)), (1, .int v1), (0, .ref (ad 0))]) hx hb d_RRef_usable_61 hl (k := 2) rfl rfl (by decide) rfl (fun ls hl => ?_)
          refine lv_goto (tgt := 14) hx hb d_RRef_usable_64 (by decide) ?_
          exact ih  v1 (v2 + 1) _ hm _ _ hP hD hS ls (lv_sub hl [2, 1, 0] rfl)
        · replace hm := ineg c6 hm
          refine lv_aload_n hx hb d_RRef_usable_42 rfl (lv_at hl 0 rfl) ?_
          refine lv_iload_n hx hb d_RRef_usable_43 rfl (lv_at hl 2 rfl) ?_
          obtain ⟨q7, hq7, hm⟩ := ob hm
          refine inv_rVa (C := R_RRef) (As := [.int v2]) (rest := []) (v := .int q7) X (c_RRef_isWholeMark l D ca ad _ g v2 q7 hq7) g_RRef_224 yo_RRef_isWholeMark ⟨Nat.le_of_ble_eq_true rfl, Nat.le_of_ble_eq_true rfl⟩ hl hP hD (ci := 6) rfl rfl hS hA rfl rfl (Nat.le_of_ble_eq_true rfl) ⟨Nat.zero_le _, Nat.zero_le _⟩ d_RRef_usable_44 (fun H locs hP hS => ?_)
          refine lv_if_eq (tgt := 59) hx hb d_RRef_usable_47 (by decide) (fun c8 => ?_) (fun c8 => ?_)
          · replace hm := ip c8 hm
            refine lv_iload_n hx hb d_RRef_usable_59 rfl (lv_at hl 1 rfl) ?_
            refine lv_istore_n (lv' := [(1, .int v1), (0, .ref (ad 0)), (2, .int v2)]) hx hb d_RRef_usable_60 rfl hl (by decide) rfl (fun ls hl => ?_)
            refine lv_iinc (v := (v2 + 1)) (lv' := [(2, .int (v2 + 1)), (1, .int v1), (0, .ref (ad 0))]) hx hb d_RRef_usable_61 hl (k := 2) rfl rfl (by decide) rfl (fun ls hl => ?_)
            refine lv_goto (tgt := 14) hx hb d_RRef_usable_64 (by decide) ?_
            exact ih  v1 (v2 + 1) _ hm _ _ hP hD hS ls (lv_sub hl [2, 1, 0] rfl)
          · replace hm := ineg c8 hm
            refine lv_aload_n hx hb d_RRef_usable_50 rfl (lv_at hl 0 rfl) ?_
            refine va_get (D := D) (ci := 6) (v := .ref (ad 8)) (C := R_RRef) (T := F_RRef) (N := 29) hx hb hts i_RRef hown hK hP 0 rfl rfl 13 (by decide) (hts _ wf_RRef_41) (fun _ h9 => h9) rfl d_RRef_usable_51 ?_
            refine lv_iload_n hx hb d_RRef_usable_54 rfl (lv_at hl 2 rfl) ?_
            obtain ⟨b9, hm⟩ := on hm
            refine va_iald hx hb hK hP 8 2 rfl rfl b9 d_RRef_usable_55 ?_
            refine lv_goto (tgt := 60) hx hb d_RRef_usable_56 (by decide) ?_
            refine lv_istore_n (lv' := [(1, .int ((g_RmNumber g).2 (v2).toNatClampNeg)), (0, .ref (ad 0)), (2, .int v2)]) hx hb d_RRef_usable_60 rfl hl (by decide) rfl (fun ls hl => ?_)
            refine lv_iinc (v := (v2 + 1)) (lv' := [(2, .int (v2 + 1)), (1, .int ((g_RmNumber g).2 (v2).toNatClampNeg)), (0, .ref (ad 0))]) hx hb d_RRef_usable_61 hl (k := 2) rfl rfl (by decide) rfl (fun ls hl => ?_)
            refine lv_goto (tgt := 14) hx hb d_RRef_usable_64 (by decide) ?_
            exact ih  ((g_RmNumber g).2 (v2).toNatClampNeg) (v2 + 1) _ hm _ _ hP hD hS ls (lv_sub hl [2, 1, 0] rfl)
set_option maxHeartbeats 4000000 in
set_option maxRecDepth 100000 in
theorem c_RRef_usable (l : Launch) (D : va_G) (ca : Nat → ClassId) (ad : Nat → Nat) (sz : Nat) (g : St_Ref)  (res : Int32) (hm : m_RRef_usable g = some res) : Met l y_RRef_usable (cws y_RRef_usable b_RRef_usable 3 (some .int)) (RM 4 95) (PreW D ca (wl_Ref ca ad g) [.ref (ad 0)] sz) (QRr (.int res) (va_A [] sz)) 0 0 (va_A [] sz) := by
  refine met_ofR (own := R_RRef) (by decide) rfl (Nat.le_of_ble_eq_true rfl) ?_
  intro p e s m below meth c A X hA hP hD ls hl
  obtain ⟨hx, hb, hml, hr, hown, hts, hK, hlocks⟩ := id X
  have hS : va_S A s.heap s.heap [] := va_S.rf
  have hl : lv_has ls 3 [(0, .ref (ad 0))] := hl
  unfold m_RRef_usable at hm
  refine lv_aload_n hx hb d_RRef_usable_0 rfl (lv_at hl 0 rfl) ?_
  refine va_get (D := D) (ci := 6) (v := .int (g_Ropen g)) (C := R_RRef) (T := F_RRef) (N := 29) hx hb hts i_RRef hown hK hP 0 rfl rfl 2 (by decide) (hts _ wf_RRef_13) (fun _ h9 => h9) rfl d_RRef_usable_1 ?_
  refine lv_if_ne (tgt := 10) hx hb d_RRef_usable_4 (by decide) (fun c1 => ?_) (fun c1 => ?_)
  · replace hm := ineg c1 hm
    refine lv_iconst (v := (-1)) hx hb d_RRef_usable_10 (by decide) ?_
    refine lv_istore_n (lv' := [(1, .int (-1)), (0, .ref (ad 0))]) hx hb d_RRef_usable_11 rfl hl (by decide) rfl (fun ls hl => ?_)
    refine lv_iconst (v := 0) hx hb d_RRef_usable_12 (by decide) ?_
    refine lv_istore_n (lv' := [(2, .int 0), (1, .int (-1)), (0, .ref (ad 0))]) hx hb d_RRef_usable_13 rfl hl (by decide) rfl (fun ls hl => ?_)
    exact k_m_RRef_usable_L14 X hA FU  (-1) 0 _ hm _ _ hP hD hS ls (lv_sub hl [2, 1, 0] rfl)
  · replace hm := ip c1 hm
    refine lv_bipush (v := (-3)) hx hb d_RRef_usable_7 (by decide) ?_
    cases hm
    exact ret_ri X hS d_RRef_usable_9
set_option maxHeartbeats 4000000 in
set_option maxRecDepth 100000 in
theorem c_RRef_whole (l : Launch) (D : va_G) (ca : Nat → ClassId) (ad : Nat → Nat) (sz : Nat) (g : St_Ref) (p1 : Int32) (res : Int32) (hm : m_RRef_whole g p1 = some res) : Met l y_RRef_whole (cws y_RRef_whole b_RRef_whole 3 (some .int)) (RM 4 95) (PreW D ca (wl_Ref ca ad g) [.ref (ad 0), .int p1] sz) (QRr (.int res) (va_A [] sz)) 0 0 (va_A [] sz) := by
  refine met_ofR (own := R_RRef) (by decide) rfl (Nat.le_of_ble_eq_true rfl) ?_
  intro p e s m below meth c A X hA hP hD ls hl
  obtain ⟨hx, hb, hml, hr, hown, hts, hK, hlocks⟩ := id X
  have hS : va_S A s.heap s.heap [] := va_S.rf
  have hl : lv_has ls 3 [(0, .ref (ad 0)), (1, .int p1)] := hl
  unfold m_RRef_whole at hm
  refine lv_aload_n hx hb d_RRef_whole_0 rfl (lv_at hl 0 rfl) ?_
  refine lv_iload_n hx hb d_RRef_whole_1 rfl (lv_at hl 1 rfl) ?_
  obtain ⟨q1, hq1, hm⟩ := ob hm
  refine inv_rVa (C := R_RRef) (As := [.int p1]) (rest := []) (v := .int q1) X (c_RRef_findMark l D ca ad _ g p1 q1 hq1) g_RRef_150 yo_RRef_findMark ⟨Nat.le_of_ble_eq_true rfl, Nat.le_of_ble_eq_true rfl⟩ hl hP hD (ci := 6) rfl rfl hS hA rfl rfl (Nat.le_of_ble_eq_true rfl) ⟨Nat.zero_le _, Nat.zero_le _⟩ d_RRef_whole_2 (fun H locs hP hS => ?_)
  refine lv_istore_n (lv' := [(2, .int q1), (0, .ref (ad 0)), (1, .int p1)]) hx hb d_RRef_whole_5 rfl hl (by decide) rfl (fun ls hl => ?_)
  refine lv_aload_n hx hb d_RRef_whole_6 rfl (lv_at hl 1 rfl) ?_
  refine va_get (D := D) (ci := 6) (v := .int (g_Ropen g)) (C := R_RRef) (T := F_RRef) (N := 29) hx hb hts i_RRef hown hK hP 0 rfl rfl 2 (by decide) (hts _ wf_RRef_13) (fun _ h9 => h9) rfl d_RRef_whole_7 ?_
  refine lv_if_ne (tgt := 18) hx hb d_RRef_whole_10 (by decide) (fun c2 => ?_) (fun c2 => ?_)
  · replace hm := ineg c2 hm
    refine lv_iload_n hx hb d_RRef_whole_18 rfl (lv_at hl 0 rfl) ?_
    refine lv_iconst (v := (-1)) hx hb d_RRef_whole_19 (by decide) ?_
    refine lv_icmp_ne (tgt := 27) hx hb d_RRef_whole_20 (by decide) (fun c3 => ?_) (fun c3 => ?_)
    · replace hm := ineg c3 hm
      refine lv_aload_n hx hb d_RRef_whole_27 rfl (lv_at hl 1 rfl) ?_
      refine lv_iload_n hx hb d_RRef_whole_28 rfl (lv_at hl 0 rfl) ?_
      obtain ⟨q4, hq4, hm⟩ := ob hm
      refine inv_rVa (C := R_RRef) (As := [.int q1]) (rest := []) (v := .int q4) X (c_RRef_isWholeMark l D ca ad _ g q1 q4 hq4) g_RRef_224 yo_RRef_isWholeMark ⟨Nat.le_of_ble_eq_true rfl, Nat.le_of_ble_eq_true rfl⟩ hl hP hD (ci := 6) rfl rfl hS hA rfl rfl (Nat.le_of_ble_eq_true rfl) ⟨Nat.zero_le _, Nat.zero_le _⟩ d_RRef_whole_29 (fun H locs hP hS => ?_)
      refine lv_if_eq (tgt := 39) hx hb d_RRef_whole_32 (by decide) (fun c5 => ?_) (fun c5 => ?_)
      · replace hm := ip c5 hm
        refine lv_iconst (v := 0) hx hb d_RRef_whole_39 (by decide) ?_
        cases hm
        exact ret_ri X hS d_RRef_whole_40
      · replace hm := ineg c5 hm
        refine lv_iconst (v := 1) hx hb d_RRef_whole_35 (by decide) ?_
        refine lv_goto (tgt := 40) hx hb d_RRef_whole_36 (by decide) ?_
        cases hm
        exact ret_ri X hS d_RRef_whole_40
    · replace hm := ip c3 hm
      refine lv_iconst (v := (-1)) hx hb d_RRef_whole_23 (by decide) ?_
      refine lv_goto (tgt := 40) hx hb d_RRef_whole_24 (by decide) ?_
      cases hm
      exact ret_ri X hS d_RRef_whole_40
  · replace hm := ip c2 hm
    refine lv_bipush (v := (-3)) hx hb d_RRef_whole_13 (by decide) ?_
    refine lv_goto (tgt := 40) hx hb d_RRef_whole_15 (by decide) ?_
    cases hm
    exact ret_ri X hS d_RRef_whole_40
