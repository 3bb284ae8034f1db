set_option maxHeartbeats 4000000 in
set_option maxRecDepth 100000 in
theorem c_Bytes_size (l : Launch) (D : va_G) (ca : Nat → ClassId) (a0 a1 : Nat) (sz : Nat) (x : St_Bytes)  (res : Int32) (hm : m_Bytes_size x = some res) : Met l y_Bytes_size (cws y_Bytes_size b_Bytes_size 1 (some .int)) (RM 0 0) (PreW D ca (wl_Bytes ca a0 a1 x) [.ref a0] sz) (QRr (.int res) (va_A [] sz)) 0 0 (va_A [] sz) := by
  refine met_ofR (own := R_Bytes) (by decide) rfl (Nat.le_of_ble_eq_true rfl) ?_
  intro p e s m below meth c A X hA hP hD ls hl
  obtain ⟨hx, hb, hml, hr, hown, hts, hK, hlocks⟩ := id X
  have hS : va_S A s.heap s.heap [] := va_S.rf
  have hl : lv_has ls 1 [(0, .ref a0)] := hl
  unfold m_Bytes_size at hm
  refine lv_aload_n hx hb d_Bytes_size_0 rfl (lv_at hl 0 rfl) ?_
  refine va_get (D := D) (ci := 1) (v := .int x.2) (C := R_Bytes) (T := F_Bytes) (N := 2) hx hb hts i_Bytes hown hK hP 0 rfl rfl 1 (by decide) (hts _ wf_Bytes_19) (fun _ h9 => h9) rfl d_Bytes_size_1 ?_
  cases hm
  exact ret_ri X hS d_Bytes_size_4
set_option maxHeartbeats 4000000 in
set_option maxRecDepth 100000 in
theorem c_Bytes_putByte (l : Launch) (D : va_G) (ca : Nat → ClassId) (a0 a1 : Nat) (sz : Nat) (x : St_Bytes) (p1 : Int32) (p2 : Int64) (res : St_Bytes) (hm : m_Bytes_putByte x p1 p2 = some res) : Met l y_Bytes_putByte (cws y_Bytes_putByte b_Bytes_putByte 4 none) (RM 1 14) (PreW D ca (wl_Bytes ca a0 a1 x) [.ref a0, .int p1, .long p2] sz) (QRm D none (wl_Bytes ca a0 a1 res) (va_A (wl_Bytes ca a0 a1 x) sz)) 0 0 (va_A (wl_Bytes ca a0 a1 x) sz) := by
  refine met_ofM (own := R_Bytes) (by decide) rfl (Nat.le_of_ble_eq_true rfl) ?_
  intro p e s m below meth c A X hA hP hD ls hl
  obtain ⟨hx, hb, hml, hr, hown, hts, hK, hlocks⟩ := id X
  have hS : va_S A s.heap s.heap [] := va_S.rf
  have hl : lv_has ls 4 [(0, .ref a0), (1, .int p1), (2, .long p2)] := hl
  unfold m_Bytes_putByte at hm
  refine lv_iload_n hx hb d_Bytes_putByte_0 rfl (lv_at hl 1 rfl) ?_
  refine lv_if_lt (tgt := 13) hx hb d_Bytes_putByte_1 (by decide) (fun c1 => ?_) (fun c1 => ?_)
  · replace hm := ip c1 hm
    cases hm
    exact ret_mv X hP hS d_Bytes_putByte_13
  · replace hm := ineg c1 hm
    refine lv_iload_n hx hb d_Bytes_putByte_4 rfl (lv_at hl 1 rfl) ?_
    refine lv_aload_n hx hb d_Bytes_putByte_5 rfl (lv_at hl 0 rfl) ?_
    refine va_get (D := D) (ci := 1) (v := .ref a1) (C := R_Bytes) (T := F_Bytes) (N := 2) hx hb hts i_Bytes hown hK hP 0 rfl rfl 0 (by decide) (hts _ wf_Bytes_13) (fun _ h9 => h9) rfl d_Bytes_putByte_6 ?_
    refine va_alen hx hb hK hP 1 0 rfl rfl (v := nI x.1.1) rfl d_Bytes_putByte_9 ?_
    refine lv_icmp_lt (tgt := 14) hx hb d_Bytes_putByte_10 (by decide) (fun c2 => ?_) (fun c2 => ?_)
    · replace hm := ip c2 hm
      refine lv_aload_n hx hb d_Bytes_putByte_14 rfl (lv_at hl 0 rfl) ?_
      refine va_get (D := D) (ci := 1) (v := .ref a1) (C := R_Bytes) (T := F_Bytes) (N := 2) hx hb hts i_Bytes hown hK hP 0 rfl rfl 0 (by decide) (hts _ wf_Bytes_13) (fun _ h9 => h9) rfl d_Bytes_putByte_15 ?_
      refine lv_iload_n hx hb d_Bytes_putByte_18 rfl (lv_at hl 1 rfl) ?_
      refine lv_lload_n hx hb d_Bytes_putByte_19 rfl (lv_at hl 2 rfl) ?_
      refine lv_l2i (v := ((p2).toInt32)) hx hb d_Bytes_putByte_20 rfl ?_
      refine lv_i2b (v := ((((p2).toInt32)).toInt8.toInt32)) hx hb d_Bytes_putByte_21 rfl ?_
      obtain ⟨b3, hm⟩ := on hm
      refine va_bast hx hb hK hP hD hS 1 0 rfl rfl b3 d_Bytes_putByte_22 (fun H locs hP hD hS => ?_)
      replace hP : va_P D classes (wl_Bytes ca a0 a1 ((x.1.1, upd x.1.2 (p1).toNatClampNeg (vp_nar .byte ((((p2).toInt32)).toInt8.toInt32))), x.2)) H := hP
      replace hD : va_D A (wl_Bytes ca a0 a1 ((x.1.1, upd x.1.2 (p1).toNatClampNeg (vp_nar .byte ((((p2).toInt32)).toInt8.toInt32))), x.2)) := hD
      refine lv_aload_n hx hb d_Bytes_putByte_23 rfl (lv_at hl 0 rfl) ?_
      refine lv_aload_n hx hb d_Bytes_putByte_24 rfl (lv_at hl 0 rfl) ?_
      refine va_get (D := D) (ci := 1) (v := .int x.2) (C := R_Bytes) (T := F_Bytes) (N := 2) hx hb hts i_Bytes hown hK hP 0 rfl rfl 1 (by decide) (hts _ wf_Bytes_19) (fun _ h9 => h9) rfl d_Bytes_putByte_25 ?_
      refine lv_iload_n hx hb d_Bytes_putByte_28 rfl (lv_at hl 1 rfl) ?_
      refine lv_iconst (v := 1) hx hb d_Bytes_putByte_29 (by decide) ?_
      refine lv_iadd hx hb d_Bytes_putByte_30 ?_
      refine va_mmax hx hb (hml.trans hl.1.symm) hown (hts _ wm_Bytes_7) (hts _ w_max_static) (hts _ w_math_init) (hts _ w_max_code) (Nat.le_of_ble_eq_true rfl) (Nat.le_of_ble_eq_true rfl) (Nat.zero_le _) (Nat.zero_le _) d_Bytes_putByte_31 ?_
      refine va_put (D := D) (ci := 1) (v := .int (jmax x.2 (p1 + 1))) (ty := .int) (C := R_Bytes) (T := F_Bytes) (N := 2) hx hb hts i_Bytes t_Bytes t_Bytes_ok n_Bytes hown hK hP hD hS 0 rfl rfl 1 (by decide) (hts _ wf_Bytes_19) (fun _ h9 => h9) rfl (by decide +kernel) rfl rfl (Nat.le_of_ble_eq_true rfl) d_Bytes_putByte_34 (fun H locs hP hD hS => ?_)
      replace hP : va_P D classes (wl_Bytes ca a0 a1 ((x.1.1, upd x.1.2 (p1).toNatClampNeg (vp_nar .byte ((((p2).toInt32)).toInt8.toInt32))), (jmax x.2 (p1 + 1)))) H := hP
      replace hD : va_D A (wl_Bytes ca a0 a1 ((x.1.1, upd x.1.2 (p1).toNatClampNeg (vp_nar .byte ((((p2).toInt32)).toInt8.toInt32))), (jmax x.2 (p1 + 1)))) := hD
      cases hm
      exact ret_mv X hP hS d_Bytes_putByte_37
    · replace hm := ineg c2 hm
      cases hm
      exact ret_mv X hP hS d_Bytes_putByte_13
set_option maxHeartbeats 4000000 in
set_option maxRecDepth 100000 in
theorem k_m_Bytes_put_L3 {p : Program} {l : Launch} {e : Env} {s : State} {m : MethodId} {args : Array Value} {below : List Frame} {meth : Method} {c : Code} {D : va_G} {ca : Nat → ClassId} {a0 a1 : Nat} {A : Nat → Prop} (X : Cx p s m args meth c R_Bytes b_Bytes_put 6 none D ca) (hA : ∀ q, s.heap.size ≤ q → A q)  : ∀ (n : Nat) (x : St_Bytes) (v1 : Int32) (v2 : Int64) (v4 : Int32) (v5 : Int32) (res : St_Bytes), m_Bytes_put_L3  n x v1 v2 v4 v5 = some res → ∀ (H : Heap) (locs : List Loc), va_P D classes (wl_Bytes ca a0 a1 x) H → va_D A (wl_Bytes ca a0 a1 x) → va_S A s.heap H locs → ∀ ls : Array Slot, lv_has ls 6 [(0, .ref a0), (1, .int v1), (2, .long v2), (4, .int v4), (5, .int v5)] → W p l e (RM 2 37) s m args below meth c H locs 0 0 (MQ below (QRm D none (wl_Bytes ca a0 a1 res) A) args s 0 0 A) (F0 m 3 ls []) := by
  obtain ⟨hx, hb, hml, hr, hown, hts, hK, hlocks⟩ := id X
  intro n
  induction n with
  | zero =>
    intro x v1 v2 v4 v5 res hm
    rw [m_Bytes_put_L3] at hm
    cases hm
  | succ n ih =>
    intro x v1 v2 v4 v5 res hm H locs hP hD hS ls hl
    rw [m_Bytes_put_L3] at hm
    refine lv_iload hx hb d_Bytes_put_3 (lv_at hl 4 rfl) ?_
    refine lv_iload hx hb d_Bytes_put_5 (lv_at hl 3 rfl) ?_
    refine lv_icmp_ge (tgt := 36) hx hb d_Bytes_put_7 (by decide) (fun c1 => ?_) (fun c1 => ?_)
    · replace hm := ip c1 hm
      cases hm
      exact ret_mv X hP hS d_Bytes_put_36
    · replace hm := ineg c1 hm
      refine lv_aload_n hx hb d_Bytes_put_10 rfl (lv_at hl 0 rfl) ?_
      refine lv_iload_n hx hb d_Bytes_put_11 rfl (lv_at hl 1 rfl) ?_
      refine lv_iload hx hb d_Bytes_put_12 (lv_at hl 4 rfl) ?_
      refine lv_iadd hx hb d_Bytes_put_14 ?_
      refine lv_lload_n hx hb d_Bytes_put_15 rfl (lv_at hl 2 rfl) ?_
      refine lv_bipush (v := 8) hx hb d_Bytes_put_16 (by decide) ?_
      refine lv_iload hx hb d_Bytes_put_18 (lv_at hl 3 rfl) ?_
      refine lv_iconst (v := 1) hx hb d_Bytes_put_20 (by decide) ?_
      refine lv_isub hx hb d_Bytes_put_21 ?_
      refine lv_iload hx hb d_Bytes_put_22 (lv_at hl 4 rfl) ?_
      refine lv_isub hx hb d_Bytes_put_24 ?_
      refine lv_imul hx hb d_Bytes_put_25 ?_
      refine lv_lushr (v := (jlushr v2 (8 * ((v4 - 1) - v5)))) hx hb d_Bytes_put_26 rfl ?_
      obtain ⟨q2, hq2, hm⟩ := ob hm
      refine inv_mUa (C := R_Bytes) (As := [.int (v1 + v5), .long (jlushr v2 (8 * ((v4 - 1) - v5)))]) (rest := []) X (c_Bytes_putByte l D ca a0 a1 _ x (v1 + v5) (jlushr v2 (8 * ((v4 - 1) - v5))) q2 hq2) g_Bytes_31 yo_Bytes_putByte ⟨Nat.le_of_ble_eq_true rfl, Nat.le_of_ble_eq_true rfl⟩ hl hP hD rfl (ci := 1) rfl rfl hS hA rfl rfl (Nat.le_of_ble_eq_true rfl) ⟨Nat.zero_le _, Nat.zero_le _⟩ d_Bytes_put_27 (fun H locs hP hD hS => ?_)
      refine lv_iinc (v := (v5 + 1)) (lv' := [(5, .int (v5 + 1)), (0, .ref a0), (1, .int v1), (2, .long v2), (4, .int v4)]) hx hb d_Bytes_put_30 hl (k := 4) rfl rfl (by decide) rfl (fun ls hl => ?_)
      refine lv_goto (tgt := 3) hx hb d_Bytes_put_33 (by decide) ?_
      exact ih q2 v1 v2 v4 (v5 + 1) _ hm _ _ hP hD hS ls (lv_sub hl [1, 2, 3, 4, 0] rfl)
set_option maxHeartbeats 4000000 in
set_option maxRecDepth 100000 in
theorem c_Bytes_put (l : Launch) (D : va_G) (ca : Nat → ClassId) (a0 a1 : Nat) (sz : Nat) (x : St_Bytes) (p1 : Int32) (p2 : Int64) (p4 : Int32) (res : St_Bytes) (hm : m_Bytes_put x p1 p2 p4 = some res) : Met l y_Bytes_put (cws y_Bytes_put b_Bytes_put 6 none) (RM 2 37) (PreW D ca (wl_Bytes ca a0 a1 x) [.ref a0, .int p1, .long p2, .int p4] sz) (QRm D none (wl_Bytes ca a0 a1 res) (va_A (wl_Bytes ca a0 a1 x) sz)) 0 0 (va_A (wl_Bytes ca a0 a1 x) sz) := by
  refine met_ofM (own := R_Bytes) (by decide) rfl (Nat.le_of_ble_eq_true rfl) ?_
  intro p e s m below meth c A X hA hP hD ls hl
  obtain ⟨hx, hb, hml, hr, hown, hts, hK, hlocks⟩ := id X
  have hS : va_S A s.heap s.heap [] := va_S.rf
  have hl : lv_has ls 6 [(0, .ref a0), (1, .int p1), (2, .long p2), (4, .int p4)] := hl
  unfold m_Bytes_put at hm
  refine lv_iconst (v := 0) hx hb d_Bytes_put_0 (by decide) ?_
  refine lv_istore (lv' := [(5, .int 0), (0, .ref a0), (1, .int p1), (2, .long p2), (4, .int p4)]) hx hb d_Bytes_put_1 hl (by decide) rfl (fun ls hl => ?_)
  exact k_m_Bytes_put_L3 X hA FU x p1 p2 p4 0 _ hm _ _ hP hD hS ls (lv_sub hl [1, 2, 3, 4, 0] rfl)
set_option maxHeartbeats 4000000 in
set_option maxRecDepth 100000 in
theorem c_Bytes_add (l : Launch) (D : va_G) (ca : Nat → ClassId) (a0 a1 : Nat) (sz : Nat) (x : St_Bytes) (p1 : Int64) (p3 : Int32) (res : St_Bytes) (hm : m_Bytes_add x p1 p3 = some res) : Met l y_Bytes_add (cws y_Bytes_add b_Bytes_add 4 none) (RM 3 62) (PreW D ca (wl_Bytes ca a0 a1 x) [.ref a0, .long p1, .int p3] sz) (QRm D none (wl_Bytes ca a0 a1 res) (va_A (wl_Bytes ca a0 a1 x) sz)) 0 0 (va_A (wl_Bytes ca a0 a1 x) sz) := by
  refine met_ofM (own := R_Bytes) (by decide) rfl (Nat.le_of_ble_eq_true rfl) ?_
  intro p e s m below meth c A X hA hP hD ls hl
  obtain ⟨hx, hb, hml, hr, hown, hts, hK, hlocks⟩ := id X
  have hS : va_S A s.heap s.heap [] := va_S.rf
  have hl : lv_has ls 4 [(0, .ref a0), (1, .long p1), (3, .int p3)] := hl
  unfold m_Bytes_add at hm
  refine lv_aload_n hx hb d_Bytes_add_0 rfl (lv_at hl 0 rfl) ?_
  refine lv_aload_n hx hb d_Bytes_add_1 rfl (lv_at hl 0 rfl) ?_
  refine va_get (D := D) (ci := 1) (v := .int x.2) (C := R_Bytes) (T := F_Bytes) (N := 2) hx hb hts i_Bytes hown hK hP 0 rfl rfl 1 (by decide) (hts _ wf_Bytes_19) (fun _ h9 => h9) rfl d_Bytes_add_2 ?_
  refine lv_lload_n hx hb d_Bytes_add_5 rfl (lv_at hl 1 rfl) ?_
  refine lv_iload_n hx hb d_Bytes_add_6 rfl (lv_at hl 2 rfl) ?_
  obtain ⟨q1, hq1, hm⟩ := ob hm
  refine inv_mUa (C := R_Bytes) (As := [.int x.2, .long p1, .int p3]) (rest := []) X (c_Bytes_put l D ca a0 a1 _ x x.2 p1 p3 q1 hq1) g_Bytes_27 yo_Bytes_put ⟨Nat.le_of_ble_eq_true rfl, Nat.le_of_ble_eq_true rfl⟩ hl hP hD rfl (ci := 1) rfl rfl hS hA rfl rfl (Nat.le_of_ble_eq_true rfl) ⟨Nat.zero_le _, Nat.zero_le _⟩ d_Bytes_add_7 (fun H locs hP hD hS => ?_)
  cases hm
  exact ret_mv X hP hS d_Bytes_add_10
set_option maxHeartbeats 4000000 in
set_option maxRecDepth 100000 in
theorem k_m_Bytes_clear_L2 {p : Program} {l : Launch} {e : Env} {s : State} {m : MethodId} {args : Array Value} {below : List Frame} {meth : Method} {c : Code} {D : va_G} {ca : Nat → ClassId} {a0 a1 : Nat} {A : Nat → Prop} (X : Cx p s m args meth c R_Bytes b_Bytes_clear 2 none D ca) (hA : ∀ q, s.heap.size ≤ q → A q)  : ∀ (n : Nat) (x : St_Bytes) (v1 : Int32) (res : St_Bytes), m_Bytes_clear_L2  n x v1 = some res → ∀ (H : Heap) (locs : List Loc), va_P D classes (wl_Bytes ca a0 a1 x) H → va_D A (wl_Bytes ca a0 a1 x) → va_S A s.heap H locs → ∀ ls : Array Slot, lv_has ls 2 [(0, .ref a0), (1, .int v1)] → W p l e (RM 0 0) s m args below meth c H locs 0 0 (MQ below (QRm D none (wl_Bytes ca a0 a1 res) A) args s 0 0 A) (F0 m 2 ls []) := by
  obtain ⟨hx, hb, hml, hr, hown, hts, hK, hlocks⟩ := id X
  intro n
  induction n with
  | zero =>
    intro x v1 res hm
    rw [m_Bytes_clear_L2] at hm
    cases hm
  | succ n ih =>
    intro x v1 res hm H locs hP hD hS ls hl
    rw [m_Bytes_clear_L2] at hm
    refine lv_iload_n hx hb d_Bytes_clear_2 rfl (lv_at hl 1 rfl) ?_
    refine lv_aload_n hx hb d_Bytes_clear_3 rfl (lv_at hl 0 rfl) ?_
    refine va_get (D := D) (ci := 1) (v := .int x.2) (C := R_Bytes) (T := F_Bytes) (N := 2) hx hb hts i_Bytes hown hK hP 0 rfl rfl 1 (by decide) (hts _ wf_Bytes_19) (fun _ h9 => h9) rfl d_Bytes_clear_4 ?_
    refine lv_icmp_ge (tgt := 32) hx hb d_Bytes_clear_7 (by decide) (fun c1 => ?_) (fun c1 => ?_)
    · replace hm := ip c1 hm
      refine lv_aload_n hx hb d_Bytes_clear_32 rfl (lv_at hl 0 rfl) ?_
      refine lv_iconst (v := 0) hx hb d_Bytes_clear_33 (by decide) ?_
      refine va_put (D := D) (ci := 1) (v := .int 0) (ty := .int) (C := R_Bytes) (T := F_Bytes) (N := 2) hx hb hts i_Bytes t_Bytes t_Bytes_ok n_Bytes hown hK hP hD hS 0 rfl rfl 1 (by decide) (hts _ wf_Bytes_19) (fun _ h9 => h9) rfl (by decide +kernel) rfl rfl (Nat.le_of_ble_eq_true rfl) d_Bytes_clear_34 (fun H locs hP hD hS => ?_)
      replace hP : va_P D classes (wl_Bytes ca a0 a1 (x.1, 0)) H := hP
      replace hD : va_D A (wl_Bytes ca a0 a1 (x.1, 0)) := hD
      cases hm
      exact ret_mv X hP hS d_Bytes_clear_37
    · replace hm := ineg c1 hm
      refine lv_iload_n hx hb d_Bytes_clear_10 rfl (lv_at hl 1 rfl) ?_
      refine lv_aload_n hx hb d_Bytes_clear_11 rfl (lv_at hl 0 rfl) ?_
      refine va_get (D := D) (ci := 1) (v := .ref a1) (C := R_Bytes) (T := F_Bytes) (N := 2) hx hb hts i_Bytes hown hK hP 0 rfl rfl 0 (by decide) (hts _ wf_Bytes_13) (fun _ h9 => h9) rfl d_Bytes_clear_12 ?_
      refine va_alen hx hb hK hP 1 0 rfl rfl (v := nI x.1.1) rfl d_Bytes_clear_15 ?_
      refine lv_icmp_ge (tgt := 32) hx hb d_Bytes_clear_16 (by decide) (fun c2 => ?_) (fun c2 => ?_)
      · replace hm := ip c2 hm
        refine lv_aload_n hx hb d_Bytes_clear_32 rfl (lv_at hl 0 rfl) ?_
        refine lv_iconst (v := 0) hx hb d_Bytes_clear_33 (by decide) ?_
        refine va_put (D := D) (ci := 1) (v := .int 0) (ty := .int) (C := R_Bytes) (T := F_Bytes) (N := 2) hx hb hts i_Bytes t_Bytes t_Bytes_ok n_Bytes hown hK hP hD hS 0 rfl rfl 1 (by decide) (hts _ wf_Bytes_19) (fun _ h9 => h9) rfl (by decide +kernel) rfl rfl (Nat.le_of_ble_eq_true rfl) d_Bytes_clear_34 (fun H locs hP hD hS => ?_)
        replace hP : va_P D classes (wl_Bytes ca a0 a1 (x.1, 0)) H := hP
        replace hD : va_D A (wl_Bytes ca a0 a1 (x.1, 0)) := hD
        cases hm
        exact ret_mv X hP hS d_Bytes_clear_37
      · replace hm := ineg c2 hm
        refine lv_aload_n hx hb d_Bytes_clear_19 rfl (lv_at hl 0 rfl) ?_
        refine va_get (D := D) (ci := 1) (v := .ref a1) (C := R_Bytes) (T := F_Bytes) (N := 2) hx hb hts i_Bytes hown hK hP 0 rfl rfl 0 (by decide) (hts _ wf_Bytes_13) (fun _ h9 => h9) rfl d_Bytes_clear_20 ?_
        refine lv_iload_n hx hb d_Bytes_clear_23 rfl (lv_at hl 1 rfl) ?_
        refine lv_iconst (v := 0) hx hb d_Bytes_clear_24 (by decide) ?_
        obtain ⟨b3, hm⟩ := on hm
        refine va_bast hx hb hK hP hD hS 1 0 rfl rfl b3 d_Bytes_clear_25 (fun H locs hP hD hS => ?_)
        replace hP : va_P D classes (wl_Bytes ca a0 a1 ((x.1.1, upd x.1.2 (v1).toNatClampNeg (vp_nar .byte 0)), x.2)) H := hP
        replace hD : va_D A (wl_Bytes ca a0 a1 ((x.1.1, upd x.1.2 (v1).toNatClampNeg (vp_nar .byte 0)), x.2)) := hD
        refine lv_iinc (v := (v1 + 1)) (lv' := [(1, .int (v1 + 1)), (0, .ref a0)]) hx hb d_Bytes_clear_26 hl (k := 1) rfl rfl (by decide) rfl (fun ls hl => ?_)
        refine lv_goto (tgt := 2) hx hb d_Bytes_clear_29 (by decide) ?_
        exact ih ((x.1.1, upd x.1.2 (v1).toNatClampNeg (vp_nar .byte 0)), x.2) (v1 + 1) _ hm _ _ hP hD hS ls (lv_sub hl [1, 0] rfl)
set_option maxHeartbeats 4000000 in
set_option maxRecDepth 100000 in
theorem c_Bytes_clear (l : Launch) (D : va_G) (ca : Nat → ClassId) (a0 a1 : Nat) (sz : Nat) (x : St_Bytes)  (res : St_Bytes) (hm : m_Bytes_clear x = some res) : Met l y_Bytes_clear (cws y_Bytes_clear b_Bytes_clear 2 none) (RM 0 0) (PreW D ca (wl_Bytes ca a0 a1 x) [.ref a0] sz) (QRm D none (wl_Bytes ca a0 a1 res) (va_A (wl_Bytes ca a0 a1 x) sz)) 0 0 (va_A (wl_Bytes ca a0 a1 x) sz) := by
  refine met_ofM (own := R_Bytes) (by decide) rfl (Nat.le_of_ble_eq_true rfl) ?_
  intro p e s m below meth c A X hA hP hD ls hl
  obtain ⟨hx, hb, hml, hr, hown, hts, hK, hlocks⟩ := id X
  have hS : va_S A s.heap s.heap [] := va_S.rf
  have hl : lv_has ls 2 [(0, .ref a0)] := hl
  unfold m_Bytes_clear at hm
  refine lv_iconst (v := 0) hx hb d_Bytes_clear_0 (by decide) ?_
  refine lv_istore_n (lv' := [(1, .int 0), (0, .ref a0)]) hx hb d_Bytes_clear_1 rfl hl (by decide) rfl (fun ls hl => ?_)
  exact k_m_Bytes_clear_L2 X hA FU x 0 _ hm _ _ hP hD hS ls (lv_sub hl [1, 0] rfl)
set_option maxHeartbeats 4000000 in
set_option maxRecDepth 100000 in
theorem c_Log_isGroup (l : Launch) (D : va_G) (ca : Nat → ClassId)  (sz : Nat)  (p0 : Int32) (res : Int32) (hm : m_Log_isGroup p0 = some res) : Met l y_Log_isGroup (cws y_Log_isGroup b_Log_isGroup 1 (some .boolean)) (RM 0 0) (PreW D ca ([]) [.int p0] sz) (QRr (.int res) (va_A [] sz)) 0 0 (va_A [] sz) := by
  refine met_ofR (own := R_Log) (by decide) rfl (Nat.le_of_ble_eq_true rfl) ?_
  intro p e s m below meth c A X hA hP hD ls hl
  obtain ⟨hx, hb, hml, hr, hown, hts, hK, hlocks⟩ := id X
  have hS : va_S A s.heap s.heap [] := va_S.rf
  have hl : lv_has ls 1 [(0, .int p0)] := hl
  unfold m_Log_isGroup at hm
  refine lv_iload_n hx hb d_Log_isGroup_0 rfl (lv_at hl 0 rfl) ?_
  refine lv_if_lt (tgt := 14) hx hb d_Log_isGroup_1 (by decide) (fun c1 => ?_) (fun c1 => ?_)
  · replace hm := ip c1 hm
    refine lv_iconst (v := 0) hx hb d_Log_isGroup_14 (by decide) ?_
    cases hm
    exact ret_rz X nz0 hS d_Log_isGroup_15
  · replace hm := ineg c1 hm
    refine lv_iload_n hx hb d_Log_isGroup_4 rfl (lv_at hl 0 rfl) ?_
    refine lv_bipush (v := 8) hx hb d_Log_isGroup_5 (by decide) ?_
    refine lv_icmp_ge (tgt := 14) hx hb d_Log_isGroup_7 (by decide) (fun c2 => ?_) (fun c2 => ?_)
    · replace hm := ip c2 hm
      refine lv_iconst (v := 0) hx hb d_Log_isGroup_14 (by decide) ?_
      cases hm
      exact ret_rz X nz0 hS d_Log_isGroup_15
    · replace hm := ineg c2 hm
      refine lv_iconst (v := 1) hx hb d_Log_isGroup_10 (by decide) ?_
      refine lv_goto (tgt := 15) hx hb d_Log_isGroup_11 (by decide) ?_
      cases hm
      exact ret_rz X nz1 hS d_Log_isGroup_15
set_option maxHeartbeats 4000000 in
set_option maxRecDepth 100000 in
theorem c_Log_bodiesOf (l : Launch) (D : va_G) (ca : Nat → ClassId)  (sz : Nat)  (p0 : Int32) (res : Int32) (hm : m_Log_bodiesOf p0 = some res) : Met l y_Log_bodiesOf (cws y_Log_bodiesOf b_Log_bodiesOf 1 (some .int)) (RM 0 0) (PreW D ca ([]) [.int p0] sz) (QRr (.int res) (va_A [] sz)) 0 0 (va_A [] sz) := by
  refine met_ofR (own := R_Log) (by decide) rfl (Nat.le_of_ble_eq_true rfl) ?_
  intro p e s m below meth c A X hA hP hD ls hl
  obtain ⟨hx, hb, hml, hr, hown, hts, hK, hlocks⟩ := id X
  have hS : va_S A s.heap s.heap [] := va_S.rf
  have hl : lv_has ls 1 [(0, .int p0)] := hl
  unfold m_Log_bodiesOf at hm
  refine lv_iload_n hx hb d_Log_bodiesOf_0 rfl (lv_at hl 0 rfl) ?_
  refine lv_bipush (v := 31) hx hb d_Log_bodiesOf_1 (by decide) ?_
  refine lv_iadd hx hb d_Log_bodiesOf_3 ?_
  refine lv_iconst (v := 1) hx hb d_Log_bodiesOf_4 (by decide) ?_
  refine lv_isub hx hb d_Log_bodiesOf_5 ?_
  refine lv_bipush (v := 31) hx hb d_Log_bodiesOf_6 (by decide) ?_
  refine lv_idiv hx hb d_Log_bodiesOf_8 (by decide) ?_
  cases hm
  exact ret_ri X hS d_Log_bodiesOf_9
set_option maxHeartbeats 4000000 in
set_option maxRecDepth 100000 in
theorem c_Log_rowsOfPart (l : Launch) (D : va_G) (ca : Nat → ClassId)  (sz : Nat)  (p0 : Int32) (res : Int32) (hm : m_Log_rowsOfPart p0 = some res) : Met l y_Log_rowsOfPart (cws y_Log_rowsOfPart b_Log_rowsOfPart 1 (some .int)) (RM 1 20) (PreW D ca ([]) [.int p0] sz) (QRr (.int res) (va_A [] sz)) 0 0 (va_A [] sz) := by
  refine met_ofR (own := R_Log) (by decide) rfl (Nat.le_of_ble_eq_true rfl) ?_
  intro p e s m below meth c A X hA hP hD ls hl
  obtain ⟨hx, hb, hml, hr, hown, hts, hK, hlocks⟩ := id X
  have hS : va_S A s.heap s.heap [] := va_S.rf
  have hl : lv_has ls 1 [(0, .int p0)] := hl
  unfold m_Log_rowsOfPart at hm
  refine lv_iconst (v := 1) hx hb d_Log_rowsOfPart_0 (by decide) ?_
  refine lv_iload_n hx hb d_Log_rowsOfPart_1 rfl (lv_at hl 0 rfl) ?_
  obtain ⟨q1, hq1, hm⟩ := ob hm
  refine inv_rS (As := [.int p0]) (rest := [.int 1]) (v := .int q1) X (c_Log_bodiesOf l D ca  _ p0 q1 hq1) g_Log_259 yo_Log_bodiesOf ⟨Nat.le_of_ble_eq_true rfl, Nat.le_of_ble_eq_true rfl⟩ hl hP hD [] rfl rfl hS hA rfl rfl (Nat.le_of_ble_eq_true rfl) ⟨Nat.zero_le _, Nat.zero_le _⟩ d_Log_rowsOfPart_2 (fun H locs hP hS => ?_)
  refine lv_iadd hx hb d_Log_rowsOfPart_5 ?_
  cases hm
  exact ret_ri X hS d_Log_rowsOfPart_6
set_option maxHeartbeats 4000000 in
set_option maxRecDepth 100000 in
theorem k_m_Room_firstRun_L4 {p : Program} {l : Launch} {e : Env} {s : State} {m : MethodId} {args : Array Value} {below : List Frame} {meth : Method} {c : Code} {D : va_G} {ca : Nat → ClassId} {a0 a1 : Nat} {A : Nat → Prop} (X : Cx p s m args meth c R_Room b_Room_firstRun 4 (some .int) D ca) (hA : ∀ q, s.heap.size ≤ q → A q) {x : St_Room} : ∀ (n : Nat) (v1 : Int32) (v2 : Int32) (v3 : Int32) (res : Int32), m_Room_firstRun_L4 x n v1 v2 v3 = some res → ∀ (H : Heap) (locs : List Loc), va_P D classes (wl_Room ca a0 a1 x) H → va_D (fun _ => True) (wl_Room ca a0 a1 x) → va_S A s.heap H locs → ∀ ls : Array Slot, lv_has ls 4 [(0, .ref a0), (1, .int v1), (2, .int v2), (3, .int v3)] → W p l e (RM 0 0) s m args below meth c H locs 0 0 (MQ below (QRr (.int res) A) args s 0 0 A) (F0 m 4 ls []) := by
  obtain ⟨hx, hb, hml, hr, hown, hts, hK, hlocks⟩ := id X
  intro n
  induction n with
  | zero =>
    intro v1 v2 v3 res hm
    rw [m_Room_firstRun_L4] at hm
    cases hm
  | succ n ih =>
    intro v1 v2 v3 res hm H locs hP hD hS ls hl
    rw [m_Room_firstRun_L4] at hm
    refine lv_iload_n hx hb d_Room_firstRun_4 rfl (lv_at hl 3 rfl) ?_
    refine lv_aload_n hx hb d_Room_firstRun_5 rfl (lv_at hl 0 rfl) ?_
    refine va_get (D := D) (ci := 2) (v := .ref a1) (C := R_Room) (T := F_Room) (N := 1) hx hb hts i_Room hown hK hP 0 rfl rfl 0 (by decide) (hts _ wf_Room_15) (fun _ h9 => h9) rfl d_Room_firstRun_6 ?_
    refine va_alen hx hb hK hP 1 1 rfl rfl (v := nI x.1) rfl d_Room_firstRun_9 ?_
    refine lv_icmp_ge (tgt := 47) hx hb d_Room_firstRun_10 (by decide) (fun c1 => ?_) (fun c1 => ?_)
    · replace hm := ip c1 hm
      refine lv_iconst (v := (-1)) hx hb d_Room_firstRun_47 (by decide) ?_
      cases hm
      exact ret_ri X hS d_Room_firstRun_48
    · replace hm := ineg c1 hm
      refine lv_aload_n hx hb d_Room_firstRun_13 rfl (lv_at hl 0 rfl) ?_
      refine va_get (D := D) (ci := 2) (v := .ref a1) (C := R_Room) (T := F_Room) (N := 1) hx hb hts i_Room hown hK hP 0 rfl rfl 0 (by decide) (hts _ wf_Room_15) (fun _ h9 => h9) rfl d_Room_firstRun_14 ?_
      refine lv_iload_n hx hb d_Room_firstRun_17 rfl (lv_at hl 3 rfl) ?_
      obtain ⟨b2, hm⟩ := on hm
      refine va_zald hx hb hK hP 1 1 rfl rfl b2 d_Room_firstRun_18 ?_
      refine lv_if_eq (tgt := 26) hx hb d_Room_firstRun_19 (by decide) (fun c3 => ?_) (fun c3 => ?_)
      · replace hm := ip c3 hm
        refine lv_iload_n hx hb d_Room_firstRun_26 rfl (lv_at hl 2 rfl) ?_
        refine lv_iconst (v := 1) hx hb d_Room_firstRun_27 (by decide) ?_
        refine lv_iadd hx hb d_Room_firstRun_28 ?_
        refine lv_istore_n (lv' := [(2, .int (v2 + 1)), (0, .ref a0), (1, .int v1), (3, .int v3)]) hx hb d_Room_firstRun_29 rfl hl (by decide) rfl (fun ls hl => ?_)
        refine lv_iload_n hx hb d_Room_firstRun_30 rfl (lv_at hl 0 rfl) ?_
        refine lv_iload_n hx hb d_Room_firstRun_31 rfl (lv_at hl 2 rfl) ?_
        refine lv_icmp_ne (tgt := 41) hx hb d_Room_firstRun_32 (by decide) (fun c4 => ?_) (fun c4 => ?_)
        · replace hm := ineg c4 hm
          refine lv_iinc (v := (v3 + 1)) (lv' := [(3, .int (v3 + 1)), (2, .int (v2 + 1)), (0, .ref a0), (1, .int v1)]) hx hb d_Room_firstRun_41 hl (k := 3) rfl rfl (by decide) rfl (fun ls hl => ?_)
          refine lv_goto (tgt := 4) hx hb d_Room_firstRun_44 (by decide) ?_
          exact ih  v1 (v2 + 1) (v3 + 1) _ hm _ _ hP hD hS ls (lv_sub hl [2, 3, 1, 0] rfl)
        · replace hm := ip c4 hm
          refine lv_iload_n hx hb d_Room_firstRun_35 rfl (lv_at hl 3 rfl) ?_
          refine lv_iload_n hx hb d_Room_firstRun_36 rfl (lv_at hl 2 rfl) ?_
          refine lv_isub hx hb d_Room_firstRun_37 ?_
          refine lv_iconst (v := 1) hx hb d_Room_firstRun_38 (by decide) ?_
          refine lv_iadd hx hb d_Room_firstRun_39 ?_
          cases hm
          exact ret_ri X hS d_Room_firstRun_40
      · replace hm := ineg c3 hm
        refine lv_iconst (v := 0) hx hb d_Room_firstRun_22 (by decide) ?_
        refine lv_goto (tgt := 29) hx hb d_Room_firstRun_23 (by decide) ?_
        refine lv_istore_n (lv' := [(2, .int 0), (0, .ref a0), (1, .int v1), (3, .int v3)]) hx hb d_Room_firstRun_29 rfl hl (by decide) rfl (fun ls hl => ?_)
        refine lv_iload_n hx hb d_Room_firstRun_30 rfl (lv_at hl 0 rfl) ?_
        refine lv_iload_n hx hb d_Room_firstRun_31 rfl (lv_at hl 2 rfl) ?_
        refine lv_icmp_ne (tgt := 41) hx hb d_Room_firstRun_32 (by decide) (fun c5 => ?_) (fun c5 => ?_)
        · replace hm := ineg c5 hm
          refine lv_iinc (v := (v3 + 1)) (lv' := [(3, .int (v3 + 1)), (2, .int 0), (0, .ref a0), (1, .int v1)]) hx hb d_Room_firstRun_41 hl (k := 3) rfl rfl (by decide) rfl (fun ls hl => ?_)
          refine lv_goto (tgt := 4) hx hb d_Room_firstRun_44 (by decide) ?_
          exact ih  v1 0 (v3 + 1) _ hm _ _ hP hD hS ls (lv_sub hl [2, 3, 1, 0] rfl)
        · replace hm := ip c5 hm
          refine lv_iload_n hx hb d_Room_firstRun_35 rfl (lv_at hl 3 rfl) ?_
          refine lv_iload_n hx hb d_Room_firstRun_36 rfl (lv_at hl 2 rfl) ?_
          refine lv_isub hx hb d_Room_firstRun_37 ?_
          refine lv_iconst (v := 1) hx hb d_Room_firstRun_38 (by decide) ?_
          refine lv_iadd hx hb d_Room_firstRun_39 ?_
          cases hm
          exact ret_ri X hS d_Room_firstRun_40
set_option maxHeartbeats 4000000 in
set_option maxRecDepth 100000 in
theorem c_Room_firstRun (l : Launch) (D : va_G) (ca : Nat → ClassId) (a0 a1 : Nat) (sz : Nat) (x : St_Room) (p1 : Int32) (res : Int32) (hm : m_Room_firstRun x p1 = some res) : Met l y_Room_firstRun (cws y_Room_firstRun b_Room_firstRun 4 (some .int)) (RM 0 0) (PreW D ca (wl_Room ca a0 a1 x) [.ref a0, .int p1] sz) (QRr (.int res) (va_A [] sz)) 0 0 (va_A [] sz) := by
  refine met_ofR (own := R_Room) (by decide) rfl (Nat.le_of_ble_eq_true rfl) ?_
  intro p e s m below meth c A X hA hP hD ls hl
  obtain ⟨hx, hb, hml, hr, hown, hts, hK, hlocks⟩ := id X
  have hS : va_S A s.heap s.heap [] := va_S.rf
  have hl : lv_has ls 4 [(0, .ref a0), (1, .int p1)] := hl
  unfold m_Room_firstRun at hm
  refine lv_iconst (v := 0) hx hb d_Room_firstRun_0 (by decide) ?_
  refine lv_istore_n (lv' := [(2, .int 0), (0, .ref a0), (1, .int p1)]) hx hb d_Room_firstRun_1 rfl hl (by decide) rfl (fun ls hl => ?_)
  refine lv_iconst (v := 2) hx hb d_Room_firstRun_2 (by decide) ?_
  refine lv_istore_n (lv' := [(3, .int 2), (2, .int 0), (0, .ref a0), (1, .int p1)]) hx hb d_Room_firstRun_3 rfl hl (by decide) rfl (fun ls hl => ?_)
  exact k_m_Room_firstRun_L4 X hA FU  p1 0 2 _ hm _ _ hP hD hS ls (lv_sub hl [2, 3, 1, 0] rfl)
set_option maxHeartbeats 4000000 in
set_option maxRecDepth 100000 in
theorem c_Bytes_at (l : Launch) (D : va_G) (ca : Nat → ClassId) (a0 a1 : Nat) (sz : Nat) (x : St_Bytes) (p1 : Int32) (res : Int32) (hm : m_Bytes_at x p1 = some res) : Met l y_Bytes_at (cws y_Bytes_at b_Bytes_at 2 (some .int)) (RM 0 0) (PreW D ca (wl_Bytes ca a0 a1 x) [.ref a0, .int p1] sz) (QRr (.int res) (va_A [] sz)) 0 0 (va_A [] sz) := by
  refine met_ofR (own := R_Bytes) (by decide) rfl (Nat.le_of_ble_eq_true rfl) ?_
  intro p e s m below meth c A X hA hP hD ls hl
  obtain ⟨hx, hb, hml, hr, hown, hts, hK, hlocks⟩ := id X
  have hS : va_S A s.heap s.heap [] := va_S.rf
  have hl : lv_has ls 2 [(0, .ref a0), (1, .int p1)] := hl
  unfold m_Bytes_at at hm
  refine lv_iload_n hx hb d_Bytes_at_0 rfl (lv_at hl 1 rfl) ?_
  refine lv_if_lt (tgt := 34) hx hb d_Bytes_at_1 (by decide) (fun c1 => ?_) (fun c1 => ?_)
  · replace hm := ip c1 hm
    refine lv_iconst (v := 0) hx hb d_Bytes_at_34 (by decide) ?_
    cases hm
    exact ret_ri X hS d_Bytes_at_35
  · replace hm := ineg c1 hm
    refine lv_iload_n hx hb d_Bytes_at_4 rfl (lv_at hl 1 rfl) ?_
    refine lv_aload_n hx hb d_Bytes_at_5 rfl (lv_at hl 0 rfl) ?_
    refine va_get (D := D) (ci := 1) (v := .int x.2) (C := R_Bytes) (T := F_Bytes) (N := 2) hx hb hts i_Bytes hown hK hP 0 rfl rfl 1 (by decide) (hts _ wf_Bytes_19) (fun _ h9 => h9) rfl d_Bytes_at_6 ?_
    refine lv_icmp_ge (tgt := 34) hx hb d_Bytes_at_9 (by decide) (fun c2 => ?_) (fun c2 => ?_)
    · replace hm := ip c2 hm
      refine lv_iconst (v := 0) hx hb d_Bytes_at_34 (by decide) ?_
      cases hm
      exact ret_ri X hS d_Bytes_at_35
    · replace hm := ineg c2 hm
      refine lv_iload_n hx hb d_Bytes_at_12 rfl (lv_at hl 1 rfl) ?_
      refine lv_aload_n hx hb d_Bytes_at_13 rfl (lv_at hl 0 rfl) ?_
      refine va_get (D := D) (ci := 1) (v := .ref a1) (C := R_Bytes) (T := F_Bytes) (N := 2) hx hb hts i_Bytes hown hK hP 0 rfl rfl 0 (by decide) (hts _ wf_Bytes_13) (fun _ h9 => h9) rfl d_Bytes_at_14 ?_
      refine va_alen hx hb hK hP 1 0 rfl rfl (v := nI x.1.1) rfl d_Bytes_at_17 ?_
      refine lv_icmp_ge (tgt := 34) hx hb d_Bytes_at_18 (by decide) (fun c3 => ?_) (fun c3 => ?_)
      · replace hm := ip c3 hm
        refine lv_iconst (v := 0) hx hb d_Bytes_at_34 (by decide) ?_
        cases hm
        exact ret_ri X hS d_Bytes_at_35
      · replace hm := ineg c3 hm
        refine lv_aload_n hx hb d_Bytes_at_21 rfl (lv_at hl 0 rfl) ?_
        refine va_get (D := D) (ci := 1) (v := .ref a1) (C := R_Bytes) (T := F_Bytes) (N := 2) hx hb hts i_Bytes hown hK hP 0 rfl rfl 0 (by decide) (hts _ wf_Bytes_13) (fun _ h9 => h9) rfl d_Bytes_at_22 ?_
        refine lv_iload_n hx hb d_Bytes_at_25 rfl (lv_at hl 1 rfl) ?_
        obtain ⟨b4, hm⟩ := on hm
        refine va_bald hx hb hK hP 1 0 rfl rfl b4 d_Bytes_at_26 ?_
        refine lv_sipush (v := 255) hx hb d_Bytes_at_27 (by decide) ?_
        refine lv_iand hx hb d_Bytes_at_30 ?_
        refine lv_goto (tgt := 35) hx hb d_Bytes_at_31 (by decide) ?_
        cases hm
        exact ret_ri X hS d_Bytes_at_35
set_option maxHeartbeats 4000000 in
set_option maxRecDepth 100000 in
theorem c_Log_digestStep (l : Launch) (D : va_G) (ca : Nat → ClassId)  (sz : Nat)  (p0 : Int64) (p2 : Int32) (res : Int64) (hm : m_Log_digestStep p0 p2 = some res) : Met l y_Log_digestStep (cws y_Log_digestStep b_Log_digestStep 5 (some .long)) (RM 0 0) (PreW D ca ([]) [.long p0, .int p2] sz) (QRr (.long res) (va_A [] sz)) 0 0 (va_A [] sz) := by
  refine met_ofR (own := R_Log) (by decide) rfl (Nat.le_of_ble_eq_true rfl) ?_
  intro p e s m below meth c A X hA hP hD ls hl
  obtain ⟨hx, hb, hml, hr, hown, hts, hK, hlocks⟩ := id X
  have hS : va_S A s.heap s.heap [] := va_S.rf
  have hl : lv_has ls 5 [(0, .long p0), (2, .int p2)] := hl
  unfold m_Log_digestStep at hm
  refine lv_lload_n hx hb d_Log_digestStep_0 rfl (lv_at hl 0 rfl) ?_
  refine lv_iload_n hx hb d_Log_digestStep_1 rfl (lv_at hl 1 rfl) ?_
  refine lv_i2l (v := ((p2).toInt64)) hx hb d_Log_digestStep_2 rfl ?_
  refine lv_lxor hx hb d_Log_digestStep_3 ?_
  refine lv_lstore_n (lv' := [(3, .long (p0 ^^^ ((p2).toInt64))), (0, .long p0), (2, .int p2)]) hx hb d_Log_digestStep_4 rfl hl (by decide) rfl (fun ls hl => ?_)
  refine lv_lload_n hx hb d_Log_digestStep_5 rfl (lv_at hl 0 rfl) ?_
  refine lv_bipush (v := 53) hx hb d_Log_digestStep_6 (by decide) ?_
  refine lv_lshl (v := (jlshl (p0 ^^^ ((p2).toInt64)) 53)) hx hb d_Log_digestStep_8 rfl ?_
  refine lv_lload_n hx hb d_Log_digestStep_9 rfl (lv_at hl 0 rfl) ?_
  refine lv_bipush (v := 11) hx hb d_Log_digestStep_10 (by decide) ?_
  refine lv_lushr (v := (jlushr (p0 ^^^ ((p2).toInt64)) 11)) hx hb d_Log_digestStep_12 rfl ?_
  refine lv_lor hx hb d_Log_digestStep_13 ?_
  refine lv_ldc2 hx hb hown (hts _ wc_Log_255) d_Log_digestStep_14 ?_
  refine lv_lmul hx hb d_Log_digestStep_17 ?_
  cases hm
  exact ret_rl X hS d_Log_digestStep_18
set_option maxHeartbeats 4000000 in
set_option maxRecDepth 100000 in
theorem k_m_Bytes_digest_L5 {p : Program} {l : Launch} {e : Env} {s : State} {m : MethodId} {args : Array Value} {below : List Frame} {meth : Method} {c : Code} {D : va_G} {ca : Nat → ClassId} {a0 a1 : Nat} {A : Nat → Prop} (X : Cx p s m args meth c R_Bytes b_Bytes_digest 6 (some .long) D ca) (hA : ∀ q, s.heap.size ≤ q → A q) {x : St_Bytes} : ∀ (n : Nat) (v2 : Int32) (v3 : Int64) (v5 : Int32) (res : Int64), m_Bytes_digest_L5 x n v2 v3 v5 = some res → ∀ (H : Heap) (locs : List Loc), va_P D classes (wl_Bytes ca a0 a1 x) H → va_D (fun _ => True) (wl_Bytes ca a0 a1 x) → va_S A s.heap H locs → ∀ ls : Array Slot, lv_has ls 6 [(0, .ref a0), (2, .int v2), (3, .long v3), (5, .int v5)] → W p l e (RM 1 24) s m args below meth c H locs 0 0 (MQ below (QRr (.long res) A) args s 0 0 A) (F0 m 5 ls []) := by
  obtain ⟨hx, hb, hml, hr, hown, hts, hK, hlocks⟩ := id X
  intro n
  induction n with
  | zero =>
    intro v2 v3 v5 res hm
    rw [m_Bytes_digest_L5] at hm
    cases hm
  | succ n ih =>
    intro v2 v3 v5 res hm H locs hP hD hS ls hl
    rw [m_Bytes_digest_L5] at hm
    refine lv_iload hx hb d_Bytes_digest_5 (lv_at hl 3 rfl) ?_
    refine lv_iload_n hx hb d_Bytes_digest_7 rfl (lv_at hl 1 rfl) ?_
    refine lv_icmp_ge (tgt := 28) hx hb d_Bytes_digest_8 (by decide) (fun c1 => ?_) (fun c1 => ?_)
    · replace hm := ip c1 hm
      refine lv_lload_n hx hb d_Bytes_digest_28 rfl (lv_at hl 2 rfl) ?_
      cases hm
      exact ret_rl X hS d_Bytes_digest_29
    · replace hm := ineg c1 hm
      refine lv_lload_n hx hb d_Bytes_digest_11 rfl (lv_at hl 2 rfl) ?_
      refine lv_aload_n hx hb d_Bytes_digest_12 rfl (lv_at hl 0 rfl) ?_
      refine lv_iload hx hb d_Bytes_digest_13 (lv_at hl 3 rfl) ?_
      obtain ⟨q2, hq2, hm⟩ := ob hm
      refine inv_rVa (C := R_Bytes) (As := [.int v5]) (rest := [.long v3]) (v := .int q2) X (c_Bytes_at l D ca a0 a1 _ x v5 q2 hq2) g_Bytes_23 yo_Bytes_at ⟨Nat.le_of_ble_eq_true rfl, Nat.le_of_ble_eq_true rfl⟩ hl hP hD (ci := 1) rfl rfl hS hA rfl rfl (Nat.le_of_ble_eq_true rfl) ⟨Nat.zero_le _, Nat.zero_le _⟩ d_Bytes_digest_15 (fun H locs hP hS => ?_)
      obtain ⟨q3, hq3, hm⟩ := ob hm
      refine inv_rSN (As := [.long v3, .int q2]) (rest := []) (v := .long q3) X (c_Log_digestStep l D ca  _ v3 q2 q3 hq3) g_Bytes_35 yo_Log_digestStep.2 ⟨Nat.le_of_ble_eq_true rfl, Nat.le_of_ble_eq_true rfl⟩ hl hP hD [] rfl rfl hS hA rfl rfl (Nat.le_of_ble_eq_true rfl) ⟨Nat.zero_le _, Nat.zero_le _⟩ d_Bytes_digest_18 (fun H locs hP hS => ?_)
      refine lv_lstore_n (lv' := [(3, .long q3), (0, .ref a0), (2, .int v2), (5, .int v5)]) hx hb d_Bytes_digest_21 rfl hl (by decide) rfl (fun ls hl => ?_)
      refine lv_iinc (v := (v5 + 1)) (lv' := [(5, .int (v5 + 1)), (3, .long q3), (0, .ref a0), (2, .int v2)]) hx hb d_Bytes_digest_22 hl (k := 3) rfl rfl (by decide) rfl (fun ls hl => ?_)
      refine lv_goto (tgt := 5) hx hb d_Bytes_digest_25 (by decide) ?_
      exact ih  v2 q3 (v5 + 1) _ hm _ _ hP hD hS ls (lv_sub hl [2, 3, 1, 0] rfl)
set_option maxHeartbeats 4000000 in
set_option maxRecDepth 100000 in
theorem c_Bytes_digest (l : Launch) (D : va_G) (ca : Nat → ClassId) (a0 a1 : Nat) (sz : Nat) (x : St_Bytes) (p1 : Int32) (p2 : Int32) (res : Int64) (hm : m_Bytes_digest x p1 p2 = some res) : Met l y_Bytes_digest (cws y_Bytes_digest b_Bytes_digest 6 (some .long)) (RM 1 24) (PreW D ca (wl_Bytes ca a0 a1 x) [.ref a0, .int p1, .int p2] sz) (QRr (.long res) (va_A [] sz)) 0 0 (va_A [] sz) := by
  refine met_ofR (own := R_Bytes) (by decide) rfl (Nat.le_of_ble_eq_true rfl) ?_
  intro p e s m below meth c A X hA hP hD ls hl
  obtain ⟨hx, hb, hml, hr, hown, hts, hK, hlocks⟩ := id X
  have hS : va_S A s.heap s.heap [] := va_S.rf
  have hl : lv_has ls 6 [(0, .ref a0), (1, .int p1), (2, .int p2)] := hl
  unfold m_Bytes_digest at hm
  refine lv_lconst (v := 0) hx hb d_Bytes_digest_0 (by decide) ?_
  refine lv_lstore_n (lv' := [(3, .long 0), (0, .ref a0), (1, .int p1), (2, .int p2)]) hx hb d_Bytes_digest_1 rfl hl (by decide) rfl (fun ls hl => ?_)
  refine lv_iload_n hx hb d_Bytes_digest_2 rfl (lv_at hl 2 rfl) ?_
  refine lv_istore (lv' := [(5, .int p1), (3, .long 0), (0, .ref a0), (1, .int p1), (2, .int p2)]) hx hb d_Bytes_digest_3 hl (by decide) rfl (fun ls hl => ?_)
  exact k_m_Bytes_digest_L5 X hA FU  p2 0 p1 _ hm _ _ hP hD hS ls (lv_sub hl [2, 4, 1, 0] rfl)
set_option maxHeartbeats 4000000 in
set_option maxRecDepth 100000 in
theorem k_m_Room_set_L3 {p : Program} {l : Launch} {e : Env} {s : State} {m : MethodId} {args : Array Value} {below : List Frame} {meth : Method} {c : Code} {D : va_G} {ca : Nat → ClassId} {a0 a1 : Nat} {A : Nat → Prop} (X : Cx p s m args meth c R_Room b_Room_set 6 none D ca) (hA : ∀ q, s.heap.size ≤ q → A q)  : ∀ (n : Nat) (x : St_Room) (v1 : Int32) (v2 : Int32) (v3 : Int32) (v4 : Int32) (res : St_Room), m_Room_set_L3  n x v1 v2 v3 v4 = some res → ∀ (H : Heap) (locs : List Loc), va_P D classes (wl_Room ca a0 a1 x) H → va_D A (wl_Room ca a0 a1 x) → va_S A s.heap H locs → ∀ ls : Array Slot, lv_has ls 6 [(0, .ref a0), (1, .int v1), (2, .int v2), (3, .int v3), (4, .int v4)] → W p l e (RM 0 0) s m args below meth c H locs 0 0 (MQ below (QRm D none (wl_Room ca a0 a1 res) A) args s 0 0 A) (F0 m 3 ls []) := by
  obtain ⟨hx, hb, hml, hr, hown, hts, hK, hlocks⟩ := id X
  intro n
  induction n with
  | zero =>
    intro x v1 v2 v3 v4 res hm
    rw [m_Room_set_L3] at hm
    cases hm
  | succ n ih =>
    intro x v1 v2 v3 v4 res hm H locs hP hD hS ls hl
    rw [m_Room_set_L3] at hm
    refine lv_iload hx hb d_Room_set_3 (lv_at hl 4 rfl) ?_
    refine lv_iload_n hx hb d_Room_set_5 rfl (lv_at hl 2 rfl) ?_
    refine lv_icmp_ge (tgt := 44) hx hb d_Room_set_6 (by decide) (fun c1 => ?_) (fun c1 => ?_)
    · replace hm := ip c1 hm
      cases hm
      exact ret_mv X hP hS d_Room_set_44
    · replace hm := ineg c1 hm
      refine lv_iload_n hx hb d_Room_set_9 rfl (lv_at hl 1 rfl) ?_
      refine lv_iload hx hb d_Room_set_10 (lv_at hl 4 rfl) ?_
      refine lv_iadd hx hb d_Room_set_12 ?_
      refine lv_istore (lv' := [(5, .int (v1 + v4)), (0, .ref a0), (1, .int v1), (2, .int v2), (3, .int v3), (4, .int v4)]) hx hb d_Room_set_13 hl (by decide) rfl (fun ls hl => ?_)
      refine lv_iload hx hb d_Room_set_15 (lv_at hl 0 rfl) ?_
      refine lv_if_lt (tgt := 38) hx hb d_Room_set_17 (by decide) (fun c2 => ?_) (fun c2 => ?_)
      · replace hm := ip c2 hm
        refine lv_iinc (v := (v4 + 1)) (lv' := [(4, .int (v4 + 1)), (5, .int (v1 + v4)), (0, .ref a0), (1, .int v1), (2, .int v2), (3, .int v3)]) hx hb d_Room_set_38 hl (k := 5) rfl rfl (by decide) rfl (fun ls hl => ?_)
        refine lv_goto (tgt := 3) hx hb d_Room_set_41 (by decide) ?_
        exact ih x v1 v2 v3 (v4 + 1) _ hm _ _ hP hD hS ls (lv_sub hl [2, 3, 4, 5, 0] rfl)
      · replace hm := ineg c2 hm
        refine lv_iload hx hb d_Room_set_20 (lv_at hl 0 rfl) ?_
        refine lv_aload_n hx hb d_Room_set_22 rfl (lv_at hl 1 rfl) ?_
        refine va_get (D := D) (ci := 2) (v := .ref a1) (C := R_Room) (T := F_Room) (N := 1) hx hb hts i_Room hown hK hP 0 rfl rfl 0 (by decide) (hts _ wf_Room_15) (fun _ h9 => h9) rfl d_Room_set_23 ?_
        refine va_alen hx hb hK hP 1 1 rfl rfl (v := nI x.1) rfl d_Room_set_26 ?_
        refine lv_icmp_ge (tgt := 38) hx hb d_Room_set_27 (by decide) (fun c3 => ?_) (fun c3 => ?_)
        · replace hm := ip c3 hm
          refine lv_iinc (v := (v4 + 1)) (lv' := [(4, .int (v4 + 1)), (5, .int (v1 + v4)), (0, .ref a0), (1, .int v1), (2, .int v2), (3, .int v3)]) hx hb d_Room_set_38 hl (k := 5) rfl rfl (by decide) rfl (fun ls hl => ?_)
          refine lv_goto (tgt := 3) hx hb d_Room_set_41 (by decide) ?_
          exact ih x v1 v2 v3 (v4 + 1) _ hm _ _ hP hD hS ls (lv_sub hl [2, 3, 4, 5, 0] rfl)
        · replace hm := ineg c3 hm
          refine lv_aload_n hx hb d_Room_set_30 rfl (lv_at hl 1 rfl) ?_
          refine va_get (D := D) (ci := 2) (v := .ref a1) (C := R_Room) (T := F_Room) (N := 1) hx hb hts i_Room hown hK hP 0 rfl rfl 0 (by decide) (hts _ wf_Room_15) (fun _ h9 => h9) rfl d_Room_set_31 ?_
          refine lv_iload hx hb d_Room_set_34 (lv_at hl 0 rfl) ?_
          refine lv_iload_n hx hb d_Room_set_36 rfl (lv_at hl 4 rfl) ?_
          obtain ⟨b4, hm⟩ := on hm
          refine va_zast hx hb hK hP hD hS 1 1 rfl rfl b4 d_Room_set_37 (fun H locs hP hD hS => ?_)
          replace hP : va_P D classes (wl_Room ca a0 a1 (x.1, upd x.2 ((v1 + v4)).toNatClampNeg (vp_nar .boolean v3))) H := hP
          replace hD : va_D A (wl_Room ca a0 a1 (x.1, upd x.2 ((v1 + v4)).toNatClampNeg (vp_nar .boolean v3))) := hD
          refine lv_iinc (v := (v4 + 1)) (lv' := [(4, .int (v4 + 1)), (5, .int (v1 + v4)), (0, .ref a0), (1, .int v1), (2, .int v2), (3, .int v3)]) hx hb d_Room_set_38 hl (k := 5) rfl rfl (by decide) rfl (fun ls hl => ?_)
          refine lv_goto (tgt := 3) hx hb d_Room_set_41 (by decide) ?_
          exact ih (x.1, upd x.2 ((v1 + v4)).toNatClampNeg (vp_nar .boolean v3)) v1 v2 v3 (v4 + 1) _ hm _ _ hP hD hS ls (lv_sub hl [2, 3, 4, 5, 0] rfl)
set_option maxHeartbeats 4000000 in
set_option maxRecDepth 100000 in
theorem c_Room_set (l : Launch) (D : va_G) (ca : Nat → ClassId) (a0 a1 : Nat) (sz : Nat) (x : St_Room) (p1 : Int32) (p2 : Int32) (p3 : Int32) (res : St_Room) (hm : m_Room_set x p1 p2 p3 = some res) : Met l y_Room_set (cws y_Room_set b_Room_set 6 none) (RM 0 0) (PreW D ca (wl_Room ca a0 a1 x) [.ref a0, .int p1, .int p2, .int p3] sz) (QRm D none (wl_Room ca a0 a1 res) (va_A (wl_Room ca a0 a1 x) sz)) 0 0 (va_A (wl_Room ca a0 a1 x) sz) := by
  refine met_ofM (own := R_Room) (by decide) rfl (Nat.le_of_ble_eq_true rfl) ?_
  intro p e s m below meth c A X hA hP hD ls hl
  obtain ⟨hx, hb, hml, hr, hown, hts, hK, hlocks⟩ := id X
  have hS : va_S A s.heap s.heap [] := va_S.rf
  have hl : lv_has ls 6 [(0, .ref a0), (1, .int p1), (2, .int p2), (3, .int p3)] := hl
  unfold m_Room_set at hm
  refine lv_iconst (v := 0) hx hb d_Room_set_0 (by decide) ?_
  refine lv_istore (lv' := [(4, .int 0), (0, .ref a0), (1, .int p1), (2, .int p2), (3, .int p3)]) hx hb d_Room_set_1 hl (by decide) rfl (fun ls hl => ?_)
  exact k_m_Room_set_L3 X hA FU x p1 p2 p3 0 _ hm _ _ hP hD hS ls (lv_sub hl [1, 2, 3, 4, 0] rfl)
set_option maxHeartbeats 4000000 in
set_option maxRecDepth 100000 in
theorem c_Room_take (l : Launch) (D : va_G) (ca : Nat → ClassId) (a0 a1 : Nat) (sz : Nat) (x : St_Room) (p1 : Int32) (p2 : Int32) (res : St_Room) (hm : m_Room_take x p1 p2 = some res) : Met l y_Room_take (cws y_Room_take b_Room_take 3 none) (RM 1 25) (PreW D ca (wl_Room ca a0 a1 x) [.ref a0, .int p1, .int p2] sz) (QRm D none (wl_Room ca a0 a1 res) (va_A (wl_Room ca a0 a1 x) sz)) 0 0 (va_A (wl_Room ca a0 a1 x) sz) := by
  refine met_ofM (own := R_Room) (by decide) rfl (Nat.le_of_ble_eq_true rfl) ?_
  intro p e s m below meth c A X hA hP hD ls hl
  obtain ⟨hx, hb, hml, hr, hown, hts, hK, hlocks⟩ := id X
  have hS : va_S A s.heap s.heap [] := va_S.rf
  have hl : lv_has ls 3 [(0, .ref a0), (1, .int p1), (2, .int p2)] := hl
  unfold m_Room_take at hm
  refine lv_aload_n hx hb d_Room_take_0 rfl (lv_at hl 0 rfl) ?_
  refine lv_iload_n hx hb d_Room_take_1 rfl (lv_at hl 1 rfl) ?_
  refine lv_iload_n hx hb d_Room_take_2 rfl (lv_at hl 2 rfl) ?_
  refine lv_iconst (v := 1) hx hb d_Room_take_3 (by decide) ?_
  obtain ⟨q1, hq1, hm⟩ := ob hm
  refine inv_mUa (C := R_Room) (As := [.int p1, .int p2, .int 1]) (rest := []) X (c_Room_set l D ca a0 a1 _ x p1 p2 1 q1 hq1) g_Room_21 yo_Room_set ⟨Nat.le_of_ble_eq_true rfl, Nat.le_of_ble_eq_true rfl⟩ hl hP hD rfl (ci := 2) rfl rfl hS hA rfl rfl (Nat.le_of_ble_eq_true rfl) ⟨Nat.zero_le _, Nat.zero_le _⟩ d_Room_take_4 (fun H locs hP hD hS => ?_)
  cases hm
  exact ret_mv X hP hS d_Room_take_7
set_option maxHeartbeats 4000000 in
set_option maxRecDepth 100000 in
theorem c_Medium_has (l : Launch) (D : va_G) (ca : Nat → ClassId) (a0 a1 : Nat) (sz : Nat) (x : St_Medium) (p1 : Int32) (p2 : Int32) (res : Int32) (hm : m_Medium_has x p1 p2 = some res) : Met l y_Medium_has (cws y_Medium_has b_Medium_has 3 (some .boolean)) (RM 0 0) (PreW D ca (wl_Medium ca a0 a1 x) [.ref a0, .int p1, .int p2] sz) (QRr (.int res) (va_A [] sz)) 0 0 (va_A [] sz) := by
  refine met_ofR (own := R_Medium) (by decide) rfl (Nat.le_of_ble_eq_true rfl) ?_
  intro p e s m below meth c A X hA hP hD ls hl
  obtain ⟨hx, hb, hml, hr, hown, hts, hK, hlocks⟩ := id X
  have hS : va_S A s.heap s.heap [] := va_S.rf
  have hl : lv_has ls 3 [(0, .ref a0), (1, .int p1), (2, .int p2)] := hl
  unfold m_Medium_has at hm
  refine lv_iload_n hx hb d_Medium_has_0 rfl (lv_at hl 1 rfl) ?_
  refine lv_if_lt (tgt := 26) hx hb d_Medium_has_1 (by decide) (fun c1 => ?_) (fun c1 => ?_)
  · replace hm := ip c1 hm
    refine lv_iconst (v := 0) hx hb d_Medium_has_26 (by decide) ?_
    cases hm
    exact ret_rz X nz0 hS d_Medium_has_27
  · replace hm := ineg c1 hm
    refine lv_iload_n hx hb d_Medium_has_4 rfl (lv_at hl 1 rfl) ?_
    refine lv_aload_n hx hb d_Medium_has_5 rfl (lv_at hl 0 rfl) ?_
    refine va_get (D := D) (ci := 0) (v := .int x.1) (C := R_Medium) (T := F_Medium) (N := 4) hx hb hts i_Medium hown hK hP 0 rfl rfl 0 (by decide) (hts _ wf_Medium_18) (fun _ h9 => h9) rfl d_Medium_has_6 ?_
    refine lv_icmp_ge (tgt := 26) hx hb d_Medium_has_9 (by decide) (fun c2 => ?_) (fun c2 => ?_)
    · replace hm := ip c2 hm
      refine lv_iconst (v := 0) hx hb d_Medium_has_26 (by decide) ?_
      cases hm
      exact ret_rz X nz0 hS d_Medium_has_27
    · replace hm := ineg c2 hm
      refine lv_iload_n hx hb d_Medium_has_12 rfl (lv_at hl 2 rfl) ?_
      refine lv_if_lt (tgt := 26) hx hb d_Medium_has_13 (by decide) (fun c3 => ?_) (fun c3 => ?_)
      · replace hm := ip c3 hm
        refine lv_iconst (v := 0) hx hb d_Medium_has_26 (by decide) ?_
        cases hm
        exact ret_rz X nz0 hS d_Medium_has_27
      · replace hm := ineg c3 hm
        refine lv_iload_n hx hb d_Medium_has_16 rfl (lv_at hl 2 rfl) ?_
        refine lv_bipush (v := 32) hx hb d_Medium_has_17 (by decide) ?_
        refine lv_icmp_ge (tgt := 26) hx hb d_Medium_has_19 (by decide) (fun c4 => ?_) (fun c4 => ?_)
        · replace hm := ip c4 hm
          refine lv_iconst (v := 0) hx hb d_Medium_has_26 (by decide) ?_
          cases hm
          exact ret_rz X nz0 hS d_Medium_has_27
        · replace hm := ineg c4 hm
          refine lv_iconst (v := 1) hx hb d_Medium_has_22 (by decide) ?_
          refine lv_goto (tgt := 27) hx hb d_Medium_has_23 (by decide) ?_
          cases hm
          exact ret_rz X nz1 hS d_Medium_has_27
set_option maxHeartbeats 4000000 in
set_option maxRecDepth 100000 in
theorem c_Medium_writeByte (l : Launch) (D : va_G) (ca : Nat → ClassId) (a0 a1 : Nat) (sz : Nat) (x : St_Medium) (p1 : Int32) (p2 : Int32) (p3 : Int32) (res : Int32 × St_Medium) (hm : m_Medium_writeByte x p1 p2 p3 = some res) : Met l y_Medium_writeByte (cws y_Medium_writeByte b_Medium_writeByte 4 (some .boolean)) (RM 1 22) (PreW D ca (wl_Medium ca a0 a1 x) [.ref a0, .int p1, .int p2, .int p3] sz) (QRm D (some (.int res.1)) (wl_Medium ca a0 a1 res.2) (va_A (wl_Medium ca a0 a1 x) sz)) 0 0 (va_A (wl_Medium ca a0 a1 x) sz) := by
  refine met_ofM (own := R_Medium) (by decide) rfl (Nat.le_of_ble_eq_true rfl) ?_
  intro p e s m below meth c A X hA hP hD ls hl
  obtain ⟨hx, hb, hml, hr, hown, hts, hK, hlocks⟩ := id X
  have hS : va_S A s.heap s.heap [] := va_S.rf
  have hl : lv_has ls 4 [(0, .ref a0), (1, .int p1), (2, .int p2), (3, .int p3)] := hl
  unfold m_Medium_writeByte at hm
  refine lv_aload_n hx hb d_Medium_writeByte_0 rfl (lv_at hl 0 rfl) ?_
  refine va_get (D := D) (ci := 0) (v := .int x.2.2.1) (C := R_Medium) (T := F_Medium) (N := 4) hx hb hts i_Medium hown hK hP 0 rfl rfl 2 (by decide) (hts _ wf_Medium_28) (fun _ h9 => h9) rfl d_Medium_writeByte_1 ?_
  refine lv_if_ne (tgt := 14) hx hb d_Medium_writeByte_4 (by decide) (fun c1 => ?_) (fun c1 => ?_)
  · replace hm := ineg c1 hm
    refine lv_aload_n hx hb d_Medium_writeByte_14 rfl (lv_at hl 0 rfl) ?_
    refine va_get (D := D) (ci := 0) (v := .int x.2.2.1) (C := R_Medium) (T := F_Medium) (N := 4) hx hb hts i_Medium hown hK hP 0 rfl rfl 2 (by decide) (hts _ wf_Medium_28) (fun _ h9 => h9) rfl d_Medium_writeByte_15 ?_
    refine lv_if_le (tgt := 31) hx hb d_Medium_writeByte_18 (by decide) (fun c2 => ?_) (fun c2 => ?_)
    · replace hm := ip c2 hm
      refine lv_aload_n hx hb d_Medium_writeByte_31 rfl (lv_at hl 0 rfl) ?_
      refine lv_iload_n hx hb d_Medium_writeByte_32 rfl (lv_at hl 1 rfl) ?_
      refine lv_iload_n hx hb d_Medium_writeByte_33 rfl (lv_at hl 2 rfl) ?_
      obtain ⟨q3, hq3, hm⟩ := ob hm
      refine inv_rVa (C := R_Medium) (As := [.int p1, .int p2]) (rest := []) (v := .int q3) X (c_Medium_has l D ca a0 a1 _ x p1 p2 q3 hq3) g_Medium_34 yo_Medium_has ⟨Nat.le_of_ble_eq_true rfl, Nat.le_of_ble_eq_true rfl⟩ hl hP hD (ci := 0) rfl rfl hS hA rfl rfl (Nat.le_of_ble_eq_true rfl) ⟨Nat.zero_le _, Nat.zero_le _⟩ d_Medium_writeByte_34 (fun H locs hP hS => ?_)
      refine lv_if_eq (tgt := 53) hx hb d_Medium_writeByte_37 (by decide) (fun c4 => ?_) (fun c4 => ?_)
      · replace hm := ip c4 hm
        refine lv_aload_n hx hb d_Medium_writeByte_53 rfl (lv_at hl 0 rfl) ?_
        refine lv_dup hx hb d_Medium_writeByte_54 rfl ?_
        refine va_get (D := D) (ci := 0) (v := .int x.2.2.2) (C := R_Medium) (T := F_Medium) (N := 4) hx hb hts i_Medium hown hK hP 0 rfl rfl 3 (by decide) (hts _ wf_Medium_31) (fun _ h9 => h9) rfl d_Medium_writeByte_55 ?_
        refine lv_iconst (v := 1) hx hb d_Medium_writeByte_58 (by decide) ?_
        refine lv_iadd hx hb d_Medium_writeByte_59 ?_
        refine va_put (D := D) (ci := 0) (v := .int (x.2.2.2 + 1)) (ty := .int) (C := R_Medium) (T := F_Medium) (N := 4) hx hb hts i_Medium t_Medium t_Medium_ok n_Medium hown hK hP hD hS 0 rfl rfl 3 (by decide) (hts _ wf_Medium_31) (fun _ h9 => h9) rfl (by decide +kernel) rfl rfl (Nat.le_of_ble_eq_true rfl) d_Medium_writeByte_60 (fun H locs hP hD hS => ?_)
        replace hP : va_P D classes (wl_Medium ca a0 a1 (x.1, x.2.1, x.2.2.1, (x.2.2.2 + 1))) H := hP
        replace hD : va_D A (wl_Medium ca a0 a1 (x.1, x.2.1, x.2.2.1, (x.2.2.2 + 1))) := hD
        refine lv_iconst (v := 1) hx hb d_Medium_writeByte_63 (by decide) ?_
        cases hm
        exact ret_mz X nz1 hP hS d_Medium_writeByte_64
      · replace hm := ineg c4 hm
        refine lv_aload_n hx hb d_Medium_writeByte_40 rfl (lv_at hl 0 rfl) ?_
        refine va_get (D := D) (ci := 0) (v := .ref a1) (C := R_Medium) (T := F_Medium) (N := 4) hx hb hts i_Medium hown hK hP 0 rfl rfl 1 (by decide) (hts _ wf_Medium_24) (fun _ h9 => h9) rfl d_Medium_writeByte_41 ?_
        refine lv_iload_n hx hb d_Medium_writeByte_44 rfl (lv_at hl 1 rfl) ?_
        refine lv_bipush (v := 32) hx hb d_Medium_writeByte_45 (by decide) ?_
        refine lv_imul hx hb d_Medium_writeByte_47 ?_
        refine lv_iload_n hx hb d_Medium_writeByte_48 rfl (lv_at hl 2 rfl) ?_
        refine lv_iadd hx hb d_Medium_writeByte_49 ?_
        refine lv_iload_n hx hb d_Medium_writeByte_50 rfl (lv_at hl 3 rfl) ?_
        refine lv_i2b (v := ((p3).toInt8.toInt32)) hx hb d_Medium_writeByte_51 rfl ?_
        obtain ⟨b5, hm⟩ := on hm
        refine va_bast hx hb hK hP hD hS 1 0 rfl rfl b5 d_Medium_writeByte_52 (fun H locs hP hD hS => ?_)
        replace hP : va_P D classes (wl_Medium ca a0 a1 (x.1, (x.2.1.1, upd x.2.1.2 (((p1 * 32) + p2)).toNatClampNeg (vp_nar .byte ((p3).toInt8.toInt32))), x.2.2.1, x.2.2.2)) H := hP
        replace hD : va_D A (wl_Medium ca a0 a1 (x.1, (x.2.1.1, upd x.2.1.2 (((p1 * 32) + p2)).toNatClampNeg (vp_nar .byte ((p3).toInt8.toInt32))), x.2.2.1, x.2.2.2)) := hD
        refine lv_aload_n hx hb d_Medium_writeByte_53 rfl (lv_at hl 0 rfl) ?_
        refine lv_dup hx hb d_Medium_writeByte_54 rfl ?_
        refine va_get (D := D) (ci := 0) (v := .int x.2.2.2) (C := R_Medium) (T := F_Medium) (N := 4) hx hb hts i_Medium hown hK hP 0 rfl rfl 3 (by decide) (hts _ wf_Medium_31) (fun _ h9 => h9) rfl d_Medium_writeByte_55 ?_
        refine lv_iconst (v := 1) hx hb d_Medium_writeByte_58 (by decide) ?_
        refine lv_iadd hx hb d_Medium_writeByte_59 ?_
        refine va_put (D := D) (ci := 0) (v := .int (x.2.2.2 + 1)) (ty := .int) (C := R_Medium) (T := F_Medium) (N := 4) hx hb hts i_Medium t_Medium t_Medium_ok n_Medium hown hK hP hD hS 0 rfl rfl 3 (by decide) (hts _ wf_Medium_31) (fun _ h9 => h9) rfl (by decide +kernel) rfl rfl (Nat.le_of_ble_eq_true rfl) d_Medium_writeByte_60 (fun H locs hP hD hS => ?_)
        replace hP : va_P D classes (wl_Medium ca a0 a1 (x.1, (x.2.1.1, upd x.2.1.2 (((p1 * 32) + p2)).toNatClampNeg (vp_nar .byte ((p3).toInt8.toInt32))), x.2.2.1, (x.2.2.2 + 1))) H := hP
        replace hD : va_D A (wl_Medium ca a0 a1 (x.1, (x.2.1.1, upd x.2.1.2 (((p1 * 32) + p2)).toNatClampNeg (vp_nar .byte ((p3).toInt8.toInt32))), x.2.2.1, (x.2.2.2 + 1))) := hD
        refine lv_iconst (v := 1) hx hb d_Medium_writeByte_63 (by decide) ?_
        cases hm
        exact ret_mz X nz1 hP hS d_Medium_writeByte_64
    · replace hm := ineg c2 hm
      refine lv_aload_n hx hb d_Medium_writeByte_21 rfl (lv_at hl 0 rfl) ?_
      refine lv_dup hx hb d_Medium_writeByte_22 rfl ?_
      refine va_get (D := D) (ci := 0) (v := .int x.2.2.1) (C := R_Medium) (T := F_Medium) (N := 4) hx hb hts i_Medium hown hK hP 0 rfl rfl 2 (by decide) (hts _ wf_Medium_28) (fun _ h9 => h9) rfl d_Medium_writeByte_23 ?_
      refine lv_iconst (v := 1) hx hb d_Medium_writeByte_26 (by decide) ?_
      refine lv_isub hx hb d_Medium_writeByte_27 ?_
      refine va_put (D := D) (ci := 0) (v := .int (x.2.2.1 - 1)) (ty := .int) (C := R_Medium) (T := F_Medium) (N := 4) hx hb hts i_Medium t_Medium t_Medium_ok n_Medium hown hK hP hD hS 0 rfl rfl 2 (by decide) (hts _ wf_Medium_28) (fun _ h9 => h9) rfl (by decide +kernel) rfl rfl (Nat.le_of_ble_eq_true rfl) d_Medium_writeByte_28 (fun H locs hP hD hS => ?_)
      replace hP : va_P D classes (wl_Medium ca a0 a1 (x.1, x.2.1, (x.2.2.1 - 1), x.2.2.2)) H := hP
      replace hD : va_D A (wl_Medium ca a0 a1 (x.1, x.2.1, (x.2.2.1 - 1), x.2.2.2)) := hD
      refine lv_aload_n hx hb d_Medium_writeByte_31 rfl (lv_at hl 0 rfl) ?_
      refine lv_iload_n hx hb d_Medium_writeByte_32 rfl (lv_at hl 1 rfl) ?_
      refine lv_iload_n hx hb d_Medium_writeByte_33 rfl (lv_at hl 2 rfl) ?_
      obtain ⟨q6, hq6, hm⟩ := ob hm
      refine inv_rVa (C := R_Medium) (As := [.int p1, .int p2]) (rest := []) (v := .int q6) X (c_Medium_has l D ca a0 a1 _ (x.1, x.2.1, (x.2.2.1 - 1), x.2.2.2) p1 p2 q6 hq6) g_Medium_34 yo_Medium_has ⟨Nat.le_of_ble_eq_true rfl, Nat.le_of_ble_eq_true rfl⟩ hl hP hD (ci := 0) rfl rfl hS hA rfl rfl (Nat.le_of_ble_eq_true rfl) ⟨Nat.zero_le _, Nat.zero_le _⟩ d_Medium_writeByte_34 (fun H locs hP hS => ?_)
      refine lv_if_eq (tgt := 53) hx hb d_Medium_writeByte_37 (by decide) (fun c7 => ?_) (fun c7 => ?_)
      · replace hm := ip c7 hm
        refine lv_aload_n hx hb d_Medium_writeByte_53 rfl (lv_at hl 0 rfl) ?_
        refine lv_dup hx hb d_Medium_writeByte_54 rfl ?_
        refine va_get (D := D) (ci := 0) (v := .int x.2.2.2) (C := R_Medium) (T := F_Medium) (N := 4) hx hb hts i_Medium hown hK hP 0 rfl rfl 3 (by decide) (hts _ wf_Medium_31) (fun _ h9 => h9) rfl d_Medium_writeByte_55 ?_
        refine lv_iconst (v := 1) hx hb d_Medium_writeByte_58 (by decide) ?_
        refine lv_iadd hx hb d_Medium_writeByte_59 ?_
        refine va_put (D := D) (ci := 0) (v := .int (x.2.2.2 + 1)) (ty := .int) (C := R_Medium) (T := F_Medium) (N := 4) hx hb hts i_Medium t_Medium t_Medium_ok n_Medium hown hK hP hD hS 0 rfl rfl 3 (by decide) (hts _ wf_Medium_31) (fun _ h9 => h9) rfl (by decide +kernel) rfl rfl (Nat.le_of_ble_eq_true rfl) d_Medium_writeByte_60 (fun H locs hP hD hS => ?_)
        replace hP : va_P D classes (wl_Medium ca a0 a1 (x.1, x.2.1, (x.2.2.1 - 1), (x.2.2.2 + 1))) H := hP
        replace hD : va_D A (wl_Medium ca a0 a1 (x.1, x.2.1, (x.2.2.1 - 1), (x.2.2.2 + 1))) := hD
        refine lv_iconst (v := 1) hx hb d_Medium_writeByte_63 (by decide) ?_
        cases hm
        exact ret_mz X nz1 hP hS d_Medium_writeByte_64
      · replace hm := ineg c7 hm
        refine lv_aload_n hx hb d_Medium_writeByte_40 rfl (lv_at hl 0 rfl) ?_
        refine va_get (D := D) (ci := 0) (v := .ref a1) (C := R_Medium) (T := F_Medium) (N := 4) hx hb hts i_Medium hown hK hP 0 rfl rfl 1 (by decide) (hts _ wf_Medium_24) (fun _ h9 => h9) rfl d_Medium_writeByte_41 ?_
        refine lv_iload_n hx hb d_Medium_writeByte_44 rfl (lv_at hl 1 rfl) ?_
        refine lv_bipush (v := 32) hx hb d_Medium_writeByte_45 (by decide) ?_
        refine lv_imul hx hb d_Medium_writeByte_47 ?_
        refine lv_iload_n hx hb d_Medium_writeByte_48 rfl (lv_at hl 2 rfl) ?_
        refine lv_iadd hx hb d_Medium_writeByte_49 ?_
        refine lv_iload_n hx hb d_Medium_writeByte_50 rfl (lv_at hl 3 rfl) ?_
        refine lv_i2b (v := ((p3).toInt8.toInt32)) hx hb d_Medium_writeByte_51 rfl ?_
        obtain ⟨b8, hm⟩ := on hm
        refine va_bast hx hb hK hP hD hS 1 0 rfl rfl b8 d_Medium_writeByte_52 (fun H locs hP hD hS => ?_)
        replace hP : va_P D classes (wl_Medium ca a0 a1 (x.1, (x.2.1.1, upd x.2.1.2 (((p1 * 32) + p2)).toNatClampNeg (vp_nar .byte ((p3).toInt8.toInt32))), (x.2.2.1 - 1), x.2.2.2)) H := hP
        replace hD : va_D A (wl_Medium ca a0 a1 (x.1, (x.2.1.1, upd x.2.1.2 (((p1 * 32) + p2)).toNatClampNeg (vp_nar .byte ((p3).toInt8.toInt32))), (x.2.2.1 - 1), x.2.2.2)) := hD
        refine lv_aload_n hx hb d_Medium_writeByte_53 rfl (lv_at hl 0 rfl) ?_
        refine lv_dup hx hb d_Medium_writeByte_54 rfl ?_
        refine va_get (D := D) (ci := 0) (v := .int x.2.2.2) (C := R_Medium) (T := F_Medium) (N := 4) hx hb hts i_Medium hown hK hP 0 rfl rfl 3 (by decide) (hts _ wf_Medium_31) (fun _ h9 => h9) rfl d_Medium_writeByte_55 ?_
        refine lv_iconst (v := 1) hx hb d_Medium_writeByte_58 (by decide) ?_
        refine lv_iadd hx hb d_Medium_writeByte_59 ?_
        refine va_put (D := D) (ci := 0) (v := .int (x.2.2.2 + 1)) (ty := .int) (C := R_Medium) (T := F_Medium) (N := 4) hx hb hts i_Medium t_Medium t_Medium_ok n_Medium hown hK hP hD hS 0 rfl rfl 3 (by decide) (hts _ wf_Medium_31) (fun _ h9 => h9) rfl (by decide +kernel) rfl rfl (Nat.le_of_ble_eq_true rfl) d_Medium_writeByte_60 (fun H locs hP hD hS => ?_)
        replace hP : va_P D classes (wl_Medium ca a0 a1 (x.1, (x.2.1.1, upd x.2.1.2 (((p1 * 32) + p2)).toNatClampNeg (vp_nar .byte ((p3).toInt8.toInt32))), (x.2.2.1 - 1), (x.2.2.2 + 1))) H := hP
        replace hD : va_D A (wl_Medium ca a0 a1 (x.1, (x.2.1.1, upd x.2.1.2 (((p1 * 32) + p2)).toNatClampNeg (vp_nar .byte ((p3).toInt8.toInt32))), (x.2.2.1 - 1), (x.2.2.2 + 1))) := hD
        refine lv_iconst (v := 1) hx hb d_Medium_writeByte_63 (by decide) ?_
        cases hm
        exact ret_mz X nz1 hP hS d_Medium_writeByte_64
  · replace hm := ip c1 hm
    refine lv_aload_n hx hb d_Medium_writeByte_7 rfl (lv_at hl 0 rfl) ?_
    refine lv_iconst (v := (-1)) hx hb d_Medium_writeByte_8 (by decide) ?_
    refine va_put (D := D) (ci := 0) (v := .int (-1)) (ty := .int) (C := R_Medium) (T := F_Medium) (N := 4) hx hb hts i_Medium t_Medium t_Medium_ok n_Medium hown hK hP hD hS 0 rfl rfl 2 (by decide) (hts _ wf_Medium_28) (fun _ h9 => h9) rfl (by decide +kernel) rfl rfl (Nat.le_of_ble_eq_true rfl) d_Medium_writeByte_9 (fun H locs hP hD hS => ?_)
    replace hP : va_P D classes (wl_Medium ca a0 a1 (x.1, x.2.1, (-1), x.2.2.2)) H := hP
    replace hD : va_D A (wl_Medium ca a0 a1 (x.1, x.2.1, (-1), x.2.2.2)) := hD
    refine lv_iconst (v := 0) hx hb d_Medium_writeByte_12 (by decide) ?_
    cases hm
    exact ret_mz X nz0 hP hS d_Medium_writeByte_13
set_option maxHeartbeats 4000000 in
set_option maxRecDepth 100000 in
theorem k_m_Medium_write_L3 {p : Program} {l : Launch} {e : Env} {s : State} {m : MethodId} {args : Array Value} {below : List Frame} {meth : Method} {c : Code} {D : va_G} {ca : Nat → ClassId} {a0 a1 b0 b1 : Nat} {A : Nat → Prop} (X : Cx p s m args meth c R_Medium b_Medium_write 5 (some .boolean) D ca) (hA : ∀ q, s.heap.size ≤ q → A q) {y : St_Bytes} : ∀ (n : Nat) (x : St_Medium) (v1 : Int32) (v3 : Int32) (v4 : Int32) (res : Int32 × St_Medium), m_Medium_write_L3 y n x v1 v3 v4 = some res → ∀ (H : Heap) (locs : List Loc), va_P D classes (wl_Medium ca a0 a1 x ++ wl_Bytes ca b0 b1 y) H → va_D A (wl_Medium ca a0 a1 x ++ wl_Bytes ca b0 b1 y) → va_S A s.heap H locs → ∀ ls : Array Slot, lv_has ls 5 [(0, .ref a0), (1, .int v1), (2, .ref b0), (3, .int v3), (4, .int v4)] → W p l e (RM 2 45) s m args below meth c H locs 0 0 (MQ below (QRm D (some (.int res.1)) (wl_Medium ca a0 a1 res.2 ++ wl_Bytes ca b0 b1 y) A) args s 0 0 A) (F0 m 3 ls []) := by
  obtain ⟨hx, hb, hml, hr, hown, hts, hK, hlocks⟩ := id X
  intro n
  induction n with
  | zero =>
    intro x v1 v3 v4 res hm
    rw [m_Medium_write_L3] at hm
    cases hm
  | succ n ih =>
    intro x v1 v3 v4 res hm H locs hP hD hS ls hl
    rw [m_Medium_write_L3] at hm
    refine lv_iload hx hb d_Medium_write_3 (lv_at hl 4 rfl) ?_
    refine lv_bipush (v := 32) hx hb d_Medium_write_5 (by decide) ?_
    refine lv_icmp_ge (tgt := 36) hx hb d_Medium_write_7 (by decide) (fun c1 => ?_) (fun c1 => ?_)
    · replace hm := ip c1 hm
      refine lv_iconst (v := 1) hx hb d_Medium_write_36 (by decide) ?_
      cases hm
      exact ret_mz X nz1 hP hS d_Medium_write_37
    · replace hm := ineg c1 hm
      refine lv_aload_n hx hb d_Medium_write_10 rfl (lv_at hl 0 rfl) ?_
      refine lv_iload_n hx hb d_Medium_write_11 rfl (lv_at hl 1 rfl) ?_
      refine lv_iload hx hb d_Medium_write_12 (lv_at hl 4 rfl) ?_
      refine lv_aload_n hx hb d_Medium_write_14 rfl (lv_at hl 2 rfl) ?_
      refine lv_iload_n hx hb d_Medium_write_15 rfl (lv_at hl 3 rfl) ?_
      refine lv_iload hx hb d_Medium_write_16 (lv_at hl 4 rfl) ?_
      refine lv_iadd hx hb d_Medium_write_18 ?_
      obtain ⟨q2, hq2, hm⟩ := ob hm
      refine inv_rV (C := R_Bytes) (As := [.int (v3 + v4)]) (rest := [.int v4, .int v1, .ref a0]) (v := .int q2) X (c_Bytes_at l D ca b0 b1 _ y (v3 + v4) q2 hq2) g_Medium_49 yo_Bytes_at ⟨Nat.le_of_ble_eq_true rfl, Nat.le_of_ble_eq_true rfl⟩ hl hP hD [2, 3] rfl rfl (ci := 1) rfl rfl hS hA rfl rfl (Nat.le_of_ble_eq_true rfl) ⟨Nat.zero_le _, Nat.zero_le _⟩ d_Medium_write_19 (fun H locs hP hS => ?_)
      obtain ⟨q3, hq3, hm⟩ := ob hm
      refine inv_mV (C := R_Medium) (As := [.int v1, .int v4, .int q2]) (rest := []) (v := .int q3.1) (ws' := wl_Medium ca a0 a1 q3.2 ++ wl_Bytes ca b0 b1 y) X (c_Medium_writeByte l D ca a0 a1 _ x v1 v4 q2 q3 hq3) g_Medium_54 yo_Medium_writeByte ⟨Nat.le_of_ble_eq_true rfl, Nat.le_of_ble_eq_true rfl⟩ hl hP hD [0, 1] rfl rfl rfl rfl (ci := 0) rfl rfl hS hA rfl rfl (Nat.le_of_ble_eq_true rfl) ⟨Nat.zero_le _, Nat.zero_le _⟩ d_Medium_write_22 (fun H locs hP hD hS => ?_)
      refine lv_if_ne (tgt := 30) hx hb d_Medium_write_25 (by decide) (fun c4 => ?_) (fun c4 => ?_)
      · replace hm := ineg c4 hm
        refine lv_iinc (v := (v4 + 1)) (lv' := [(4, .int (v4 + 1)), (0, .ref a0), (1, .int v1), (2, .ref b0), (3, .int v3)]) hx hb d_Medium_write_30 hl (k := 4) rfl rfl (by decide) rfl (fun ls hl => ?_)
        refine lv_goto (tgt := 3) hx hb d_Medium_write_33 (by decide) ?_
        exact ih q3.2 v1 v3 (v4 + 1) _ hm _ _ hP hD hS ls (lv_sub hl [1, 2, 3, 4, 0] rfl)
      · replace hm := ip c4 hm
        refine lv_iconst (v := 0) hx hb d_Medium_write_28 (by decide) ?_
        cases hm
        exact ret_mz X nz0 hP hS d_Medium_write_29
set_option maxHeartbeats 4000000 in
set_option maxRecDepth 100000 in
theorem c_Medium_write (l : Launch) (D : va_G) (ca : Nat → ClassId) (a0 a1 b0 b1 : Nat) (sz : Nat) (x : St_Medium) (y : St_Bytes) (p1 : Int32) (p3 : Int32) (res : Int32 × St_Medium) (hm : m_Medium_write x y p1 p3 = some res) : Met l y_Medium_write (cws y_Medium_write b_Medium_write 5 (some .boolean)) (RM 2 45) (PreW D ca (wl_Medium ca a0 a1 x ++ wl_Bytes ca b0 b1 y) [.ref a0, .int p1, .ref b0, .int p3] sz) (QRm D (some (.int res.1)) (wl_Medium ca a0 a1 res.2 ++ wl_Bytes ca b0 b1 y) (va_A (wl_Medium ca a0 a1 x ++ wl_Bytes ca b0 b1 y) sz)) 0 0 (va_A (wl_Medium ca a0 a1 x ++ wl_Bytes ca b0 b1 y) sz) := by
  refine met_ofM (own := R_Medium) (by decide) rfl (Nat.le_of_ble_eq_true rfl) ?_
  intro p e s m below meth c A X hA hP hD ls hl
  obtain ⟨hx, hb, hml, hr, hown, hts, hK, hlocks⟩ := id X
  have hS : va_S A s.heap s.heap [] := va_S.rf
  have hl : lv_has ls 5 [(0, .ref a0), (1, .int p1), (2, .ref b0), (3, .int p3)] := hl
  unfold m_Medium_write at hm
  refine lv_iconst (v := 0) hx hb d_Medium_write_0 (by decide) ?_
  refine lv_istore (lv' := [(4, .int 0), (0, .ref a0), (1, .int p1), (2, .ref b0), (3, .int p3)]) hx hb d_Medium_write_1 hl (by decide) rfl (fun ls hl => ?_)
  exact k_m_Medium_write_L3 X hA FU x p1 p3 0 _ hm _ _ hP hD hS ls (lv_sub hl [1, 2, 3, 4, 0] rfl)
set_option maxHeartbeats 4000000 in
set_option maxRecDepth 100000 in
theorem k_m_Log_placeOf_L10 {p : Program} {l : Launch} {e : Env} {s : State} {m : MethodId} {args : Array Value} {below : List Frame} {meth : Method} {c : Code} {D : va_G} {ca : Nat → ClassId} {a0 : Nat} {A : Nat → Prop} (X : Cx p s m args meth c R_Log b_Log_placeOf 6 (some .int) D ca) (hA : ∀ q, s.heap.size ≤ q → A q) {x : AI} : ∀ (n : Nat) (v2 : Int32) (v3 : Int32) (v4 : Int32) (res : Int32), m_Log_placeOf_L10 x n v2 v3 v4 = some res → ∀ (H : Heap) (locs : List Loc), va_P D classes (wl_AI (ca 2) a0 x) H → va_D (fun _ => True) (wl_AI (ca 2) a0 x) → va_S A s.heap H locs → ∀ ls : Array Slot, lv_has ls 6 [(0, .ref a0), (2, .int v2), (3, .int v3), (4, .int v4)] → W p l e (RM 1 13) s m args below meth c H locs 0 0 (MQ below (QRr (.int res) A) args s 0 0 A) (F0 m 10 ls []) := by
  obtain ⟨hx, hb, hml, hr, hown, hts, hK, hlocks⟩ := id X
  intro n
  induction n with
  | zero =>
    intro v2 v3 v4 res hm
    rw [m_Log_placeOf_L10] at hm
    cases hm
  | succ n ih =>
    intro v2 v3 v4 res hm H locs hP hD hS ls hl
    rw [m_Log_placeOf_L10] at hm
    refine lv_iload_n hx hb d_Log_placeOf_10 rfl (lv_at hl 2 rfl) ?_
    refine lv_iload hx hb d_Log_placeOf_11 (lv_at hl 3 rfl) ?_
    refine lv_icmp_ge (tgt := 47) hx hb d_Log_placeOf_13 (by decide) (fun c1 => ?_) (fun c1 => ?_)
    · replace hm := ip c1 hm
      refine lv_iload_n hx hb d_Log_placeOf_47 rfl (lv_at hl 2 rfl) ?_
      cases hm
      exact ret_ri X hS d_Log_placeOf_48
    · replace hm := ineg c1 hm
      refine lv_iload_n hx hb d_Log_placeOf_16 rfl (lv_at hl 2 rfl) ?_
      refine lv_iload hx hb d_Log_placeOf_17 (lv_at hl 3 rfl) ?_
      refine lv_iadd hx hb d_Log_placeOf_19 ?_
      refine lv_iconst (v := 1) hx hb d_Log_placeOf_20 (by decide) ?_
      refine lv_iushr (v := (jiushr (v3 + v4) 1)) hx hb d_Log_placeOf_21 rfl ?_
      refine lv_istore (lv' := [(5, .int (jiushr (v3 + v4) 1)), (0, .ref a0), (2, .int v2), (3, .int v3), (4, .int v4)]) hx hb d_Log_placeOf_22 hl (by decide) rfl (fun ls hl => ?_)
      refine lv_aload_n hx hb d_Log_placeOf_24 rfl (lv_at hl 1 rfl) ?_
      refine lv_iload hx hb d_Log_placeOf_25 (lv_at hl 0 rfl) ?_
      obtain ⟨b2, hm⟩ := on hm
      refine va_iald hx hb hK hP 0 2 rfl rfl b2 d_Log_placeOf_27 ?_
      refine lv_iload_n hx hb d_Log_placeOf_28 rfl (lv_at hl 2 rfl) ?_
      refine lv_icmp_ge (tgt := 40) hx hb d_Log_placeOf_29 (by decide) (fun c3 => ?_) (fun c3 => ?_)
      · replace hm := ip c3 hm
        refine lv_iload hx hb d_Log_placeOf_40 (lv_at hl 0 rfl) ?_
        refine lv_istore (lv' := [(4, .int (jiushr (v3 + v4) 1)), (5, .int (jiushr (v3 + v4) 1)), (0, .ref a0), (2, .int v2), (3, .int v3)]) hx hb d_Log_placeOf_42 hl (by decide) rfl (fun ls hl => ?_)
        refine lv_goto (tgt := 10) hx hb d_Log_placeOf_44 (by decide) ?_
        exact ih  v2 v3 (jiushr (v3 + v4) 1) _ hm _ _ hP hD hS ls (lv_sub hl [2, 3, 4, 0] rfl)
      · replace hm := ineg c3 hm
        refine lv_iload hx hb d_Log_placeOf_32 (lv_at hl 0 rfl) ?_
        refine lv_iconst (v := 1) hx hb d_Log_placeOf_34 (by decide) ?_
        refine lv_iadd hx hb d_Log_placeOf_35 ?_
        refine lv_istore_n (lv' := [(3, .int ((jiushr (v3 + v4) 1) + 1)), (5, .int (jiushr (v3 + v4) 1)), (0, .ref a0), (2, .int v2), (4, .int v4)]) hx hb d_Log_placeOf_36 rfl hl (by decide) rfl (fun ls hl => ?_)
        refine lv_goto (tgt := 44) hx hb d_Log_placeOf_37 (by decide) ?_
        refine lv_goto (tgt := 10) hx hb d_Log_placeOf_44 (by decide) ?_
        exact ih  v2 ((jiushr (v3 + v4) 1) + 1) v4 _ hm _ _ hP hD hS ls (lv_sub hl [2, 3, 0, 4] rfl)
set_option maxHeartbeats 4000000 in
set_option maxRecDepth 100000 in
theorem c_Log_placeOf (l : Launch) (D : va_G) (ca : Nat → ClassId) (a0 : Nat) (sz : Nat) (x : AI) (p1 : Int32) (p2 : Int32) (res : Int32) (hm : m_Log_placeOf x p1 p2 = some res) : Met l y_Log_placeOf (cws y_Log_placeOf b_Log_placeOf 6 (some .int)) (RM 1 13) (PreW D ca (wl_AI (ca 2) a0 x) [.ref a0, .int p1, .int p2] sz) (QRr (.int res) (va_A [] sz)) 0 0 (va_A [] sz) := by
  refine met_ofR (own := R_Log) (by decide) rfl (Nat.le_of_ble_eq_true rfl) ?_
  intro p e s m below meth c A X hA hP hD ls hl
  obtain ⟨hx, hb, hml, hr, hown, hts, hK, hlocks⟩ := id X
  have hS : va_S A s.heap s.heap [] := va_S.rf
  have hl : lv_has ls 6 [(0, .ref a0), (1, .int p1), (2, .int p2)] := hl
  unfold m_Log_placeOf at hm
  refine lv_iconst (v := 0) hx hb d_Log_placeOf_0 (by decide) ?_
  refine lv_istore_n (lv' := [(3, .int 0), (0, .ref a0), (1, .int p1), (2, .int p2)]) hx hb d_Log_placeOf_1 rfl hl (by decide) rfl (fun ls hl => ?_)
  refine lv_iload_n hx hb d_Log_placeOf_2 rfl (lv_at hl 2 rfl) ?_
  refine lv_aload_n hx hb d_Log_placeOf_3 rfl (lv_at hl 1 rfl) ?_
  refine va_alen hx hb hK hP 0 2 rfl rfl (v := nI x.1) rfl d_Log_placeOf_4 ?_
  refine va_mmin hx hb (hml.trans hl.1.symm) hown (hts _ wm_Log_265) (hts _ w_min_static) (hts _ w_math_init) (hts _ w_min_code) (Nat.le_of_ble_eq_true rfl) (Nat.le_of_ble_eq_true rfl) (Nat.zero_le _) (Nat.zero_le _) d_Log_placeOf_5 ?_
  refine lv_istore (lv' := [(4, .int (jmin p1 (nI x.1))), (3, .int 0), (0, .ref a0), (1, .int p1), (2, .int p2)]) hx hb d_Log_placeOf_8 hl (by decide) rfl (fun ls hl => ?_)
  exact k_m_Log_placeOf_L10 X hA FU  p2 0 (jmin p1 (nI x.1)) _ hm _ _ hP hD hS ls (lv_sub hl [2, 4, 1, 0] rfl)
set_option maxHeartbeats 4000000 in
set_option maxRecDepth 100000 in
theorem c_Parts_has (l : Launch) (D : va_G) (ca : Nat → ClassId) (a0 a1 a2 a3 a4 a5 : Nat) (sz : Nat) (x : St_Parts) (p1 : Int32) (res : Int32) (hm : m_Parts_has x p1 = some res) : Met l y_Parts_has (cws y_Parts_has b_Parts_has 2 (some .boolean)) (RM 0 0) (PreW D ca (wl_Parts ca a0 a1 a2 a3 a4 a5 x) [.ref a0, .int p1] sz) (QRr (.int res) (va_A [] sz)) 0 0 (va_A [] sz) := by
  refine met_ofR (own := R_Parts) (by decide) rfl (Nat.le_of_ble_eq_true rfl) ?_
  intro p e s m below meth c A X hA hP hD ls hl
  obtain ⟨hx, hb, hml, hr, hown, hts, hK, hlocks⟩ := id X
  have hS : va_S A s.heap s.heap [] := va_S.rf
  have hl : lv_has ls 2 [(0, .ref a0), (1, .int p1)] := hl
  unfold m_Parts_has at hm
  refine lv_iload_n hx hb d_Parts_has_0 rfl (lv_at hl 1 rfl) ?_
  refine lv_if_lt (tgt := 25) hx hb d_Parts_has_1 (by decide) (fun c1 => ?_) (fun c1 => ?_)
  · replace hm := ip c1 hm
    refine lv_iconst (v := 0) hx hb d_Parts_has_25 (by decide) ?_
    cases hm
    exact ret_rz X nz0 hS d_Parts_has_26
  · replace hm := ineg c1 hm
    refine lv_iload_n hx hb d_Parts_has_4 rfl (lv_at hl 1 rfl) ?_
    refine lv_aload_n hx hb d_Parts_has_5 rfl (lv_at hl 0 rfl) ?_
    refine va_get (D := D) (ci := 3) (v := .int x.2.2.2.2.2) (C := R_Parts) (T := F_Parts) (N := 6) hx hb hts i_Parts hown hK hP 0 rfl rfl 5 (by decide) (hts _ wf_Parts_34) (fun _ h9 => h9) rfl d_Parts_has_6 ?_
    refine lv_icmp_ge (tgt := 25) hx hb d_Parts_has_9 (by decide) (fun c2 => ?_) (fun c2 => ?_)
    · replace hm := ip c2 hm
      refine lv_iconst (v := 0) hx hb d_Parts_has_25 (by decide) ?_
      cases hm
      exact ret_rz X nz0 hS d_Parts_has_26
    · replace hm := ineg c2 hm
      refine lv_iload_n hx hb d_Parts_has_12 rfl (lv_at hl 1 rfl) ?_
      refine lv_aload_n hx hb d_Parts_has_13 rfl (lv_at hl 0 rfl) ?_
      refine va_get (D := D) (ci := 3) (v := .ref a1) (C := R_Parts) (T := F_Parts) (N := 6) hx hb hts i_Parts hown hK hP 0 rfl rfl 0 (by decide) (hts _ wf_Parts_15) (fun _ h9 => h9) rfl d_Parts_has_14 ?_
      refine va_alen hx hb hK hP 1 2 rfl rfl (v := nI x.1.1) rfl d_Parts_has_17 ?_
      refine lv_icmp_ge (tgt := 25) hx hb d_Parts_has_18 (by decide) (fun c3 => ?_) (fun c3 => ?_)
      · replace hm := ip c3 hm
        refine lv_iconst (v := 0) hx hb d_Parts_has_25 (by decide) ?_
        cases hm
        exact ret_rz X nz0 hS d_Parts_has_26
      · replace hm := ineg c3 hm
        refine lv_iconst (v := 1) hx hb d_Parts_has_21 (by decide) ?_
        refine lv_goto (tgt := 26) hx hb d_Parts_has_22 (by decide) ?_
        cases hm
        exact ret_rz X nz1 hS d_Parts_has_26
set_option maxHeartbeats 4000000 in
set_option maxRecDepth 100000 in
theorem c_Parts_move (l : Launch) (D : va_G) (ca : Nat → ClassId) (a0 a1 a2 a3 a4 a5 : Nat) (sz : Nat) (x : St_Parts) (p1 : Int32) (p2 : Int32) (res : St_Parts) (hm : m_Parts_move x p1 p2 = some res) : Met l y_Parts_move (cws y_Parts_move b_Parts_move 3 none) (RM 1 21) (PreW D ca (wl_Parts ca a0 a1 a2 a3 a4 a5 x) [.ref a0, .int p1, .int p2] sz) (QRm D none (wl_Parts ca a0 a1 a2 a3 a4 a5 res) (va_A (wl_Parts ca a0 a1 a2 a3 a4 a5 x) sz)) 0 0 (va_A (wl_Parts ca a0 a1 a2 a3 a4 a5 x) sz) := by
  refine met_ofM (own := R_Parts) (by decide) rfl (Nat.le_of_ble_eq_true rfl) ?_
  intro p e s m below meth c A X hA hP hD ls hl
  obtain ⟨hx, hb, hml, hr, hown, hts, hK, hlocks⟩ := id X
  have hS : va_S A s.heap s.heap [] := va_S.rf
  have hl : lv_has ls 3 [(0, .ref a0), (1, .int p1), (2, .int p2)] := hl
  unfold m_Parts_move at hm
  refine lv_aload_n hx hb d_Parts_move_0 rfl (lv_at hl 0 rfl) ?_
  refine lv_iload_n hx hb d_Parts_move_1 rfl (lv_at hl 1 rfl) ?_
  obtain ⟨q1, hq1, hm⟩ := ob hm
  refine inv_rVa (C := R_Parts) (As := [.int p1]) (rest := []) (v := .int q1) X (c_Parts_has l D ca a0 a1 a2 a3 a4 a5 _ x p1 q1 hq1) g_Parts_46 yo_Parts_has ⟨Nat.le_of_ble_eq_true rfl, Nat.le_of_ble_eq_true rfl⟩ hl hP hD (ci := 3) rfl rfl hS hA rfl rfl (Nat.le_of_ble_eq_true rfl) ⟨Nat.zero_le _, Nat.zero_le _⟩ d_Parts_move_2 (fun H locs hP hS => ?_)
  refine lv_if_eq (tgt := 16) hx hb d_Parts_move_5 (by decide) (fun c2 => ?_) (fun c2 => ?_)
  · replace hm := ip c2 hm
    cases hm
    exact ret_mv X hP hS d_Parts_move_16
  · replace hm := ineg c2 hm
    refine lv_aload_n hx hb d_Parts_move_8 rfl (lv_at hl 0 rfl) ?_
    refine lv_iload_n hx hb d_Parts_move_9 rfl (lv_at hl 2 rfl) ?_
    obtain ⟨q3, hq3, hm⟩ := ob hm
    refine inv_rVa (C := R_Parts) (As := [.int p2]) (rest := []) (v := .int q3) X (c_Parts_has l D ca a0 a1 a2 a3 a4 a5 _ x p2 q3 hq3) g_Parts_46 yo_Parts_has ⟨Nat.le_of_ble_eq_true rfl, Nat.le_of_ble_eq_true rfl⟩ hl hP hD (ci := 3) rfl rfl hS hA rfl rfl (Nat.le_of_ble_eq_true rfl) ⟨Nat.zero_le _, Nat.zero_le _⟩ d_Parts_move_10 (fun H locs hP hS => ?_)
    refine lv_if_ne (tgt := 17) hx hb d_Parts_move_13 (by decide) (fun c4 => ?_) (fun c4 => ?_)
    · replace hm := ineg c4 hm
      refine lv_aload_n hx hb d_Parts_move_17 rfl (lv_at hl 0 rfl) ?_
      refine va_get (D := D) (ci := 3) (v := .ref a1) (C := R_Parts) (T := F_Parts) (N := 6) hx hb hts i_Parts hown hK hP 0 rfl rfl 0 (by decide) (hts _ wf_Parts_15) (fun _ h9 => h9) rfl d_Parts_move_18 ?_
      refine lv_iload_n hx hb d_Parts_move_21 rfl (lv_at hl 2 rfl) ?_
      refine lv_aload_n hx hb d_Parts_move_22 rfl (lv_at hl 0 rfl) ?_
      refine va_get (D := D) (ci := 3) (v := .ref a1) (C := R_Parts) (T := F_Parts) (N := 6) hx hb hts i_Parts hown hK hP 0 rfl rfl 0 (by decide) (hts _ wf_Parts_15) (fun _ h9 => h9) rfl d_Parts_move_23 ?_
      refine lv_iload_n hx hb d_Parts_move_26 rfl (lv_at hl 1 rfl) ?_
      obtain ⟨b5, hm⟩ := on hm
      refine va_iald hx hb hK hP 1 2 rfl rfl b5 d_Parts_move_27 ?_
      obtain ⟨b6, hm⟩ := on hm
      refine va_iast hx hb hK hP hD hS 1 2 rfl rfl b6 d_Parts_move_28 (fun H locs hP hD hS => ?_)
      replace hP : va_P D classes (wl_Parts ca a0 a1 a2 a3 a4 a5 ((x.1.1, upd x.1.2 (p2).toNatClampNeg (x.1.2 (p1).toNatClampNeg)), x.2.1, x.2.2.1, x.2.2.2.1, x.2.2.2.2.1, x.2.2.2.2.2)) H := hP
      replace hD : va_D A (wl_Parts ca a0 a1 a2 a3 a4 a5 ((x.1.1, upd x.1.2 (p2).toNatClampNeg (x.1.2 (p1).toNatClampNeg)), x.2.1, x.2.2.1, x.2.2.2.1, x.2.2.2.2.1, x.2.2.2.2.2)) := hD
      refine lv_aload_n hx hb d_Parts_move_29 rfl (lv_at hl 0 rfl) ?_
      refine va_get (D := D) (ci := 3) (v := .ref a2) (C := R_Parts) (T := F_Parts) (N := 6) hx hb hts i_Parts hown hK hP 0 rfl rfl 1 (by decide) (hts _ wf_Parts_21) (fun _ h9 => h9) rfl d_Parts_move_30 ?_
      refine lv_iload_n hx hb d_Parts_move_33 rfl (lv_at hl 2 rfl) ?_
      refine lv_aload_n hx hb d_Parts_move_34 rfl (lv_at hl 0 rfl) ?_
      refine va_get (D := D) (ci := 3) (v := .ref a2) (C := R_Parts) (T := F_Parts) (N := 6) hx hb hts i_Parts hown hK hP 0 rfl rfl 1 (by decide) (hts _ wf_Parts_21) (fun _ h9 => h9) rfl d_Parts_move_35 ?_
      refine lv_iload_n hx hb d_Parts_move_38 rfl (lv_at hl 1 rfl) ?_
      obtain ⟨b7, hm⟩ := on hm
      refine va_iald hx hb hK hP 2 2 rfl rfl b7 d_Parts_move_39 ?_
      obtain ⟨b8, hm⟩ := on hm
      refine va_iast hx hb hK hP hD hS 2 2 rfl rfl b8 d_Parts_move_40 (fun H locs hP hD hS => ?_)
      replace hP : va_P D classes (wl_Parts ca a0 a1 a2 a3 a4 a5 ((x.1.1, upd x.1.2 (p2).toNatClampNeg (x.1.2 (p1).toNatClampNeg)), (x.2.1.1, upd x.2.1.2 (p2).toNatClampNeg (x.2.1.2 (p1).toNatClampNeg)), x.2.2.1, x.2.2.2.1, x.2.2.2.2.1, x.2.2.2.2.2)) H := hP
      replace hD : va_D A (wl_Parts ca a0 a1 a2 a3 a4 a5 ((x.1.1, upd x.1.2 (p2).toNatClampNeg (x.1.2 (p1).toNatClampNeg)), (x.2.1.1, upd x.2.1.2 (p2).toNatClampNeg (x.2.1.2 (p1).toNatClampNeg)), x.2.2.1, x.2.2.2.1, x.2.2.2.2.1, x.2.2.2.2.2)) := hD
      refine lv_aload_n hx hb d_Parts_move_41 rfl (lv_at hl 0 rfl) ?_
      refine va_get (D := D) (ci := 3) (v := .ref a3) (C := R_Parts) (T := F_Parts) (N := 6) hx hb hts i_Parts hown hK hP 0 rfl rfl 2 (by decide) (hts _ wf_Parts_24) (fun _ h9 => h9) rfl d_Parts_move_42 ?_
      refine lv_iload_n hx hb d_Parts_move_45 rfl (lv_at hl 2 rfl) ?_
      refine lv_aload_n hx hb d_Parts_move_46 rfl (lv_at hl 0 rfl) ?_
      refine va_get (D := D) (ci := 3) (v := .ref a3) (C := R_Parts) (T := F_Parts) (N := 6) hx hb hts i_Parts hown hK hP 0 rfl rfl 2 (by decide) (hts _ wf_Parts_24) (fun _ h9 => h9) rfl d_Parts_move_47 ?_
      refine lv_iload_n hx hb d_Parts_move_50 rfl (lv_at hl 1 rfl) ?_
      obtain ⟨b9, hm⟩ := on hm
      refine va_iald hx hb hK hP 3 2 rfl rfl b9 d_Parts_move_51 ?_
      obtain ⟨b10, hm⟩ := on hm
      refine va_iast hx hb hK hP hD hS 3 2 rfl rfl b10 d_Parts_move_52 (fun H locs hP hD hS => ?_)
      replace hP : va_P D classes (wl_Parts ca a0 a1 a2 a3 a4 a5 ((x.1.1, upd x.1.2 (p2).toNatClampNeg (x.1.2 (p1).toNatClampNeg)), (x.2.1.1, upd x.2.1.2 (p2).toNatClampNeg (x.2.1.2 (p1).toNatClampNeg)), (x.2.2.1.1, upd x.2.2.1.2 (p2).toNatClampNeg (x.2.2.1.2 (p1).toNatClampNeg)), x.2.2.2.1, x.2.2.2.2.1, x.2.2.2.2.2)) H := hP
      replace hD : va_D A (wl_Parts ca a0 a1 a2 a3 a4 a5 ((x.1.1, upd x.1.2 (p2).toNatClampNeg (x.1.2 (p1).toNatClampNeg)), (x.2.1.1, upd x.2.1.2 (p2).toNatClampNeg (x.2.1.2 (p1).toNatClampNeg)), (x.2.2.1.1, upd x.2.2.1.2 (p2).toNatClampNeg (x.2.2.1.2 (p1).toNatClampNeg)), x.2.2.2.1, x.2.2.2.2.1, x.2.2.2.2.2)) := hD
      refine lv_aload_n hx hb d_Parts_move_53 rfl (lv_at hl 0 rfl) ?_
      refine va_get (D := D) (ci := 3) (v := .ref a4) (C := R_Parts) (T := F_Parts) (N := 6) hx hb hts i_Parts hown hK hP 0 rfl rfl 3 (by decide) (hts _ wf_Parts_27) (fun _ h9 => h9) rfl d_Parts_move_54 ?_
      refine lv_iload_n hx hb d_Parts_move_57 rfl (lv_at hl 2 rfl) ?_
      refine lv_aload_n hx hb d_Parts_move_58 rfl (lv_at hl 0 rfl) ?_
      refine va_get (D := D) (ci := 3) (v := .ref a4) (C := R_Parts) (T := F_Parts) (N := 6) hx hb hts i_Parts hown hK hP 0 rfl rfl 3 (by decide) (hts _ wf_Parts_27) (fun _ h9 => h9) rfl d_Parts_move_59 ?_
      refine lv_iload_n hx hb d_Parts_move_62 rfl (lv_at hl 1 rfl) ?_
      obtain ⟨b11, hm⟩ := on hm
      refine va_iald hx hb hK hP 4 2 rfl rfl b11 d_Parts_move_63 ?_
      obtain ⟨b12, hm⟩ := on hm
      refine va_iast hx hb hK hP hD hS 4 2 rfl rfl b12 d_Parts_move_64 (fun H locs hP hD hS => ?_)
      replace hP : va_P D classes (wl_Parts ca a0 a1 a2 a3 a4 a5 ((x.1.1, upd x.1.2 (p2).toNatClampNeg (x.1.2 (p1).toNatClampNeg)), (x.2.1.1, upd x.2.1.2 (p2).toNatClampNeg (x.2.1.2 (p1).toNatClampNeg)), (x.2.2.1.1, upd x.2.2.1.2 (p2).toNatClampNeg (x.2.2.1.2 (p1).toNatClampNeg)), (x.2.2.2.1.1, upd x.2.2.2.1.2 (p2).toNatClampNeg (x.2.2.2.1.2 (p1).toNatClampNeg)), x.2.2.2.2.1, x.2.2.2.2.2)) H := hP
      replace hD : va_D A (wl_Parts ca a0 a1 a2 a3 a4 a5 ((x.1.1, upd x.1.2 (p2).toNatClampNeg (x.1.2 (p1).toNatClampNeg)), (x.2.1.1, upd x.2.1.2 (p2).toNatClampNeg (x.2.1.2 (p1).toNatClampNeg)), (x.2.2.1.1, upd x.2.2.1.2 (p2).toNatClampNeg (x.2.2.1.2 (p1).toNatClampNeg)), (x.2.2.2.1.1, upd x.2.2.2.1.2 (p2).toNatClampNeg (x.2.2.2.1.2 (p1).toNatClampNeg)), x.2.2.2.2.1, x.2.2.2.2.2)) := hD
      refine lv_aload_n hx hb d_Parts_move_65 rfl (lv_at hl 0 rfl) ?_
      refine va_get (D := D) (ci := 3) (v := .ref a5) (C := R_Parts) (T := F_Parts) (N := 6) hx hb hts i_Parts hown hK hP 0 rfl rfl 4 (by decide) (hts _ wf_Parts_30) (fun _ h9 => h9) rfl d_Parts_move_66 ?_
      refine lv_iload_n hx hb d_Parts_move_69 rfl (lv_at hl 2 rfl) ?_
      refine lv_aload_n hx hb d_Parts_move_70 rfl (lv_at hl 0 rfl) ?_
      refine va_get (D := D) (ci := 3) (v := .ref a5) (C := R_Parts) (T := F_Parts) (N := 6) hx hb hts i_Parts hown hK hP 0 rfl rfl 4 (by decide) (hts _ wf_Parts_30) (fun _ h9 => h9) rfl d_Parts_move_71 ?_
      refine lv_iload_n hx hb d_Parts_move_74 rfl (lv_at hl 1 rfl) ?_
      obtain ⟨b13, hm⟩ := on hm
      refine va_lald hx hb hK hP 5 3 rfl rfl b13 d_Parts_move_75 ?_
      obtain ⟨b14, hm⟩ := on hm
      refine va_last hx hb hK hP hD hS 5 3 rfl rfl b14 d_Parts_move_76 (fun H locs hP hD hS => ?_)
      replace hP : va_P D classes (wl_Parts ca a0 a1 a2 a3 a4 a5 ((x.1.1, upd x.1.2 (p2).toNatClampNeg (x.1.2 (p1).toNatClampNeg)), (x.2.1.1, upd x.2.1.2 (p2).toNatClampNeg (x.2.1.2 (p1).toNatClampNeg)), (x.2.2.1.1, upd x.2.2.1.2 (p2).toNatClampNeg (x.2.2.1.2 (p1).toNatClampNeg)), (x.2.2.2.1.1, upd x.2.2.2.1.2 (p2).toNatClampNeg (x.2.2.2.1.2 (p1).toNatClampNeg)), (x.2.2.2.2.1.1, vp_updL x.2.2.2.2.1.2 (p2).toNatClampNeg (x.2.2.2.2.1.2 (p1).toNatClampNeg)), x.2.2.2.2.2)) H := hP
      replace hD : va_D A (wl_Parts ca a0 a1 a2 a3 a4 a5 ((x.1.1, upd x.1.2 (p2).toNatClampNeg (x.1.2 (p1).toNatClampNeg)), (x.2.1.1, upd x.2.1.2 (p2).toNatClampNeg (x.2.1.2 (p1).toNatClampNeg)), (x.2.2.1.1, upd x.2.2.1.2 (p2).toNatClampNeg (x.2.2.1.2 (p1).toNatClampNeg)), (x.2.2.2.1.1, upd x.2.2.2.1.2 (p2).toNatClampNeg (x.2.2.2.1.2 (p1).toNatClampNeg)), (x.2.2.2.2.1.1, vp_updL x.2.2.2.2.1.2 (p2).toNatClampNeg (x.2.2.2.2.1.2 (p1).toNatClampNeg)), x.2.2.2.2.2)) := hD
      cases hm
      exact ret_mv X hP hS d_Parts_move_77
    · replace hm := ip c4 hm
      cases hm
      exact ret_mv X hP hS d_Parts_move_16
set_option maxHeartbeats 4000000 in
set_option maxRecDepth 100000 in
theorem k_m_Parts_add_L45 {p : Program} {l : Launch} {e : Env} {s : State} {m : MethodId} {args : Array Value} {below : List Frame} {meth : Method} {c : Code} {D : va_G} {ca : Nat → ClassId} {a0 a1 a2 a3 a4 a5 : Nat} {A : Nat → Prop} (X : Cx p s m args meth c R_Parts b_Parts_add 9 none D ca) (hA : ∀ q, s.heap.size ≤ q → A q)  : ∀ (n : Nat) (x : St_Parts) (v1 : Int32) (v2 : Int32) (v3 : Int32) (v4 : Int32) (v5 : Int64) (v7 : Int32) (v8 : Int32) (res : St_Parts), m_Parts_add_L45  n x v1 v2 v3 v4 v5 v7 v8 = some res → ∀ (H : Heap) (locs : List Loc), va_P D classes (wl_Parts ca a0 a1 a2 a3 a4 a5 x) H → va_D A (wl_Parts ca a0 a1 a2 a3 a4 a5 x) → va_S A s.heap H locs → ∀ ls : Array Slot, lv_has ls 9 [(0, .ref a0), (1, .int v1), (2, .int v2), (3, .int v3), (4, .int v4), (5, .long v5), (7, .int v7), (8, .int v8)] → W p l e (RM 2 43) s m args below meth c H locs 0 0 (MQ below (QRm D none (wl_Parts ca a0 a1 a2 a3 a4 a5 res) A) args s 0 0 A) (F0 m 45 ls []) := by
  obtain ⟨hx, hb, hml, hr, hown, hts, hK, hlocks⟩ := id X
  intro n
  induction n with
  | zero =>
    intro x v1 v2 v3 v4 v5 v7 v8 res hm
    rw [m_Parts_add_L45] at hm
    cases hm
  | succ n ih =>
    intro x v1 v2 v3 v4 v5 v7 v8 res hm H locs hP hD hS ls hl
    rw [m_Parts_add_L45] at hm
    refine lv_iload hx hb d_Parts_add_45 (lv_at hl 7 rfl) ?_
    refine lv_iload hx hb d_Parts_add_47 (lv_at hl 6 rfl) ?_
    refine lv_icmp_le (tgt := 68) hx hb d_Parts_add_49 (by decide) (fun c3 => ?_) (fun c3 => ?_)
    · replace hm := ip c3 hm
      refine lv_aload_n hx hb d_Parts_add_68 rfl (lv_at hl 0 rfl) ?_
      refine lv_iload hx hb d_Parts_add_69 (lv_at hl 6 rfl) ?_
      obtain ⟨q4, hq4, hm⟩ := ob hm
      refine inv_rVa (C := R_Parts) (As := [.int v7]) (rest := []) (v := .int q4) X (c_Parts_has l D ca a0 a1 a2 a3 a4 a5 _ x v7 q4 hq4) g_Parts_46 yo_Parts_has ⟨Nat.le_of_ble_eq_true rfl, Nat.le_of_ble_eq_true rfl⟩ hl hP hD (ci := 3) rfl rfl hS hA rfl rfl (Nat.le_of_ble_eq_true rfl) ⟨Nat.zero_le _, Nat.zero_le _⟩ d_Parts_add_71 (fun H locs hP hS => ?_)
      refine lv_if_ne (tgt := 78) hx hb d_Parts_add_74 (by decide) (fun c5 => ?_) (fun c5 => ?_)
      · replace hm := ineg c5 hm
        refine lv_aload_n hx hb d_Parts_add_78 rfl (lv_at hl 0 rfl) ?_
        refine va_get (D := D) (ci := 3) (v := .ref a1) (C := R_Parts) (T := F_Parts) (N := 6) hx hb hts i_Parts hown hK hP 0 rfl rfl 0 (by decide) (hts _ wf_Parts_15) (fun _ h9 => h9) rfl d_Parts_add_79 ?_
        refine lv_iload hx hb d_Parts_add_82 (lv_at hl 6 rfl) ?_
        refine lv_iload_n hx hb d_Parts_add_84 rfl (lv_at hl 1 rfl) ?_
        obtain ⟨b6, hm⟩ := on hm
        refine va_iast hx hb hK hP hD hS 1 2 rfl rfl b6 d_Parts_add_85 (fun H locs hP hD hS => ?_)
        replace hP : va_P D classes (wl_Parts ca a0 a1 a2 a3 a4 a5 ((x.1.1, upd x.1.2 (v7).toNatClampNeg v1), x.2.1, x.2.2.1, x.2.2.2.1, x.2.2.2.2.1, x.2.2.2.2.2)) H := hP
        replace hD : va_D A (wl_Parts ca a0 a1 a2 a3 a4 a5 ((x.1.1, upd x.1.2 (v7).toNatClampNeg v1), x.2.1, x.2.2.1, x.2.2.2.1, x.2.2.2.2.1, x.2.2.2.2.2)) := hD
        refine lv_aload_n hx hb d_Parts_add_86 rfl (lv_at hl 0 rfl) ?_
        refine va_get (D := D) (ci := 3) (v := .ref a2) (C := R_Parts) (T := F_Parts) (N := 6) hx hb hts i_Parts hown hK hP 0 rfl rfl 1 (by decide) (hts _ wf_Parts_21) (fun _ h9 => h9) rfl d_Parts_add_87 ?_
        refine lv_iload hx hb d_Parts_add_90 (lv_at hl 6 rfl) ?_
        refine lv_iload_n hx hb d_Parts_add_92 rfl (lv_at hl 2 rfl) ?_
        obtain ⟨b7, hm⟩ := on hm
        refine va_iast hx hb hK hP hD hS 2 2 rfl rfl b7 d_Parts_add_93 (fun H locs hP hD hS => ?_)
        replace hP : va_P D classes (wl_Parts ca a0 a1 a2 a3 a4 a5 ((x.1.1, upd x.1.2 (v7).toNatClampNeg v1), (x.2.1.1, upd x.2.1.2 (v7).toNatClampNeg v2), x.2.2.1, x.2.2.2.1, x.2.2.2.2.1, x.2.2.2.2.2)) H := hP
        replace hD : va_D A (wl_Parts ca a0 a1 a2 a3 a4 a5 ((x.1.1, upd x.1.2 (v7).toNatClampNeg v1), (x.2.1.1, upd x.2.1.2 (v7).toNatClampNeg v2), x.2.2.1, x.2.2.2.1, x.2.2.2.2.1, x.2.2.2.2.2)) := hD
        refine lv_aload_n hx hb d_Parts_add_94 rfl (lv_at hl 0 rfl) ?_
        refine va_get (D := D) (ci := 3) (v := .ref a3) (C := R_Parts) (T := F_Parts) (N := 6) hx hb hts i_Parts hown hK hP 0 rfl rfl 2 (by decide) (hts _ wf_Parts_24) (fun _ h9 => h9) rfl d_Parts_add_95 ?_
        refine lv_iload hx hb d_Parts_add_98 (lv_at hl 6 rfl) ?_
        refine lv_iload_n hx hb d_Parts_add_100 rfl (lv_at hl 3 rfl) ?_
        obtain ⟨b8, hm⟩ := on hm
        refine va_iast hx hb hK hP hD hS 3 2 rfl rfl b8 d_Parts_add_101 (fun H locs hP hD hS => ?_)
        replace hP : va_P D classes (wl_Parts ca a0 a1 a2 a3 a4 a5 ((x.1.1, upd x.1.2 (v7).toNatClampNeg v1), (x.2.1.1, upd x.2.1.2 (v7).toNatClampNeg v2), (x.2.2.1.1, upd x.2.2.1.2 (v7).toNatClampNeg v3), x.2.2.2.1, x.2.2.2.2.1, x.2.2.2.2.2)) H := hP
        replace hD : va_D A (wl_Parts ca a0 a1 a2 a3 a4 a5 ((x.1.1, upd x.1.2 (v7).toNatClampNeg v1), (x.2.1.1, upd x.2.1.2 (v7).toNatClampNeg v2), (x.2.2.1.1, upd x.2.2.1.2 (v7).toNatClampNeg v3), x.2.2.2.1, x.2.2.2.2.1, x.2.2.2.2.2)) := hD
        refine lv_aload_n hx hb d_Parts_add_102 rfl (lv_at hl 0 rfl) ?_
        refine va_get (D := D) (ci := 3) (v := .ref a4) (C := R_Parts) (T := F_Parts) (N := 6) hx hb hts i_Parts hown hK hP 0 rfl rfl 3 (by decide) (hts _ wf_Parts_27) (fun _ h9 => h9) rfl d_Parts_add_103 ?_
        refine lv_iload hx hb d_Parts_add_106 (lv_at hl 6 rfl) ?_
        refine lv_iload hx hb d_Parts_add_108 (lv_at hl 4 rfl) ?_
        obtain ⟨b9, hm⟩ := on hm
        refine va_iast hx hb hK hP hD hS 4 2 rfl rfl b9 d_Parts_add_110 (fun H locs hP hD hS => ?_)
        replace hP : va_P D classes (wl_Parts ca a0 a1 a2 a3 a4 a5 ((x.1.1, upd x.1.2 (v7).toNatClampNeg v1), (x.2.1.1, upd x.2.1.2 (v7).toNatClampNeg v2), (x.2.2.1.1, upd x.2.2.1.2 (v7).toNatClampNeg v3), (x.2.2.2.1.1, upd x.2.2.2.1.2 (v7).toNatClampNeg v4), x.2.2.2.2.1, x.2.2.2.2.2)) H := hP
        replace hD : va_D A (wl_Parts ca a0 a1 a2 a3 a4 a5 ((x.1.1, upd x.1.2 (v7).toNatClampNeg v1), (x.2.1.1, upd x.2.1.2 (v7).toNatClampNeg v2), (x.2.2.1.1, upd x.2.2.1.2 (v7).toNatClampNeg v3), (x.2.2.2.1.1, upd x.2.2.2.1.2 (v7).toNatClampNeg v4), x.2.2.2.2.1, x.2.2.2.2.2)) := hD
        refine lv_aload_n hx hb d_Parts_add_111 rfl (lv_at hl 0 rfl) ?_
        refine va_get (D := D) (ci := 3) (v := .ref a5) (C := R_Parts) (T := F_Parts) (N := 6) hx hb hts i_Parts hown hK hP 0 rfl rfl 4 (by decide) (hts _ wf_Parts_30) (fun _ h9 => h9) rfl d_Parts_add_112 ?_
        refine lv_iload hx hb d_Parts_add_115 (lv_at hl 6 rfl) ?_
        refine lv_lload hx hb d_Parts_add_117 (lv_at hl 5 rfl) ?_
        obtain ⟨b10, hm⟩ := on hm
        refine va_last hx hb hK hP hD hS 5 3 rfl rfl b10 d_Parts_add_119 (fun H locs hP hD hS => ?_)
        replace hP : va_P D classes (wl_Parts ca a0 a1 a2 a3 a4 a5 ((x.1.1, upd x.1.2 (v7).toNatClampNeg v1), (x.2.1.1, upd x.2.1.2 (v7).toNatClampNeg v2), (x.2.2.1.1, upd x.2.2.1.2 (v7).toNatClampNeg v3), (x.2.2.2.1.1, upd x.2.2.2.1.2 (v7).toNatClampNeg v4), (x.2.2.2.2.1.1, vp_updL x.2.2.2.2.1.2 (v7).toNatClampNeg v5), x.2.2.2.2.2)) H := hP
        replace hD : va_D A (wl_Parts ca a0 a1 a2 a3 a4 a5 ((x.1.1, upd x.1.2 (v7).toNatClampNeg v1), (x.2.1.1, upd x.2.1.2 (v7).toNatClampNeg v2), (x.2.2.1.1, upd x.2.2.1.2 (v7).toNatClampNeg v3), (x.2.2.2.1.1, upd x.2.2.2.1.2 (v7).toNatClampNeg v4), (x.2.2.2.2.1.1, vp_updL x.2.2.2.2.1.2 (v7).toNatClampNeg v5), x.2.2.2.2.2)) := hD
        cases hm
        exact ret_mv X hP hS d_Parts_add_120
      · replace hm := ip c5 hm
        cases hm
        exact ret_mv X hP hS d_Parts_add_77
    · replace hm := ineg c3 hm
      refine lv_aload_n hx hb d_Parts_add_52 rfl (lv_at hl 0 rfl) ?_
      refine lv_iload hx hb d_Parts_add_53 (lv_at hl 7 rfl) ?_
      refine lv_iconst (v := 1) hx hb d_Parts_add_55 (by decide) ?_
      refine lv_isub hx hb d_Parts_add_56 ?_
      refine lv_iload hx hb d_Parts_add_57 (lv_at hl 7 rfl) ?_
      obtain ⟨q11, hq11, hm⟩ := ob hm
      refine inv_mUa (C := R_Parts) (As := [.int (v8 - 1), .int v8]) (rest := []) X (c_Parts_move l D ca a0 a1 a2 a3 a4 a5 _ x (v8 - 1) v8 q11 hq11) g_Parts_52 yo_Parts_move ⟨Nat.le_of_ble_eq_true rfl, Nat.le_of_ble_eq_true rfl⟩ hl hP hD rfl (ci := 3) rfl rfl hS hA rfl rfl (Nat.le_of_ble_eq_true rfl) ⟨Nat.zero_le _, Nat.zero_le _⟩ d_Parts_add_59 (fun H locs hP hD hS => ?_)
      refine lv_iinc (v := (v8 + (-1))) (lv' := [(8, .int (v8 + (-1))), (0, .ref a0), (1, .int v1), (2, .int v2), (3, .int v3), (4, .int v4), (5, .long v5), (7, .int v7)]) hx hb d_Parts_add_62 hl (k := 7) rfl rfl (by decide) rfl (fun ls hl => ?_)
      refine lv_goto (tgt := 45) hx hb d_Parts_add_65 (by decide) ?_
      exact ih q11 v1 v2 v3 v4 v5 v7 (v8 + (-1)) _ hm _ _ hP hD hS ls (lv_sub hl [1, 2, 3, 4, 5, 6, 7, 0] rfl)
set_option maxHeartbeats 4000000 in
set_option maxRecDepth 100000 in
theorem c_Parts_add (l : Launch) (D : va_G) (ca : Nat → ClassId) (a0 a1 a2 a3 a4 a5 : Nat) (sz : Nat) (x : St_Parts) (p1 : Int32) (p2 : Int32) (p3 : Int32) (p4 : Int32) (p5 : Int64) (res : St_Parts) (hm : m_Parts_add x p1 p2 p3 p4 p5 = some res) : Met l y_Parts_add (cws y_Parts_add b_Parts_add 9 none) (RM 2 43) (PreW D ca (wl_Parts ca a0 a1 a2 a3 a4 a5 x) [.ref a0, .int p1, .int p2, .int p3, .int p4, .long p5] sz) (QRm D none (wl_Parts ca a0 a1 a2 a3 a4 a5 res) (va_A (wl_Parts ca a0 a1 a2 a3 a4 a5 x) sz)) 0 0 (va_A (wl_Parts ca a0 a1 a2 a3 a4 a5 x) sz) := by
  refine met_ofM (own := R_Parts) (by decide) rfl (Nat.le_of_ble_eq_true rfl) ?_
  intro p e s m below meth c A X hA hP hD ls hl
  obtain ⟨hx, hb, hml, hr, hown, hts, hK, hlocks⟩ := id X
  have hS : va_S A s.heap s.heap [] := va_S.rf
  have hl : lv_has ls 9 [(0, .ref a0), (1, .int p1), (2, .int p2), (3, .int p3), (4, .int p4), (5, .long p5)] := hl
  unfold m_Parts_add at hm
  refine lv_aload_n hx hb d_Parts_add_0 rfl (lv_at hl 0 rfl) ?_
  refine va_get (D := D) (ci := 3) (v := .int x.2.2.2.2.2) (C := R_Parts) (T := F_Parts) (N := 6) hx hb hts i_Parts hown hK hP 0 rfl rfl 5 (by decide) (hts _ wf_Parts_34) (fun _ h9 => h9) rfl d_Parts_add_1 ?_
  refine lv_aload_n hx hb d_Parts_add_4 rfl (lv_at hl 0 rfl) ?_
  refine va_get (D := D) (ci := 3) (v := .ref a1) (C := R_Parts) (T := F_Parts) (N := 6) hx hb hts i_Parts hown hK hP 0 rfl rfl 0 (by decide) (hts _ wf_Parts_15) (fun _ h9 => h9) rfl d_Parts_add_5 ?_
  refine va_alen hx hb hK hP 1 2 rfl rfl (v := nI x.1.1) rfl d_Parts_add_8 ?_
  refine lv_icmp_lt (tgt := 13) hx hb d_Parts_add_9 (by decide) (fun c1 => ?_) (fun c1 => ?_)
  · replace hm := ip c1 hm
    refine lv_aload_n hx hb d_Parts_add_13 rfl (lv_at hl 0 rfl) ?_
    refine va_get (D := D) (ci := 3) (v := .ref a1) (C := R_Parts) (T := F_Parts) (N := 6) hx hb hts i_Parts hown hK hP 0 rfl rfl 0 (by decide) (hts _ wf_Parts_15) (fun _ h9 => h9) rfl d_Parts_add_14 ?_
    refine lv_aload_n hx hb d_Parts_add_17 rfl (lv_at hl 0 rfl) ?_
    refine va_get (D := D) (ci := 3) (v := .int x.2.2.2.2.2) (C := R_Parts) (T := F_Parts) (N := 6) hx hb hts i_Parts hown hK hP 0 rfl rfl 5 (by decide) (hts _ wf_Parts_34) (fun _ h9 => h9) rfl d_Parts_add_18 ?_
    refine lv_iload_n hx hb d_Parts_add_21 rfl (lv_at hl 1 rfl) ?_
    obtain ⟨q2, hq2, hm⟩ := ob hm
    refine inv_rSN (As := [.ref a1, .int x.2.2.2.2.2, .int p1]) (rest := []) (v := .int q2) X (c_Log_placeOf l D ca a1 _ x.1 x.2.2.2.2.2 p1 q2 hq2) g_Parts_38 yo_Log_placeOf.2 ⟨Nat.le_of_ble_eq_true rfl, Nat.le_of_ble_eq_true rfl⟩ hl hP hD [1] rfl rfl hS hA rfl rfl (Nat.le_of_ble_eq_true rfl) ⟨Nat.zero_le _, Nat.zero_le _⟩ d_Parts_add_22 (fun H locs hP hS => ?_)
    refine lv_istore (lv' := [(7, .int q2), (0, .ref a0), (1, .int p1), (2, .int p2), (3, .int p3), (4, .int p4), (5, .long p5)]) hx hb d_Parts_add_25 hl (by decide) rfl (fun ls hl => ?_)
    refine lv_aload_n hx hb d_Parts_add_27 rfl (lv_at hl 1 rfl) ?_
    refine lv_dup hx hb d_Parts_add_28 rfl ?_
    refine va_get (D := D) (ci := 3) (v := .int x.2.2.2.2.2) (C := R_Parts) (T := F_Parts) (N := 6) hx hb hts i_Parts hown hK hP 0 rfl rfl 5 (by decide) (hts _ wf_Parts_34) (fun _ h9 => h9) rfl d_Parts_add_29 ?_
    refine lv_iconst (v := 1) hx hb d_Parts_add_32 (by decide) ?_
    refine lv_iadd hx hb d_Parts_add_33 ?_
    refine va_put (D := D) (ci := 3) (v := .int (x.2.2.2.2.2 + 1)) (ty := .int) (C := R_Parts) (T := F_Parts) (N := 6) hx hb hts i_Parts t_Parts t_Parts_ok n_Parts hown hK hP hD hS 0 rfl rfl 5 (by decide) (hts _ wf_Parts_34) (fun _ h9 => h9) rfl (by decide +kernel) rfl rfl (Nat.le_of_ble_eq_true rfl) d_Parts_add_34 (fun H locs hP hD hS => ?_)
    replace hP : va_P D classes (wl_Parts ca a0 a1 a2 a3 a4 a5 (x.1, x.2.1, x.2.2.1, x.2.2.2.1, x.2.2.2.2.1, (x.2.2.2.2.2 + 1))) H := hP
    replace hD : va_D A (wl_Parts ca a0 a1 a2 a3 a4 a5 (x.1, x.2.1, x.2.2.1, x.2.2.2.1, x.2.2.2.2.1, (x.2.2.2.2.2 + 1))) := hD
    refine lv_aload_n hx hb d_Parts_add_37 rfl (lv_at hl 1 rfl) ?_
    refine va_get (D := D) (ci := 3) (v := .int (x.2.2.2.2.2 + 1)) (C := R_Parts) (T := F_Parts) (N := 6) hx hb hts i_Parts hown hK hP 0 rfl rfl 5 (by decide) (hts _ wf_Parts_34) (fun _ h9 => h9) rfl d_Parts_add_38 ?_
    refine lv_iconst (v := 1) hx hb d_Parts_add_41 (by decide) ?_
    refine lv_isub hx hb d_Parts_add_42 ?_
    refine lv_istore (lv' := [(8, .int ((x.2.2.2.2.2 + 1) - 1)), (7, .int q2), (0, .ref a0), (1, .int p1), (2, .int p2), (3, .int p3), (4, .int p4), (5, .long p5)]) hx hb d_Parts_add_43 hl (by decide) rfl (fun ls hl => ?_)
    exact k_m_Parts_add_L45 X hA FU (x.1, x.2.1, x.2.2.1, x.2.2.2.1, x.2.2.2.2.1, (x.2.2.2.2.2 + 1)) p1 p2 p3 p4 p5 q2 ((x.2.2.2.2.2 + 1) - 1) _ hm _ _ hP hD hS ls (lv_sub hl [2, 3, 4, 5, 6, 7, 1, 0] rfl)
  · replace hm := ineg c1 hm
    cases hm
    exact ret_mv X hP hS d_Parts_add_12
set_option maxHeartbeats 4000000 in
set_option maxRecDepth 100000 in
theorem c_Parts_size (l : Launch) (D : va_G) (ca : Nat → ClassId) (a0 a1 a2 a3 a4 a5 : Nat) (sz : Nat) (x : St_Parts)  (res : Int32) (hm : m_Parts_size x = some res) : Met l y_Parts_size (cws y_Parts_size b_Parts_size 1 (some .int)) (RM 0 0) (PreW D ca (wl_Parts ca a0 a1 a2 a3 a4 a5 x) [.ref a0] sz) (QRr (.int res) (va_A [] sz)) 0 0 (va_A [] sz) := by
  refine met_ofR (own := R_Parts) (by decide) rfl (Nat.le_of_ble_eq_true rfl) ?_
  intro p e s m below meth c A X hA hP hD ls hl
  obtain ⟨hx, hb, hml, hr, hown, hts, hK, hlocks⟩ := id X
  have hS : va_S A s.heap s.heap [] := va_S.rf
  have hl : lv_has ls 1 [(0, .ref a0)] := hl
  unfold m_Parts_size at hm
  refine lv_aload_n hx hb d_Parts_size_0 rfl (lv_at hl 0 rfl) ?_
  refine va_get (D := D) (ci := 3) (v := .int x.2.2.2.2.2) (C := R_Parts) (T := F_Parts) (N := 6) hx hb hts i_Parts hown hK hP 0 rfl rfl 5 (by decide) (hts _ wf_Parts_34) (fun _ h9 => h9) rfl d_Parts_size_1 ?_
  cases hm
  exact ret_ri X hS d_Parts_size_4
set_option maxHeartbeats 4000000 in
set_option maxRecDepth 100000 in
theorem c_Marks_size (l : Launch) (D : va_G) (ca : Nat → ClassId) (a0 a1 a2 a3 a4 a5 : Nat) (sz : Nat) (x : St_Marks)  (res : Int32) (hm : m_Marks_size x = some res) : Met l y_Marks_size (cws y_Marks_size b_Marks_size 1 (some .int)) (RM 0 0) (PreW D ca (wl_Marks ca a0 a1 a2 a3 a4 a5 x) [.ref a0] sz) (QRr (.int res) (va_A [] sz)) 0 0 (va_A [] sz) := by
  refine met_ofR (own := R_Marks) (by decide) rfl (Nat.le_of_ble_eq_true rfl) ?_
  intro p e s m below meth c A X hA hP hD ls hl
  obtain ⟨hx, hb, hml, hr, hown, hts, hK, hlocks⟩ := id X
  have hS : va_S A s.heap s.heap [] := va_S.rf
  have hl : lv_has ls 1 [(0, .ref a0)] := hl
  unfold m_Marks_size at hm
  refine lv_aload_n hx hb d_Marks_size_0 rfl (lv_at hl 0 rfl) ?_
  refine va_get (D := D) (ci := 4) (v := .int x.2.2.2.2.2) (C := R_Marks) (T := F_Marks) (N := 6) hx hb hts i_Marks hown hK hP 0 rfl rfl 5 (by decide) (hts _ wf_Marks_34) (fun _ h9 => h9) rfl d_Marks_size_1 ?_
  cases hm
  exact ret_ri X hS d_Marks_size_4
set_option maxHeartbeats 4000000 in
set_option maxRecDepth 100000 in
theorem c_Marks_has (l : Launch) (D : va_G) (ca : Nat → ClassId) (a0 a1 a2 a3 a4 a5 : Nat) (sz : Nat) (x : St_Marks) (p1 : Int32) (res : Int32) (hm : m_Marks_has x p1 = some res) : Met l y_Marks_has (cws y_Marks_has b_Marks_has 2 (some .boolean)) (RM 0 0) (PreW D ca (wl_Marks ca a0 a1 a2 a3 a4 a5 x) [.ref a0, .int p1] sz) (QRr (.int res) (va_A [] sz)) 0 0 (va_A [] sz) := by
  refine met_ofR (own := R_Marks) (by decide) rfl (Nat.le_of_ble_eq_true rfl) ?_
  intro p e s m below meth c A X hA hP hD ls hl
  obtain ⟨hx, hb, hml, hr, hown, hts, hK, hlocks⟩ := id X
  have hS : va_S A s.heap s.heap [] := va_S.rf
  have hl : lv_has ls 2 [(0, .ref a0), (1, .int p1)] := hl
  unfold m_Marks_has at hm
  refine lv_iload_n hx hb d_Marks_has_0 rfl (lv_at hl 1 rfl) ?_
  refine lv_if_lt (tgt := 25) hx hb d_Marks_has_1 (by decide) (fun c1 => ?_) (fun c1 => ?_)
  · replace hm := ip c1 hm
    refine lv_iconst (v := 0) hx hb d_Marks_has_25 (by decide) ?_
    cases hm
    exact ret_rz X nz0 hS d_Marks_has_26
  · replace hm := ineg c1 hm
    refine lv_iload_n hx hb d_Marks_has_4 rfl (lv_at hl 1 rfl) ?_
    refine lv_aload_n hx hb d_Marks_has_5 rfl (lv_at hl 0 rfl) ?_
    refine va_get (D := D) (ci := 4) (v := .int x.2.2.2.2.2) (C := R_Marks) (T := F_Marks) (N := 6) hx hb hts i_Marks hown hK hP 0 rfl rfl 5 (by decide) (hts _ wf_Marks_34) (fun _ h9 => h9) rfl d_Marks_has_6 ?_
    refine lv_icmp_ge (tgt := 25) hx hb d_Marks_has_9 (by decide) (fun c2 => ?_) (fun c2 => ?_)
    · replace hm := ip c2 hm
      refine lv_iconst (v := 0) hx hb d_Marks_has_25 (by decide) ?_
      cases hm
      exact ret_rz X nz0 hS d_Marks_has_26
    · replace hm := ineg c2 hm
      refine lv_iload_n hx hb d_Marks_has_12 rfl (lv_at hl 1 rfl) ?_
      refine lv_aload_n hx hb d_Marks_has_13 rfl (lv_at hl 0 rfl) ?_
      refine va_get (D := D) (ci := 4) (v := .ref a1) (C := R_Marks) (T := F_Marks) (N := 6) hx hb hts i_Marks hown hK hP 0 rfl rfl 0 (by decide) (hts _ wf_Marks_15) (fun _ h9 => h9) rfl d_Marks_has_14 ?_
      refine va_alen hx hb hK hP 1 2 rfl rfl (v := nI x.1.1) rfl d_Marks_has_17 ?_
      refine lv_icmp_ge (tgt := 25) hx hb d_Marks_has_18 (by decide) (fun c3 => ?_) (fun c3 => ?_)
      · replace hm := ip c3 hm
        refine lv_iconst (v := 0) hx hb d_Marks_has_25 (by decide) ?_
        cases hm
        exact ret_rz X nz0 hS d_Marks_has_26
      · replace hm := ineg c3 hm
        refine lv_iconst (v := 1) hx hb d_Marks_has_21 (by decide) ?_
        refine lv_goto (tgt := 26) hx hb d_Marks_has_22 (by decide) ?_
        cases hm
        exact ret_rz X nz1 hS d_Marks_has_26
set_option maxHeartbeats 4000000 in
set_option maxRecDepth 100000 in
theorem k_m_Marks_move_L67 {p : Program} {l : Launch} {e : Env} {s : State} {m : MethodId} {args : Array Value} {below : List Frame} {meth : Method} {c : Code} {D : va_G} {ca : Nat → ClassId} {a0 a1 a2 a3 a4 a5 : Nat} {A : Nat → Prop} (X : Cx p s m args meth c R_Marks b_Marks_move 4 none D ca) (hA : ∀ q, s.heap.size ≤ q → A q)  : ∀ (n : Nat) (x : St_Marks) (v1 : Int32) (v2 : Int32) (v3 : Int32) (res : St_Marks), m_Marks_move_L67  n x v1 v2 v3 = some res → ∀ (H : Heap) (locs : List Loc), va_P D classes (wl_Marks ca a0 a1 a2 a3 a4 a5 x) H → va_D A (wl_Marks ca a0 a1 a2 a3 a4 a5 x) → va_S A s.heap H locs → ∀ ls : Array Slot, lv_has ls 4 [(0, .ref a0), (1, .int v1), (2, .int v2), (3, .int v3)] → W p l e (RM 1 21) s m args below meth c H locs 0 0 (MQ below (QRm D none (wl_Marks ca a0 a1 a2 a3 a4 a5 res) A) args s 0 0 A) (F0 m 67 ls []) := by
  obtain ⟨hx, hb, hml, hr, hown, hts, hK, hlocks⟩ := id X
  intro n
  induction n with
  | zero =>
    intro x v1 v2 v3 res hm
    rw [m_Marks_move_L67] at hm
    cases hm
  | succ n ih =>
    intro x v1 v2 v3 res hm H locs hP hD hS ls hl
    rw [m_Marks_move_L67] at hm
    refine lv_iload_n hx hb d_Marks_move_67 rfl (lv_at hl 3 rfl) ?_
    refine lv_aload_n hx hb d_Marks_move_68 rfl (lv_at hl 0 rfl) ?_
    refine va_get (D := D) (ci := 4) (v := .ref a2) (C := R_Marks) (T := F_Marks) (N := 6) hx hb hts i_Marks hown hK hP 0 rfl rfl 1 (by decide) (hts _ wf_Marks_21) (fun _ h9 => h9) rfl d_Marks_move_69 ?_
    refine lv_iload_n hx hb d_Marks_move_72 rfl (lv_at hl 1 rfl) ?_
    obtain ⟨b13, hm⟩ := on hm
    refine va_iald hx hb hK hP 2 2 rfl rfl b13 d_Marks_move_73 ?_
    refine lv_icmp_ge (tgt := 105) hx hb d_Marks_move_74 (by decide) (fun c14 => ?_) (fun c14 => ?_)
    · replace hm := ip c14 hm
      cases hm
      exact ret_mv X hP hS d_Marks_move_105
    · replace hm := ineg c14 hm
      refine lv_aload_n hx hb d_Marks_move_77 rfl (lv_at hl 0 rfl) ?_
      refine va_get (D := D) (ci := 4) (v := .ref a4) (C := R_Marks) (T := F_Marks) (N := 6) hx hb hts i_Marks hown hK hP 0 rfl rfl 3 (by decide) (hts _ wf_Marks_31) (fun _ h9 => h9) rfl d_Marks_move_78 ?_
      refine lv_iload_n hx hb d_Marks_move_81 rfl (lv_at hl 2 rfl) ?_
      refine lv_bipush (v := 12) hx hb d_Marks_move_82 (by decide) ?_
      refine lv_imul hx hb d_Marks_move_84 ?_
      refine lv_iload_n hx hb d_Marks_move_85 rfl (lv_at hl 3 rfl) ?_
      refine lv_iadd hx hb d_Marks_move_86 ?_
      refine lv_aload_n hx hb d_Marks_move_87 rfl (lv_at hl 0 rfl) ?_
      refine va_get (D := D) (ci := 4) (v := .ref a4) (C := R_Marks) (T := F_Marks) (N := 6) hx hb hts i_Marks hown hK hP 0 rfl rfl 3 (by decide) (hts _ wf_Marks_31) (fun _ h9 => h9) rfl d_Marks_move_88 ?_
      refine lv_iload_n hx hb d_Marks_move_91 rfl (lv_at hl 1 rfl) ?_
      refine lv_bipush (v := 12) hx hb d_Marks_move_92 (by decide) ?_
      refine lv_imul hx hb d_Marks_move_94 ?_
      refine lv_iload_n hx hb d_Marks_move_95 rfl (lv_at hl 3 rfl) ?_
      refine lv_iadd hx hb d_Marks_move_96 ?_
      obtain ⟨b15, hm⟩ := on hm
      refine va_iald hx hb hK hP 4 2 rfl rfl b15 d_Marks_move_97 ?_
      obtain ⟨b16, hm⟩ := on hm
      refine va_iast hx hb hK hP hD hS 4 2 rfl rfl b16 d_Marks_move_98 (fun H locs hP hD hS => ?_)
      replace hP : va_P D classes (wl_Marks ca a0 a1 a2 a3 a4 a5 (x.1, x.2.1, x.2.2.1, (x.2.2.2.1.1, upd x.2.2.2.1.2 (((v2 * 12) + v3)).toNatClampNeg (x.2.2.2.1.2 (((v1 * 12) + v3)).toNatClampNeg)), x.2.2.2.2.1, x.2.2.2.2.2)) H := hP
      replace hD : va_D A (wl_Marks ca a0 a1 a2 a3 a4 a5 (x.1, x.2.1, x.2.2.1, (x.2.2.2.1.1, upd x.2.2.2.1.2 (((v2 * 12) + v3)).toNatClampNeg (x.2.2.2.1.2 (((v1 * 12) + v3)).toNatClampNeg)), x.2.2.2.2.1, x.2.2.2.2.2)) := hD
      refine lv_iinc (v := (v3 + 1)) (lv' := [(3, .int (v3 + 1)), (0, .ref a0), (1, .int v1), (2, .int v2)]) hx hb d_Marks_move_99 hl (k := 3) rfl rfl (by decide) rfl (fun ls hl => ?_)
      refine lv_goto (tgt := 67) hx hb d_Marks_move_102 (by decide) ?_
      exact ih (x.1, x.2.1, x.2.2.1, (x.2.2.2.1.1, upd x.2.2.2.1.2 (((v2 * 12) + v3)).toNatClampNeg (x.2.2.2.1.2 (((v1 * 12) + v3)).toNatClampNeg)), x.2.2.2.2.1, x.2.2.2.2.2) v1 v2 (v3 + 1) _ hm _ _ hP hD hS ls (lv_sub hl [1, 2, 3, 0] rfl)
set_option maxHeartbeats 4000000 in
set_option maxRecDepth 100000 in
theorem c_Marks_move (l : Launch) (D : va_G) (ca : Nat → ClassId) (a0 a1 a2 a3 a4 a5 : Nat) (sz : Nat) (x : St_Marks) (p1 : Int32) (p2 : Int32) (res : St_Marks) (hm : m_Marks_move x p1 p2 = some res) : Met l y_Marks_move (cws y_Marks_move b_Marks_move 4 none) (RM 1 21) (PreW D ca (wl_Marks ca a0 a1 a2 a3 a4 a5 x) [.ref a0, .int p1, .int p2] sz) (QRm D none (wl_Marks ca a0 a1 a2 a3 a4 a5 res) (va_A (wl_Marks ca a0 a1 a2 a3 a4 a5 x) sz)) 0 0 (va_A (wl_Marks ca a0 a1 a2 a3 a4 a5 x) sz) := by
  refine met_ofM (own := R_Marks) (by decide) rfl (Nat.le_of_ble_eq_true rfl) ?_
  intro p e s m below meth c A X hA hP hD ls hl
  obtain ⟨hx, hb, hml, hr, hown, hts, hK, hlocks⟩ := id X
  have hS : va_S A s.heap s.heap [] := va_S.rf
  have hl : lv_has ls 4 [(0, .ref a0), (1, .int p1), (2, .int p2)] := hl
  unfold m_Marks_move at hm
  refine lv_aload_n hx hb d_Marks_move_0 rfl (lv_at hl 0 rfl) ?_
  refine lv_iload_n hx hb d_Marks_move_1 rfl (lv_at hl 1 rfl) ?_
  obtain ⟨q1, hq1, hm⟩ := ob hm
  refine inv_rVa (C := R_Marks) (As := [.int p1]) (rest := []) (v := .int q1) X (c_Marks_has l D ca a0 a1 a2 a3 a4 a5 _ x p1 q1 hq1) g_Marks_46 yo_Marks_has ⟨Nat.le_of_ble_eq_true rfl, Nat.le_of_ble_eq_true rfl⟩ hl hP hD (ci := 4) rfl rfl hS hA rfl rfl (Nat.le_of_ble_eq_true rfl) ⟨Nat.zero_le _, Nat.zero_le _⟩ d_Marks_move_2 (fun H locs hP hS => ?_)
  refine lv_if_eq (tgt := 16) hx hb d_Marks_move_5 (by decide) (fun c2 => ?_) (fun c2 => ?_)
  · replace hm := ip c2 hm
    cases hm
    exact ret_mv X hP hS d_Marks_move_16
  · replace hm := ineg c2 hm
    refine lv_aload_n hx hb d_Marks_move_8 rfl (lv_at hl 0 rfl) ?_
    refine lv_iload_n hx hb d_Marks_move_9 rfl (lv_at hl 2 rfl) ?_
    obtain ⟨q3, hq3, hm⟩ := ob hm
    refine inv_rVa (C := R_Marks) (As := [.int p2]) (rest := []) (v := .int q3) X (c_Marks_has l D ca a0 a1 a2 a3 a4 a5 _ x p2 q3 hq3) g_Marks_46 yo_Marks_has ⟨Nat.le_of_ble_eq_true rfl, Nat.le_of_ble_eq_true rfl⟩ hl hP hD (ci := 4) rfl rfl hS hA rfl rfl (Nat.le_of_ble_eq_true rfl) ⟨Nat.zero_le _, Nat.zero_le _⟩ d_Marks_move_10 (fun H locs hP hS => ?_)
    refine lv_if_ne (tgt := 17) hx hb d_Marks_move_13 (by decide) (fun c4 => ?_) (fun c4 => ?_)
    · replace hm := ineg c4 hm
      refine lv_aload_n hx hb d_Marks_move_17 rfl (lv_at hl 0 rfl) ?_
      refine va_get (D := D) (ci := 4) (v := .ref a1) (C := R_Marks) (T := F_Marks) (N := 6) hx hb hts i_Marks hown hK hP 0 rfl rfl 0 (by decide) (hts _ wf_Marks_15) (fun _ h9 => h9) rfl d_Marks_move_18 ?_
      refine lv_iload_n hx hb d_Marks_move_21 rfl (lv_at hl 2 rfl) ?_
      refine lv_aload_n hx hb d_Marks_move_22 rfl (lv_at hl 0 rfl) ?_
      refine va_get (D := D) (ci := 4) (v := .ref a1) (C := R_Marks) (T := F_Marks) (N := 6) hx hb hts i_Marks hown hK hP 0 rfl rfl 0 (by decide) (hts _ wf_Marks_15) (fun _ h9 => h9) rfl d_Marks_move_23 ?_
      refine lv_iload_n hx hb d_Marks_move_26 rfl (lv_at hl 1 rfl) ?_
      obtain ⟨b5, hm⟩ := on hm
      refine va_iald hx hb hK hP 1 2 rfl rfl b5 d_Marks_move_27 ?_
      obtain ⟨b6, hm⟩ := on hm
      refine va_iast hx hb hK hP hD hS 1 2 rfl rfl b6 d_Marks_move_28 (fun H locs hP hD hS => ?_)
      replace hP : va_P D classes (wl_Marks ca a0 a1 a2 a3 a4 a5 ((x.1.1, upd x.1.2 (p2).toNatClampNeg (x.1.2 (p1).toNatClampNeg)), x.2.1, x.2.2.1, x.2.2.2.1, x.2.2.2.2.1, x.2.2.2.2.2)) H := hP
      replace hD : va_D A (wl_Marks ca a0 a1 a2 a3 a4 a5 ((x.1.1, upd x.1.2 (p2).toNatClampNeg (x.1.2 (p1).toNatClampNeg)), x.2.1, x.2.2.1, x.2.2.2.1, x.2.2.2.2.1, x.2.2.2.2.2)) := hD
      refine lv_aload_n hx hb d_Marks_move_29 rfl (lv_at hl 0 rfl) ?_
      refine va_get (D := D) (ci := 4) (v := .ref a2) (C := R_Marks) (T := F_Marks) (N := 6) hx hb hts i_Marks hown hK hP 0 rfl rfl 1 (by decide) (hts _ wf_Marks_21) (fun _ h9 => h9) rfl d_Marks_move_30 ?_
      refine lv_iload_n hx hb d_Marks_move_33 rfl (lv_at hl 2 rfl) ?_
      refine lv_aload_n hx hb d_Marks_move_34 rfl (lv_at hl 0 rfl) ?_
      refine va_get (D := D) (ci := 4) (v := .ref a2) (C := R_Marks) (T := F_Marks) (N := 6) hx hb hts i_Marks hown hK hP 0 rfl rfl 1 (by decide) (hts _ wf_Marks_21) (fun _ h9 => h9) rfl d_Marks_move_35 ?_
      refine lv_iload_n hx hb d_Marks_move_38 rfl (lv_at hl 1 rfl) ?_
      obtain ⟨b7, hm⟩ := on hm
      refine va_iald hx hb hK hP 2 2 rfl rfl b7 d_Marks_move_39 ?_
      obtain ⟨b8, hm⟩ := on hm
      refine va_iast hx hb hK hP hD hS 2 2 rfl rfl b8 d_Marks_move_40 (fun H locs hP hD hS => ?_)
      replace hP : va_P D classes (wl_Marks ca a0 a1 a2 a3 a4 a5 ((x.1.1, upd x.1.2 (p2).toNatClampNeg (x.1.2 (p1).toNatClampNeg)), (x.2.1.1, upd x.2.1.2 (p2).toNatClampNeg (x.2.1.2 (p1).toNatClampNeg)), x.2.2.1, x.2.2.2.1, x.2.2.2.2.1, x.2.2.2.2.2)) H := hP
      replace hD : va_D A (wl_Marks ca a0 a1 a2 a3 a4 a5 ((x.1.1, upd x.1.2 (p2).toNatClampNeg (x.1.2 (p1).toNatClampNeg)), (x.2.1.1, upd x.2.1.2 (p2).toNatClampNeg (x.2.1.2 (p1).toNatClampNeg)), x.2.2.1, x.2.2.2.1, x.2.2.2.2.1, x.2.2.2.2.2)) := hD
      refine lv_aload_n hx hb d_Marks_move_41 rfl (lv_at hl 0 rfl) ?_
      refine va_get (D := D) (ci := 4) (v := .ref a3) (C := R_Marks) (T := F_Marks) (N := 6) hx hb hts i_Marks hown hK hP 0 rfl rfl 2 (by decide) (hts _ wf_Marks_24) (fun _ h9 => h9) rfl d_Marks_move_42 ?_
      refine lv_iload_n hx hb d_Marks_move_45 rfl (lv_at hl 2 rfl) ?_
      refine lv_aload_n hx hb d_Marks_move_46 rfl (lv_at hl 0 rfl) ?_
      refine va_get (D := D) (ci := 4) (v := .ref a3) (C := R_Marks) (T := F_Marks) (N := 6) hx hb hts i_Marks hown hK hP 0 rfl rfl 2 (by decide) (hts _ wf_Marks_24) (fun _ h9 => h9) rfl d_Marks_move_47 ?_
      refine lv_iload_n hx hb d_Marks_move_50 rfl (lv_at hl 1 rfl) ?_
      obtain ⟨b9, hm⟩ := on hm
      refine va_iald hx hb hK hP 3 2 rfl rfl b9 d_Marks_move_51 ?_
      obtain ⟨b10, hm⟩ := on hm
      refine va_iast hx hb hK hP hD hS 3 2 rfl rfl b10 d_Marks_move_52 (fun H locs hP hD hS => ?_)
      replace hP : va_P D classes (wl_Marks ca a0 a1 a2 a3 a4 a5 ((x.1.1, upd x.1.2 (p2).toNatClampNeg (x.1.2 (p1).toNatClampNeg)), (x.2.1.1, upd x.2.1.2 (p2).toNatClampNeg (x.2.1.2 (p1).toNatClampNeg)), (x.2.2.1.1, upd x.2.2.1.2 (p2).toNatClampNeg (x.2.2.1.2 (p1).toNatClampNeg)), x.2.2.2.1, x.2.2.2.2.1, x.2.2.2.2.2)) H := hP
      replace hD : va_D A (wl_Marks ca a0 a1 a2 a3 a4 a5 ((x.1.1, upd x.1.2 (p2).toNatClampNeg (x.1.2 (p1).toNatClampNeg)), (x.2.1.1, upd x.2.1.2 (p2).toNatClampNeg (x.2.1.2 (p1).toNatClampNeg)), (x.2.2.1.1, upd x.2.2.1.2 (p2).toNatClampNeg (x.2.2.1.2 (p1).toNatClampNeg)), x.2.2.2.1, x.2.2.2.2.1, x.2.2.2.2.2)) := hD
      refine lv_aload_n hx hb d_Marks_move_53 rfl (lv_at hl 0 rfl) ?_
      refine va_get (D := D) (ci := 4) (v := .ref a5) (C := R_Marks) (T := F_Marks) (N := 6) hx hb hts i_Marks hown hK hP 0 rfl rfl 4 (by decide) (hts _ wf_Marks_27) (fun _ h9 => h9) rfl d_Marks_move_54 ?_
      refine lv_iload_n hx hb d_Marks_move_57 rfl (lv_at hl 2 rfl) ?_
      refine lv_aload_n hx hb d_Marks_move_58 rfl (lv_at hl 0 rfl) ?_
      refine va_get (D := D) (ci := 4) (v := .ref a5) (C := R_Marks) (T := F_Marks) (N := 6) hx hb hts i_Marks hown hK hP 0 rfl rfl 4 (by decide) (hts _ wf_Marks_27) (fun _ h9 => h9) rfl d_Marks_move_59 ?_
      refine lv_iload_n hx hb d_Marks_move_62 rfl (lv_at hl 1 rfl) ?_
      obtain ⟨b11, hm⟩ := on hm
      refine va_lald hx hb hK hP 5 3 rfl rfl b11 d_Marks_move_63 ?_
      obtain ⟨b12, hm⟩ := on hm
      refine va_last hx hb hK hP hD hS 5 3 rfl rfl b12 d_Marks_move_64 (fun H locs hP hD hS => ?_)
      replace hP : va_P D classes (wl_Marks ca a0 a1 a2 a3 a4 a5 ((x.1.1, upd x.1.2 (p2).toNatClampNeg (x.1.2 (p1).toNatClampNeg)), (x.2.1.1, upd x.2.1.2 (p2).toNatClampNeg (x.2.1.2 (p1).toNatClampNeg)), (x.2.2.1.1, upd x.2.2.1.2 (p2).toNatClampNeg (x.2.2.1.2 (p1).toNatClampNeg)), x.2.2.2.1, (x.2.2.2.2.1.1, vp_updL x.2.2.2.2.1.2 (p2).toNatClampNeg (x.2.2.2.2.1.2 (p1).toNatClampNeg)), x.2.2.2.2.2)) H := hP
      replace hD : va_D A (wl_Marks ca a0 a1 a2 a3 a4 a5 ((x.1.1, upd x.1.2 (p2).toNatClampNeg (x.1.2 (p1).toNatClampNeg)), (x.2.1.1, upd x.2.1.2 (p2).toNatClampNeg (x.2.1.2 (p1).toNatClampNeg)), (x.2.2.1.1, upd x.2.2.1.2 (p2).toNatClampNeg (x.2.2.1.2 (p1).toNatClampNeg)), x.2.2.2.1, (x.2.2.2.2.1.1, vp_updL x.2.2.2.2.1.2 (p2).toNatClampNeg (x.2.2.2.2.1.2 (p1).toNatClampNeg)), x.2.2.2.2.2)) := hD
      refine lv_iconst (v := 0) hx hb d_Marks_move_65 (by decide) ?_
      refine lv_istore_n (lv' := [(3, .int 0), (0, .ref a0), (1, .int p1), (2, .int p2)]) hx hb d_Marks_move_66 rfl hl (by decide) rfl (fun ls hl => ?_)
      exact k_m_Marks_move_L67 X hA FU ((x.1.1, upd x.1.2 (p2).toNatClampNeg (x.1.2 (p1).toNatClampNeg)), (x.2.1.1, upd x.2.1.2 (p2).toNatClampNeg (x.2.1.2 (p1).toNatClampNeg)), (x.2.2.1.1, upd x.2.2.1.2 (p2).toNatClampNeg (x.2.2.1.2 (p1).toNatClampNeg)), x.2.2.2.1, (x.2.2.2.2.1.1, vp_updL x.2.2.2.2.1.2 (p2).toNatClampNeg (x.2.2.2.2.1.2 (p1).toNatClampNeg)), x.2.2.2.2.2) p1 p2 0 _ hm _ _ hP hD hS ls (lv_sub hl [1, 2, 3, 0] rfl)
    · replace hm := ip c4 hm
      cases hm
      exact ret_mv X hP hS d_Marks_move_16
set_option maxHeartbeats 4000000 in
set_option maxRecDepth 100000 in
theorem k_m_Marks_add_L46 {p : Program} {l : Launch} {e : Env} {s : State} {m : MethodId} {args : Array Value} {below : List Frame} {meth : Method} {c : Code} {D : va_G} {ca : Nat → ClassId} {a0 a1 a2 a3 a4 a5 : Nat} {A : Nat → Prop} (X : Cx p s m args meth c R_Marks b_Marks_add 8 (some .int) D ca) (hA : ∀ q, s.heap.size ≤ q → A q)  : ∀ (n : Nat) (x : St_Marks) (v1 : Int32) (v2 : Int32) (v3 : Int32) (v4 : Int64) (v6 : Int32) (v7 : Int32) (res : Int32 × St_Marks), m_Marks_add_L46  n x v1 v2 v3 v4 v6 v7 = some res → ∀ (H : Heap) (locs : List Loc), va_P D classes (wl_Marks ca a0 a1 a2 a3 a4 a5 x) H → va_D A (wl_Marks ca a0 a1 a2 a3 a4 a5 x) → va_S A s.heap H locs → ∀ ls : Array Slot, lv_has ls 8 [(0, .ref a0), (1, .int v1), (2, .int v2), (3, .int v3), (4, .long v4), (6, .int v6), (7, .int v7)] → W p l e (RM 2 44) s m args below meth c H locs 0 0 (MQ below (QRm D (some (.int res.1)) (wl_Marks ca a0 a1 a2 a3 a4 a5 res.2) A) args s 0 0 A) (F0 m 46 ls []) := by
  obtain ⟨hx, hb, hml, hr, hown, hts, hK, hlocks⟩ := id X
  intro n
  induction n with
  | zero =>
    intro x v1 v2 v3 v4 v6 v7 res hm
    rw [m_Marks_add_L46] at hm
    cases hm
  | succ n ih =>
    intro x v1 v2 v3 v4 v6 v7 res hm H locs hP hD hS ls hl
    rw [m_Marks_add_L46] at hm
    refine lv_iload hx hb d_Marks_add_46 (lv_at hl 6 rfl) ?_
    refine lv_iload hx hb d_Marks_add_48 (lv_at hl 5 rfl) ?_
    refine lv_icmp_le (tgt := 69) hx hb d_Marks_add_50 (by decide) (fun c3 => ?_) (fun c3 => ?_)
    · replace hm := ip c3 hm
      refine lv_aload_n hx hb d_Marks_add_69 rfl (lv_at hl 0 rfl) ?_
      refine lv_iload hx hb d_Marks_add_70 (lv_at hl 5 rfl) ?_
      obtain ⟨q4, hq4, hm⟩ := ob hm
      refine inv_rVa (C := R_Marks) (As := [.int v6]) (rest := []) (v := .int q4) X (c_Marks_has l D ca a0 a1 a2 a3 a4 a5 _ x v6 q4 hq4) g_Marks_46 yo_Marks_has ⟨Nat.le_of_ble_eq_true rfl, Nat.le_of_ble_eq_true rfl⟩ hl hP hD (ci := 4) rfl rfl hS hA rfl rfl (Nat.le_of_ble_eq_true rfl) ⟨Nat.zero_le _, Nat.zero_le _⟩ d_Marks_add_72 (fun H locs hP hS => ?_)
      refine lv_if_ne (tgt := 80) hx hb d_Marks_add_75 (by decide) (fun c5 => ?_) (fun c5 => ?_)
      · replace hm := ineg c5 hm
        refine lv_aload_n hx hb d_Marks_add_80 rfl (lv_at hl 0 rfl) ?_
        refine va_get (D := D) (ci := 4) (v := .ref a1) (C := R_Marks) (T := F_Marks) (N := 6) hx hb hts i_Marks hown hK hP 0 rfl rfl 0 (by decide) (hts _ wf_Marks_15) (fun _ h9 => h9) rfl d_Marks_add_81 ?_
        refine lv_iload hx hb d_Marks_add_84 (lv_at hl 5 rfl) ?_
        refine lv_iload_n hx hb d_Marks_add_86 rfl (lv_at hl 1 rfl) ?_
        obtain ⟨b6, hm⟩ := on hm
        refine va_iast hx hb hK hP hD hS 1 2 rfl rfl b6 d_Marks_add_87 (fun H locs hP hD hS => ?_)
        replace hP : va_P D classes (wl_Marks ca a0 a1 a2 a3 a4 a5 ((x.1.1, upd x.1.2 (v6).toNatClampNeg v1), x.2.1, x.2.2.1, x.2.2.2.1, x.2.2.2.2.1, x.2.2.2.2.2)) H := hP
        replace hD : va_D A (wl_Marks ca a0 a1 a2 a3 a4 a5 ((x.1.1, upd x.1.2 (v6).toNatClampNeg v1), x.2.1, x.2.2.1, x.2.2.2.1, x.2.2.2.2.1, x.2.2.2.2.2)) := hD
        refine lv_aload_n hx hb d_Marks_add_88 rfl (lv_at hl 0 rfl) ?_
        refine va_get (D := D) (ci := 4) (v := .ref a2) (C := R_Marks) (T := F_Marks) (N := 6) hx hb hts i_Marks hown hK hP 0 rfl rfl 1 (by decide) (hts _ wf_Marks_21) (fun _ h9 => h9) rfl d_Marks_add_89 ?_
        refine lv_iload hx hb d_Marks_add_92 (lv_at hl 5 rfl) ?_
        refine lv_iconst (v := 0) hx hb d_Marks_add_94 (by decide) ?_
        refine lv_bipush (v := 12) hx hb d_Marks_add_95 (by decide) ?_
        refine lv_iload_n hx hb d_Marks_add_97 rfl (lv_at hl 2 rfl) ?_
        refine va_mmin hx hb (hml.trans hl.1.symm) hown (hts _ wm_Marks_57) (hts _ w_min_static) (hts _ w_math_init) (hts _ w_min_code) (Nat.le_of_ble_eq_true rfl) (Nat.le_of_ble_eq_true rfl) (Nat.zero_le _) (Nat.zero_le _) d_Marks_add_98 ?_
        refine va_mmax hx hb (hml.trans hl.1.symm) hown (hts _ wm_Marks_9) (hts _ w_max_static) (hts _ w_math_init) (hts _ w_max_code) (Nat.le_of_ble_eq_true rfl) (Nat.le_of_ble_eq_true rfl) (Nat.zero_le _) (Nat.zero_le _) d_Marks_add_101 ?_
        obtain ⟨b7, hm⟩ := on hm
        refine va_iast hx hb hK hP hD hS 2 2 rfl rfl b7 d_Marks_add_104 (fun H locs hP hD hS => ?_)
        replace hP : va_P D classes (wl_Marks ca a0 a1 a2 a3 a4 a5 ((x.1.1, upd x.1.2 (v6).toNatClampNeg v1), (x.2.1.1, upd x.2.1.2 (v6).toNatClampNeg (jmax 0 (jmin 12 v2))), x.2.2.1, x.2.2.2.1, x.2.2.2.2.1, x.2.2.2.2.2)) H := hP
        replace hD : va_D A (wl_Marks ca a0 a1 a2 a3 a4 a5 ((x.1.1, upd x.1.2 (v6).toNatClampNeg v1), (x.2.1.1, upd x.2.1.2 (v6).toNatClampNeg (jmax 0 (jmin 12 v2))), x.2.2.1, x.2.2.2.1, x.2.2.2.2.1, x.2.2.2.2.2)) := hD
        refine lv_aload_n hx hb d_Marks_add_105 rfl (lv_at hl 0 rfl) ?_
        refine va_get (D := D) (ci := 4) (v := .ref a3) (C := R_Marks) (T := F_Marks) (N := 6) hx hb hts i_Marks hown hK hP 0 rfl rfl 2 (by decide) (hts _ wf_Marks_24) (fun _ h9 => h9) rfl d_Marks_add_106 ?_
        refine lv_iload hx hb d_Marks_add_109 (lv_at hl 5 rfl) ?_
        refine lv_iload_n hx hb d_Marks_add_111 rfl (lv_at hl 3 rfl) ?_
        obtain ⟨b8, hm⟩ := on hm
        refine va_iast hx hb hK hP hD hS 3 2 rfl rfl b8 d_Marks_add_112 (fun H locs hP hD hS => ?_)
        replace hP : va_P D classes (wl_Marks ca a0 a1 a2 a3 a4 a5 ((x.1.1, upd x.1.2 (v6).toNatClampNeg v1), (x.2.1.1, upd x.2.1.2 (v6).toNatClampNeg (jmax 0 (jmin 12 v2))), (x.2.2.1.1, upd x.2.2.1.2 (v6).toNatClampNeg v3), x.2.2.2.1, x.2.2.2.2.1, x.2.2.2.2.2)) H := hP
        replace hD : va_D A (wl_Marks ca a0 a1 a2 a3 a4 a5 ((x.1.1, upd x.1.2 (v6).toNatClampNeg v1), (x.2.1.1, upd x.2.1.2 (v6).toNatClampNeg (jmax 0 (jmin 12 v2))), (x.2.2.1.1, upd x.2.2.1.2 (v6).toNatClampNeg v3), x.2.2.2.1, x.2.2.2.2.1, x.2.2.2.2.2)) := hD
        refine lv_aload_n hx hb d_Marks_add_113 rfl (lv_at hl 0 rfl) ?_
        refine va_get (D := D) (ci := 4) (v := .ref a5) (C := R_Marks) (T := F_Marks) (N := 6) hx hb hts i_Marks hown hK hP 0 rfl rfl 4 (by decide) (hts _ wf_Marks_27) (fun _ h9 => h9) rfl d_Marks_add_114 ?_
        refine lv_iload hx hb d_Marks_add_117 (lv_at hl 5 rfl) ?_
        refine lv_lload hx hb d_Marks_add_119 (lv_at hl 4 rfl) ?_
        obtain ⟨b9, hm⟩ := on hm
        refine va_last hx hb hK hP hD hS 5 3 rfl rfl b9 d_Marks_add_121 (fun H locs hP hD hS => ?_)
        replace hP : va_P D classes (wl_Marks ca a0 a1 a2 a3 a4 a5 ((x.1.1, upd x.1.2 (v6).toNatClampNeg v1), (x.2.1.1, upd x.2.1.2 (v6).toNatClampNeg (jmax 0 (jmin 12 v2))), (x.2.2.1.1, upd x.2.2.1.2 (v6).toNatClampNeg v3), x.2.2.2.1, (x.2.2.2.2.1.1, vp_updL x.2.2.2.2.1.2 (v6).toNatClampNeg v4), x.2.2.2.2.2)) H := hP
        replace hD : va_D A (wl_Marks ca a0 a1 a2 a3 a4 a5 ((x.1.1, upd x.1.2 (v6).toNatClampNeg v1), (x.2.1.1, upd x.2.1.2 (v6).toNatClampNeg (jmax 0 (jmin 12 v2))), (x.2.2.1.1, upd x.2.2.1.2 (v6).toNatClampNeg v3), x.2.2.2.1, (x.2.2.2.2.1.1, vp_updL x.2.2.2.2.1.2 (v6).toNatClampNeg v4), x.2.2.2.2.2)) := hD
        refine lv_iload hx hb d_Marks_add_122 (lv_at hl 5 rfl) ?_
        cases hm
        exact ret_mi X hP hS d_Marks_add_124
      · replace hm := ip c5 hm
        refine lv_iconst (v := (-1)) hx hb d_Marks_add_78 (by decide) ?_
        cases hm
        exact ret_mi X hP hS d_Marks_add_79
    · replace hm := ineg c3 hm
      refine lv_aload_n hx hb d_Marks_add_53 rfl (lv_at hl 0 rfl) ?_
      refine lv_iload hx hb d_Marks_add_54 (lv_at hl 6 rfl) ?_
      refine lv_iconst (v := 1) hx hb d_Marks_add_56 (by decide) ?_
      refine lv_isub hx hb d_Marks_add_57 ?_
      refine lv_iload hx hb d_Marks_add_58 (lv_at hl 6 rfl) ?_
      obtain ⟨q10, hq10, hm⟩ := ob hm
      refine inv_mUa (C := R_Marks) (As := [.int (v7 - 1), .int v7]) (rest := []) X (c_Marks_move l D ca a0 a1 a2 a3 a4 a5 _ x (v7 - 1) v7 q10 hq10) g_Marks_53 yo_Marks_move ⟨Nat.le_of_ble_eq_true rfl, Nat.le_of_ble_eq_true rfl⟩ hl hP hD rfl (ci := 4) rfl rfl hS hA rfl rfl (Nat.le_of_ble_eq_true rfl) ⟨Nat.zero_le _, Nat.zero_le _⟩ d_Marks_add_60 (fun H locs hP hD hS => ?_)
      refine lv_iinc (v := (v7 + (-1))) (lv' := [(7, .int (v7 + (-1))), (0, .ref a0), (1, .int v1), (2, .int v2), (3, .int v3), (4, .long v4), (6, .int v6)]) hx hb d_Marks_add_63 hl (k := 6) rfl rfl (by decide) rfl (fun ls hl => ?_)
      refine lv_goto (tgt := 46) hx hb d_Marks_add_66 (by decide) ?_
      exact ih q10 v1 v2 v3 v4 v6 (v7 + (-1)) _ hm _ _ hP hD hS ls (lv_sub hl [1, 2, 3, 4, 5, 6, 0] rfl)
set_option maxHeartbeats 4000000 in
set_option maxRecDepth 100000 in
theorem c_Marks_add (l : Launch) (D : va_G) (ca : Nat → ClassId) (a0 a1 a2 a3 a4 a5 : Nat) (sz : Nat) (x : St_Marks) (p1 : Int32) (p2 : Int32) (p3 : Int32) (p4 : Int64) (res : Int32 × St_Marks) (hm : m_Marks_add x p1 p2 p3 p4 = some res) : Met l y_Marks_add (cws y_Marks_add b_Marks_add 8 (some .int)) (RM 2 44) (PreW D ca (wl_Marks ca a0 a1 a2 a3 a4 a5 x) [.ref a0, .int p1, .int p2, .int p3, .long p4] sz) (QRm D (some (.int res.1)) (wl_Marks ca a0 a1 a2 a3 a4 a5 res.2) (va_A (wl_Marks ca a0 a1 a2 a3 a4 a5 x) sz)) 0 0 (va_A (wl_Marks ca a0 a1 a2 a3 a4 a5 x) sz) := by
  refine met_ofM (own := R_Marks) (by decide) rfl (Nat.le_of_ble_eq_true rfl) ?_
  intro p e s m below meth c A X hA hP hD ls hl
  obtain ⟨hx, hb, hml, hr, hown, hts, hK, hlocks⟩ := id X
  have hS : va_S A s.heap s.heap [] := va_S.rf
  have hl : lv_has ls 8 [(0, .ref a0), (1, .int p1), (2, .int p2), (3, .int p3), (4, .long p4)] := hl
  unfold m_Marks_add at hm
  refine lv_aload_n hx hb d_Marks_add_0 rfl (lv_at hl 0 rfl) ?_
  refine va_get (D := D) (ci := 4) (v := .int x.2.2.2.2.2) (C := R_Marks) (T := F_Marks) (N := 6) hx hb hts i_Marks hown hK hP 0 rfl rfl 5 (by decide) (hts _ wf_Marks_34) (fun _ h9 => h9) rfl d_Marks_add_1 ?_
  refine lv_aload_n hx hb d_Marks_add_4 rfl (lv_at hl 0 rfl) ?_
  refine va_get (D := D) (ci := 4) (v := .ref a1) (C := R_Marks) (T := F_Marks) (N := 6) hx hb hts i_Marks hown hK hP 0 rfl rfl 0 (by decide) (hts _ wf_Marks_15) (fun _ h9 => h9) rfl d_Marks_add_5 ?_
  refine va_alen hx hb hK hP 1 2 rfl rfl (v := nI x.1.1) rfl d_Marks_add_8 ?_
  refine lv_icmp_lt (tgt := 14) hx hb d_Marks_add_9 (by decide) (fun c1 => ?_) (fun c1 => ?_)
  · replace hm := ip c1 hm
    refine lv_aload_n hx hb d_Marks_add_14 rfl (lv_at hl 0 rfl) ?_
    refine va_get (D := D) (ci := 4) (v := .ref a1) (C := R_Marks) (T := F_Marks) (N := 6) hx hb hts i_Marks hown hK hP 0 rfl rfl 0 (by decide) (hts _ wf_Marks_15) (fun _ h9 => h9) rfl d_Marks_add_15 ?_
    refine lv_aload_n hx hb d_Marks_add_18 rfl (lv_at hl 0 rfl) ?_
    refine va_get (D := D) (ci := 4) (v := .int x.2.2.2.2.2) (C := R_Marks) (T := F_Marks) (N := 6) hx hb hts i_Marks hown hK hP 0 rfl rfl 5 (by decide) (hts _ wf_Marks_34) (fun _ h9 => h9) rfl d_Marks_add_19 ?_
    refine lv_iload_n hx hb d_Marks_add_22 rfl (lv_at hl 1 rfl) ?_
    obtain ⟨q2, hq2, hm⟩ := ob hm
    refine inv_rSN (As := [.ref a1, .int x.2.2.2.2.2, .int p1]) (rest := []) (v := .int q2) X (c_Log_placeOf l D ca a1 _ x.1 x.2.2.2.2.2 p1 q2 hq2) g_Marks_38 yo_Log_placeOf.2 ⟨Nat.le_of_ble_eq_true rfl, Nat.le_of_ble_eq_true rfl⟩ hl hP hD [1] rfl rfl hS hA rfl rfl (Nat.le_of_ble_eq_true rfl) ⟨Nat.zero_le _, Nat.zero_le _⟩ d_Marks_add_23 (fun H locs hP hS => ?_)
    refine lv_istore (lv' := [(6, .int q2), (0, .ref a0), (1, .int p1), (2, .int p2), (3, .int p3), (4, .long p4)]) hx hb d_Marks_add_26 hl (by decide) rfl (fun ls hl => ?_)
    refine lv_aload_n hx hb d_Marks_add_28 rfl (lv_at hl 1 rfl) ?_
    refine lv_dup hx hb d_Marks_add_29 rfl ?_
    refine va_get (D := D) (ci := 4) (v := .int x.2.2.2.2.2) (C := R_Marks) (T := F_Marks) (N := 6) hx hb hts i_Marks hown hK hP 0 rfl rfl 5 (by decide) (hts _ wf_Marks_34) (fun _ h9 => h9) rfl d_Marks_add_30 ?_
    refine lv_iconst (v := 1) hx hb d_Marks_add_33 (by decide) ?_
    refine lv_iadd hx hb d_Marks_add_34 ?_
    refine va_put (D := D) (ci := 4) (v := .int (x.2.2.2.2.2 + 1)) (ty := .int) (C := R_Marks) (T := F_Marks) (N := 6) hx hb hts i_Marks t_Marks t_Marks_ok n_Marks hown hK hP hD hS 0 rfl rfl 5 (by decide) (hts _ wf_Marks_34) (fun _ h9 => h9) rfl (by decide +kernel) rfl rfl (Nat.le_of_ble_eq_true rfl) d_Marks_add_35 (fun H locs hP hD hS => ?_)
    replace hP : va_P D classes (wl_Marks ca a0 a1 a2 a3 a4 a5 (x.1, x.2.1, x.2.2.1, x.2.2.2.1, x.2.2.2.2.1, (x.2.2.2.2.2 + 1))) H := hP
    replace hD : va_D A (wl_Marks ca a0 a1 a2 a3 a4 a5 (x.1, x.2.1, x.2.2.1, x.2.2.2.1, x.2.2.2.2.1, (x.2.2.2.2.2 + 1))) := hD
    refine lv_aload_n hx hb d_Marks_add_38 rfl (lv_at hl 1 rfl) ?_
    refine va_get (D := D) (ci := 4) (v := .int (x.2.2.2.2.2 + 1)) (C := R_Marks) (T := F_Marks) (N := 6) hx hb hts i_Marks hown hK hP 0 rfl rfl 5 (by decide) (hts _ wf_Marks_34) (fun _ h9 => h9) rfl d_Marks_add_39 ?_
    refine lv_iconst (v := 1) hx hb d_Marks_add_42 (by decide) ?_
    refine lv_isub hx hb d_Marks_add_43 ?_
    refine lv_istore (lv' := [(7, .int ((x.2.2.2.2.2 + 1) - 1)), (6, .int q2), (0, .ref a0), (1, .int p1), (2, .int p2), (3, .int p3), (4, .long p4)]) hx hb d_Marks_add_44 hl (by decide) rfl (fun ls hl => ?_)
    exact k_m_Marks_add_L46 X hA FU (x.1, x.2.1, x.2.2.1, x.2.2.2.1, x.2.2.2.2.1, (x.2.2.2.2.2 + 1)) p1 p2 p3 p4 q2 ((x.2.2.2.2.2 + 1) - 1) _ hm _ _ hP hD hS ls (lv_sub hl [2, 3, 4, 5, 6, 1, 0] rfl)
  · replace hm := ineg c1 hm
    refine lv_iconst (v := (-1)) hx hb d_Marks_add_12 (by decide) ?_
    cases hm
    exact ret_mi X hP hS d_Marks_add_13
set_option maxHeartbeats 4000000 in
set_option maxRecDepth 100000 in
theorem c_Parts_numberAt (l : Launch) (D : va_G) (ca : Nat → ClassId) (a0 a1 a2 a3 a4 a5 : Nat) (sz : Nat) (x : St_Parts) (p1 : Int32) (res : Int32) (hm : m_Parts_numberAt x p1 = some res) : Met l y_Parts_numberAt (cws y_Parts_numberAt b_Parts_numberAt 2 (some .int)) (RM 1 21) (PreW D ca (wl_Parts ca a0 a1 a2 a3 a4 a5 x) [.ref a0, .int p1] sz) (QRr (.int res) (va_A [] sz)) 0 0 (va_A [] sz) := by
  refine met_ofR (own := R_Parts) (by decide) rfl (Nat.le_of_ble_eq_true rfl) ?_
  intro p e s m below meth c A X hA hP hD ls hl
  obtain ⟨hx, hb, hml, hr, hown, hts, hK, hlocks⟩ := id X
  have hS : va_S A s.heap s.heap [] := va_S.rf
  have hl : lv_has ls 2 [(0, .ref a0), (1, .int p1)] := hl
  unfold m_Parts_numberAt at hm
  refine lv_aload_n hx hb d_Parts_numberAt_0 rfl (lv_at hl 0 rfl) ?_
  refine lv_iload_n hx hb d_Parts_numberAt_1 rfl (lv_at hl 1 rfl) ?_
  obtain ⟨q1, hq1, hm⟩ := ob hm
  refine inv_rVa (C := R_Parts) (As := [.int p1]) (rest := []) (v := .int q1) X (c_Parts_has l D ca a0 a1 a2 a3 a4 a5 _ x p1 q1 hq1) g_Parts_46 yo_Parts_has ⟨Nat.le_of_ble_eq_true rfl, Nat.le_of_ble_eq_true rfl⟩ hl hP hD (ci := 3) rfl rfl hS hA rfl rfl (Nat.le_of_ble_eq_true rfl) ⟨Nat.zero_le _, Nat.zero_le _⟩ d_Parts_numberAt_2 (fun H locs hP hS => ?_)
  refine lv_if_eq (tgt := 17) hx hb d_Parts_numberAt_5 (by decide) (fun c2 => ?_) (fun c2 => ?_)
  · replace hm := ip c2 hm
    refine lv_iconst (v := (-1)) hx hb d_Parts_numberAt_17 (by decide) ?_
    cases hm
    exact ret_ri X hS d_Parts_numberAt_18
  · replace hm := ineg c2 hm
    refine lv_aload_n hx hb d_Parts_numberAt_8 rfl (lv_at hl 0 rfl) ?_
    refine va_get (D := D) (ci := 3) (v := .ref a1) (C := R_Parts) (T := F_Parts) (N := 6) hx hb hts i_Parts hown hK hP 0 rfl rfl 0 (by decide) (hts _ wf_Parts_15) (fun _ h9 => h9) rfl d_Parts_numberAt_9 ?_
    refine lv_iload_n hx hb d_Parts_numberAt_12 rfl (lv_at hl 1 rfl) ?_
    obtain ⟨b3, hm⟩ := on hm
    refine va_iald hx hb hK hP 1 2 rfl rfl b3 d_Parts_numberAt_13 ?_
    refine lv_goto (tgt := 18) hx hb d_Parts_numberAt_14 (by decide) ?_
    cases hm
    exact ret_ri X hS d_Parts_numberAt_18
set_option maxHeartbeats 4000000 in
set_option maxRecDepth 100000 in
theorem c_Marks_countAt (l : Launch) (D : va_G) (ca : Nat → ClassId) (a0 a1 a2 a3 a4 a5 : Nat) (sz : Nat) (x : St_Marks) (p1 : Int32) (res : Int32) (hm : m_Marks_countAt x p1 = some res) : Met l y_Marks_countAt (cws y_Marks_countAt b_Marks_countAt 2 (some .int)) (RM 1 21) (PreW D ca (wl_Marks ca a0 a1 a2 a3 a4 a5 x) [.ref a0, .int p1] sz) (QRr (.int res) (va_A [] sz)) 0 0 (va_A [] sz) := by
  refine met_ofR (own := R_Marks) (by decide) rfl (Nat.le_of_ble_eq_true rfl) ?_
  intro p e s m below meth c A X hA hP hD ls hl
  obtain ⟨hx, hb, hml, hr, hown, hts, hK, hlocks⟩ := id X
  have hS : va_S A s.heap s.heap [] := va_S.rf
  have hl : lv_has ls 2 [(0, .ref a0), (1, .int p1)] := hl
  unfold m_Marks_countAt at hm
  refine lv_aload_n hx hb d_Marks_countAt_0 rfl (lv_at hl 0 rfl) ?_
  refine lv_iload_n hx hb d_Marks_countAt_1 rfl (lv_at hl 1 rfl) ?_
  obtain ⟨q1, hq1, hm⟩ := ob hm
  refine inv_rVa (C := R_Marks) (As := [.int p1]) (rest := []) (v := .int q1) X (c_Marks_has l D ca a0 a1 a2 a3 a4 a5 _ x p1 q1 hq1) g_Marks_46 yo_Marks_has ⟨Nat.le_of_ble_eq_true rfl, Nat.le_of_ble_eq_true rfl⟩ hl hP hD (ci := 4) rfl rfl hS hA rfl rfl (Nat.le_of_ble_eq_true rfl) ⟨Nat.zero_le _, Nat.zero_le _⟩ d_Marks_countAt_2 (fun H locs hP hS => ?_)
  refine lv_if_eq (tgt := 17) hx hb d_Marks_countAt_5 (by decide) (fun c2 => ?_) (fun c2 => ?_)
  · replace hm := ip c2 hm
    refine lv_iconst (v := 0) hx hb d_Marks_countAt_17 (by decide) ?_
    cases hm
    exact ret_ri X hS d_Marks_countAt_18
  · replace hm := ineg c2 hm
    refine lv_aload_n hx hb d_Marks_countAt_8 rfl (lv_at hl 0 rfl) ?_
    refine va_get (D := D) (ci := 4) (v := .ref a2) (C := R_Marks) (T := F_Marks) (N := 6) hx hb hts i_Marks hown hK hP 0 rfl rfl 1 (by decide) (hts _ wf_Marks_21) (fun _ h9 => h9) rfl d_Marks_countAt_9 ?_
    refine lv_iload_n hx hb d_Marks_countAt_12 rfl (lv_at hl 1 rfl) ?_
    obtain ⟨b3, hm⟩ := on hm
    refine va_iald hx hb hK hP 2 2 rfl rfl b3 d_Marks_countAt_13 ?_
    refine lv_goto (tgt := 18) hx hb d_Marks_countAt_14 (by decide) ?_
    cases hm
    exact ret_ri X hS d_Marks_countAt_18
set_option maxHeartbeats 4000000 in
set_option maxRecDepth 100000 in
theorem c_Marks_setPart (l : Launch) (D : va_G) (ca : Nat → ClassId) (a0 a1 a2 a3 a4 a5 : Nat) (sz : Nat) (x : St_Marks) (p1 : Int32) (p2 : Int32) (p3 : Int32) (res : St_Marks) (hm : m_Marks_setPart x p1 p2 p3 = some res) : Met l y_Marks_setPart (cws y_Marks_setPart b_Marks_setPart 4 none) (RM 2 42) (PreW D ca (wl_Marks ca a0 a1 a2 a3 a4 a5 x) [.ref a0, .int p1, .int p2, .int p3] sz) (QRm D none (wl_Marks ca a0 a1 a2 a3 a4 a5 res) (va_A (wl_Marks ca a0 a1 a2 a3 a4 a5 x) sz)) 0 0 (va_A (wl_Marks ca a0 a1 a2 a3 a4 a5 x) sz) := by
  refine met_ofM (own := R_Marks) (by decide) rfl (Nat.le_of_ble_eq_true rfl) ?_
  intro p e s m below meth c A X hA hP hD ls hl
  obtain ⟨hx, hb, hml, hr, hown, hts, hK, hlocks⟩ := id X
  have hS : va_S A s.heap s.heap [] := va_S.rf
  have hl : lv_has ls 4 [(0, .ref a0), (1, .int p1), (2, .int p2), (3, .int p3)] := hl
  unfold m_Marks_setPart at hm
  refine lv_iload_n hx hb d_Marks_setPart_0 rfl (lv_at hl 2 rfl) ?_
  refine lv_if_lt (tgt := 25) hx hb d_Marks_setPart_1 (by decide) (fun c1 => ?_) (fun c1 => ?_)
  · replace hm := ip c1 hm
    cases hm
    exact ret_mv X hP hS d_Marks_setPart_25
  · replace hm := ineg c1 hm
    refine lv_iload_n hx hb d_Marks_setPart_4 rfl (lv_at hl 2 rfl) ?_
    refine lv_aload_n hx hb d_Marks_setPart_5 rfl (lv_at hl 0 rfl) ?_
    refine lv_iload_n hx hb d_Marks_setPart_6 rfl (lv_at hl 1 rfl) ?_
    obtain ⟨q2, hq2, hm⟩ := ob hm
    refine inv_rVa (C := R_Marks) (As := [.int p1]) (rest := [.int p2]) (v := .int q2) X (c_Marks_countAt l D ca a0 a1 a2 a3 a4 a5 _ x p1 q2 hq2) g_Marks_50 yo_Marks_countAt ⟨Nat.le_of_ble_eq_true rfl, Nat.le_of_ble_eq_true rfl⟩ hl hP hD (ci := 4) rfl rfl hS hA rfl rfl (Nat.le_of_ble_eq_true rfl) ⟨Nat.zero_le _, Nat.zero_le _⟩ d_Marks_setPart_7 (fun H locs hP hS => ?_)
    refine lv_icmp_ge (tgt := 25) hx hb d_Marks_setPart_10 (by decide) (fun c3 => ?_) (fun c3 => ?_)
    · replace hm := ip c3 hm
      cases hm
      exact ret_mv X hP hS d_Marks_setPart_25
    · replace hm := ineg c3 hm
      refine lv_aload_n hx hb d_Marks_setPart_13 rfl (lv_at hl 0 rfl) ?_
      refine va_get (D := D) (ci := 4) (v := .ref a4) (C := R_Marks) (T := F_Marks) (N := 6) hx hb hts i_Marks hown hK hP 0 rfl rfl 3 (by decide) (hts _ wf_Marks_31) (fun _ h9 => h9) rfl d_Marks_setPart_14 ?_
      refine lv_iload_n hx hb d_Marks_setPart_17 rfl (lv_at hl 1 rfl) ?_
      refine lv_bipush (v := 12) hx hb d_Marks_setPart_18 (by decide) ?_
      refine lv_imul hx hb d_Marks_setPart_20 ?_
      refine lv_iload_n hx hb d_Marks_setPart_21 rfl (lv_at hl 2 rfl) ?_
      refine lv_iadd hx hb d_Marks_setPart_22 ?_
      refine lv_iload_n hx hb d_Marks_setPart_23 rfl (lv_at hl 3 rfl) ?_
      obtain ⟨b4, hm⟩ := on hm
      refine va_iast hx hb hK hP hD hS 4 2 rfl rfl b4 d_Marks_setPart_24 (fun H locs hP hD hS => ?_)
      replace hP : va_P D classes (wl_Marks ca a0 a1 a2 a3 a4 a5 (x.1, x.2.1, x.2.2.1, (x.2.2.2.1.1, upd x.2.2.2.1.2 (((p1 * 12) + p2)).toNatClampNeg p3), x.2.2.2.2.1, x.2.2.2.2.2)) H := hP
      replace hD : va_D A (wl_Marks ca a0 a1 a2 a3 a4 a5 (x.1, x.2.1, x.2.2.1, (x.2.2.2.1.1, upd x.2.2.2.1.2 (((p1 * 12) + p2)).toNatClampNeg p3), x.2.2.2.2.1, x.2.2.2.2.2)) := hD
      cases hm
      exact ret_mv X hP hS d_Marks_setPart_25
set_option maxHeartbeats 4000000 in
set_option maxRecDepth 100000 in
theorem c_Marks_numberAt (l : Launch) (D : va_G) (ca : Nat → ClassId) (a0 a1 a2 a3 a4 a5 : Nat) (sz : Nat) (x : St_Marks) (p1 : Int32) (res : Int32) (hm : m_Marks_numberAt x p1 = some res) : Met l y_Marks_numberAt (cws y_Marks_numberAt b_Marks_numberAt 2 (some .int)) (RM 1 21) (PreW D ca (wl_Marks ca a0 a1 a2 a3 a4 a5 x) [.ref a0, .int p1] sz) (QRr (.int res) (va_A [] sz)) 0 0 (va_A [] sz) := by
  refine met_ofR (own := R_Marks) (by decide) rfl (Nat.le_of_ble_eq_true rfl) ?_
  intro p e s m below meth c A X hA hP hD ls hl
  obtain ⟨hx, hb, hml, hr, hown, hts, hK, hlocks⟩ := id X
  have hS : va_S A s.heap s.heap [] := va_S.rf
  have hl : lv_has ls 2 [(0, .ref a0), (1, .int p1)] := hl
  unfold m_Marks_numberAt at hm
  refine lv_aload_n hx hb d_Marks_numberAt_0 rfl (lv_at hl 0 rfl) ?_
  refine lv_iload_n hx hb d_Marks_numberAt_1 rfl (lv_at hl 1 rfl) ?_
  obtain ⟨q1, hq1, hm⟩ := ob hm
  refine inv_rVa (C := R_Marks) (As := [.int p1]) (rest := []) (v := .int q1) X (c_Marks_has l D ca a0 a1 a2 a3 a4 a5 _ x p1 q1 hq1) g_Marks_46 yo_Marks_has ⟨Nat.le_of_ble_eq_true rfl, Nat.le_of_ble_eq_true rfl⟩ hl hP hD (ci := 4) rfl rfl hS hA rfl rfl (Nat.le_of_ble_eq_true rfl) ⟨Nat.zero_le _, Nat.zero_le _⟩ d_Marks_numberAt_2 (fun H locs hP hS => ?_)
  refine lv_if_eq (tgt := 17) hx hb d_Marks_numberAt_5 (by decide) (fun c2 => ?_) (fun c2 => ?_)
  · replace hm := ip c2 hm
    refine lv_iconst (v := (-1)) hx hb d_Marks_numberAt_17 (by decide) ?_
    cases hm
    exact ret_ri X hS d_Marks_numberAt_18
  · replace hm := ineg c2 hm
    refine lv_aload_n hx hb d_Marks_numberAt_8 rfl (lv_at hl 0 rfl) ?_
    refine va_get (D := D) (ci := 4) (v := .ref a1) (C := R_Marks) (T := F_Marks) (N := 6) hx hb hts i_Marks hown hK hP 0 rfl rfl 0 (by decide) (hts _ wf_Marks_15) (fun _ h9 => h9) rfl d_Marks_numberAt_9 ?_
    refine lv_iload_n hx hb d_Marks_numberAt_12 rfl (lv_at hl 1 rfl) ?_
    obtain ⟨b3, hm⟩ := on hm
    refine va_iald hx hb hK hP 1 2 rfl rfl b3 d_Marks_numberAt_13 ?_
    refine lv_goto (tgt := 18) hx hb d_Marks_numberAt_14 (by decide) ?_
    cases hm
    exact ret_ri X hS d_Marks_numberAt_18
set_option maxHeartbeats 4000000 in
set_option maxRecDepth 100000 in
theorem c_Marks_find (l : Launch) (D : va_G) (ca : Nat → ClassId) (a0 a1 a2 a3 a4 a5 : Nat) (sz : Nat) (x : St_Marks) (p1 : Int32) (res : Int32) (hm : m_Marks_find x p1 = some res) : Met l y_Marks_find (cws y_Marks_find b_Marks_find 3 (some .int)) (RM 2 42) (PreW D ca (wl_Marks ca a0 a1 a2 a3 a4 a5 x) [.ref a0, .int p1] sz) (QRr (.int res) (va_A [] sz)) 0 0 (va_A [] sz) := by
  refine met_ofR (own := R_Marks) (by decide) rfl (Nat.le_of_ble_eq_true rfl) ?_
  intro p e s m below meth c A X hA hP hD ls hl
  obtain ⟨hx, hb, hml, hr, hown, hts, hK, hlocks⟩ := id X
  have hS : va_S A s.heap s.heap [] := va_S.rf
  have hl : lv_has ls 3 [(0, .ref a0), (1, .int p1)] := hl
  unfold m_Marks_find at hm
  refine lv_aload_n hx hb d_Marks_find_0 rfl (lv_at hl 0 rfl) ?_
  refine va_get (D := D) (ci := 4) (v := .ref a1) (C := R_Marks) (T := F_Marks) (N := 6) hx hb hts i_Marks hown hK hP 0 rfl rfl 0 (by decide) (hts _ wf_Marks_15) (fun _ h9 => h9) rfl d_Marks_find_1 ?_
  refine lv_aload_n hx hb d_Marks_find_4 rfl (lv_at hl 0 rfl) ?_
  refine va_get (D := D) (ci := 4) (v := .int x.2.2.2.2.2) (C := R_Marks) (T := F_Marks) (N := 6) hx hb hts i_Marks hown hK hP 0 rfl rfl 5 (by decide) (hts _ wf_Marks_34) (fun _ h9 => h9) rfl d_Marks_find_5 ?_
  refine lv_iload_n hx hb d_Marks_find_8 rfl (lv_at hl 1 rfl) ?_
  obtain ⟨q1, hq1, hm⟩ := ob hm
  refine inv_rSN (As := [.ref a1, .int x.2.2.2.2.2, .int p1]) (rest := []) (v := .int q1) X (c_Log_placeOf l D ca a1 _ x.1 x.2.2.2.2.2 p1 q1 hq1) g_Marks_38 yo_Log_placeOf.2 ⟨Nat.le_of_ble_eq_true rfl, Nat.le_of_ble_eq_true rfl⟩ hl hP hD [1] rfl rfl hS hA rfl rfl (Nat.le_of_ble_eq_true rfl) ⟨Nat.zero_le _, Nat.zero_le _⟩ d_Marks_find_9 (fun H locs hP hS => ?_)
  refine lv_istore_n (lv' := [(2, .int q1), (0, .ref a0), (1, .int p1)]) hx hb d_Marks_find_12 rfl hl (by decide) rfl (fun ls hl => ?_)
  refine lv_aload_n hx hb d_Marks_find_13 rfl (lv_at hl 1 rfl) ?_
  refine lv_iload_n hx hb d_Marks_find_14 rfl (lv_at hl 0 rfl) ?_
  obtain ⟨q2, hq2, hm⟩ := ob hm
  refine inv_rVa (C := R_Marks) (As := [.int q1]) (rest := []) (v := .int q2) X (c_Marks_numberAt l D ca a0 a1 a2 a3 a4 a5 _ x q1 q2 hq2) g_Marks_42 yo_Marks_numberAt ⟨Nat.le_of_ble_eq_true rfl, Nat.le_of_ble_eq_true rfl⟩ hl hP hD (ci := 4) rfl rfl hS hA rfl rfl (Nat.le_of_ble_eq_true rfl) ⟨Nat.zero_le _, Nat.zero_le _⟩ d_Marks_find_15 (fun H locs hP hS => ?_)
  refine lv_iload_n hx hb d_Marks_find_18 rfl (lv_at hl 2 rfl) ?_
  refine lv_icmp_ne (tgt := 34) hx hb d_Marks_find_19 (by decide) (fun c3 => ?_) (fun c3 => ?_)
  · replace hm := ineg c3 hm
    refine lv_iconst (v := (-1)) hx hb d_Marks_find_34 (by decide) ?_
    cases hm
    exact ret_ri X hS d_Marks_find_35
  · replace hm := ip c3 hm
    refine lv_iload_n hx hb d_Marks_find_22 rfl (lv_at hl 0 rfl) ?_
    refine lv_aload_n hx hb d_Marks_find_23 rfl (lv_at hl 1 rfl) ?_
    refine va_get (D := D) (ci := 4) (v := .int x.2.2.2.2.2) (C := R_Marks) (T := F_Marks) (N := 6) hx hb hts i_Marks hown hK hP 0 rfl rfl 5 (by decide) (hts _ wf_Marks_34) (fun _ h9 => h9) rfl d_Marks_find_24 ?_
    refine lv_icmp_ge (tgt := 34) hx hb d_Marks_find_27 (by decide) (fun c4 => ?_) (fun c4 => ?_)
    · replace hm := ip c4 hm
      refine lv_iconst (v := (-1)) hx hb d_Marks_find_34 (by decide) ?_
      cases hm
      exact ret_ri X hS d_Marks_find_35
    · replace hm := ineg c4 hm
      refine lv_iload_n hx hb d_Marks_find_30 rfl (lv_at hl 0 rfl) ?_
      refine lv_goto (tgt := 35) hx hb d_Marks_find_31 (by decide) ?_
      cases hm
      exact ret_ri X hS d_Marks_find_35
set_option maxHeartbeats 4000000 in
set_option maxRecDepth 100000 in
theorem c_Log_entriesOf (l : Launch) (D : va_G) (ca : Nat → ClassId)  (sz : Nat)  (p0 : Int32) (res : Int32) (hm : m_Log_entriesOf p0 = some res) : Met l y_Log_entriesOf (cws y_Log_entriesOf b_Log_entriesOf 1 (some .int)) (RM 0 0) (PreW D ca ([]) [.int p0] sz) (QRr (.int res) (va_A [] sz)) 0 0 (va_A [] sz) := by
  refine met_ofR (own := R_Log) (by decide) rfl (Nat.le_of_ble_eq_true rfl) ?_
  intro p e s m below meth c A X hA hP hD ls hl
  obtain ⟨hx, hb, hml, hr, hown, hts, hK, hlocks⟩ := id X
  have hS : va_S A s.heap s.heap [] := va_S.rf
  have hl : lv_has ls 1 [(0, .int p0)] := hl
  unfold m_Log_entriesOf at hm
  refine lv_iload_n hx hb d_Log_entriesOf_0 rfl (lv_at hl 0 rfl) ?_
  refine lv_iconst (v := 2) hx hb d_Log_entriesOf_1 (by decide) ?_
  refine lv_iadd hx hb d_Log_entriesOf_2 ?_
  refine lv_iconst (v := 1) hx hb d_Log_entriesOf_3 (by decide) ?_
  refine lv_isub hx hb d_Log_entriesOf_4 ?_
  refine lv_iconst (v := 2) hx hb d_Log_entriesOf_5 (by decide) ?_
  refine lv_idiv hx hb d_Log_entriesOf_6 (by decide) ?_
  cases hm
  exact ret_ri X hS d_Log_entriesOf_7
set_option maxHeartbeats 4000000 in
set_option maxRecDepth 100000 in
theorem c_Log_rowsOfMark (l : Launch) (D : va_G) (ca : Nat → ClassId)  (sz : Nat)  (p0 : Int32) (res : Int32) (hm : m_Log_rowsOfMark p0 = some res) : Met l y_Log_rowsOfMark (cws y_Log_rowsOfMark b_Log_rowsOfMark 1 (some .int)) (RM 1 20) (PreW D ca ([]) [.int p0] sz) (QRr (.int res) (va_A [] sz)) 0 0 (va_A [] sz) := by
  refine met_ofR (own := R_Log) (by decide) rfl (Nat.le_of_ble_eq_true rfl) ?_
  intro p e s m below meth c A X hA hP hD ls hl
  obtain ⟨hx, hb, hml, hr, hown, hts, hK, hlocks⟩ := id X
  have hS : va_S A s.heap s.heap [] := va_S.rf
  have hl : lv_has ls 1 [(0, .int p0)] := hl
  unfold m_Log_rowsOfMark at hm
  refine lv_iconst (v := 1) hx hb d_Log_rowsOfMark_0 (by decide) ?_
  refine lv_iload_n hx hb d_Log_rowsOfMark_1 rfl (lv_at hl 0 rfl) ?_
  obtain ⟨q1, hq1, hm⟩ := ob hm
  refine inv_rS (As := [.int p0]) (rest := [.int 1]) (v := .int q1) X (c_Log_entriesOf l D ca  _ p0 q1 hq1) g_Log_262 yo_Log_entriesOf ⟨Nat.le_of_ble_eq_true rfl, Nat.le_of_ble_eq_true rfl⟩ hl hP hD [] rfl rfl hS hA rfl rfl (Nat.le_of_ble_eq_true rfl) ⟨Nat.zero_le _, Nat.zero_le _⟩ d_Log_rowsOfMark_2 (fun H locs hP hS => ?_)
  refine lv_iadd hx hb d_Log_rowsOfMark_5 ?_
  cases hm
  exact ret_ri X hS d_Log_rowsOfMark_6
set_option maxHeartbeats 4000000 in
set_option maxRecDepth 100000 in
theorem c_Marks_partAt (l : Launch) (D : va_G) (ca : Nat → ClassId) (a0 a1 a2 a3 a4 a5 : Nat) (sz : Nat) (x : St_Marks) (p1 : Int32) (p2 : Int32) (res : Int32) (hm : m_Marks_partAt x p1 p2 = some res) : Met l y_Marks_partAt (cws y_Marks_partAt b_Marks_partAt 3 (some .int)) (RM 2 42) (PreW D ca (wl_Marks ca a0 a1 a2 a3 a4 a5 x) [.ref a0, .int p1, .int p2] sz) (QRr (.int res) (va_A [] sz)) 0 0 (va_A [] sz) := by
  refine met_ofR (own := R_Marks) (by decide) rfl (Nat.le_of_ble_eq_true rfl) ?_
  intro p e s m below meth c A X hA hP hD ls hl
  obtain ⟨hx, hb, hml, hr, hown, hts, hK, hlocks⟩ := id X
  have hS : va_S A s.heap s.heap [] := va_S.rf
  have hl : lv_has ls 3 [(0, .ref a0), (1, .int p1), (2, .int p2)] := hl
  unfold m_Marks_partAt at hm
  refine lv_iload_n hx hb d_Marks_partAt_0 rfl (lv_at hl 2 rfl) ?_
  refine lv_if_lt (tgt := 27) hx hb d_Marks_partAt_1 (by decide) (fun c1 => ?_) (fun c1 => ?_)
  · replace hm := ip c1 hm
    refine lv_iconst (v := (-1)) hx hb d_Marks_partAt_27 (by decide) ?_
    cases hm
    exact ret_ri X hS d_Marks_partAt_28
  · replace hm := ineg c1 hm
    refine lv_iload_n hx hb d_Marks_partAt_4 rfl (lv_at hl 2 rfl) ?_
    refine lv_aload_n hx hb d_Marks_partAt_5 rfl (lv_at hl 0 rfl) ?_
    refine lv_iload_n hx hb d_Marks_partAt_6 rfl (lv_at hl 1 rfl) ?_
    obtain ⟨q2, hq2, hm⟩ := ob hm
    refine inv_rVa (C := R_Marks) (As := [.int p1]) (rest := [.int p2]) (v := .int q2) X (c_Marks_countAt l D ca a0 a1 a2 a3 a4 a5 _ x p1 q2 hq2) g_Marks_50 yo_Marks_countAt ⟨Nat.le_of_ble_eq_true rfl, Nat.le_of_ble_eq_true rfl⟩ hl hP hD (ci := 4) rfl rfl hS hA rfl rfl (Nat.le_of_ble_eq_true rfl) ⟨Nat.zero_le _, Nat.zero_le _⟩ d_Marks_partAt_7 (fun H locs hP hS => ?_)
    refine lv_icmp_ge (tgt := 27) hx hb d_Marks_partAt_10 (by decide) (fun c3 => ?_) (fun c3 => ?_)
    · replace hm := ip c3 hm
      refine lv_iconst (v := (-1)) hx hb d_Marks_partAt_27 (by decide) ?_
      cases hm
      exact ret_ri X hS d_Marks_partAt_28
    · replace hm := ineg c3 hm
      refine lv_aload_n hx hb d_Marks_partAt_13 rfl (lv_at hl 0 rfl) ?_
      refine va_get (D := D) (ci := 4) (v := .ref a4) (C := R_Marks) (T := F_Marks) (N := 6) hx hb hts i_Marks hown hK hP 0 rfl rfl 3 (by decide) (hts _ wf_Marks_31) (fun _ h9 => h9) rfl d_Marks_partAt_14 ?_
      refine lv_iload_n hx hb d_Marks_partAt_17 rfl (lv_at hl 1 rfl) ?_
      refine lv_bipush (v := 12) hx hb d_Marks_partAt_18 (by decide) ?_
      refine lv_imul hx hb d_Marks_partAt_20 ?_
      refine lv_iload_n hx hb d_Marks_partAt_21 rfl (lv_at hl 2 rfl) ?_
      refine lv_iadd hx hb d_Marks_partAt_22 ?_
      obtain ⟨b4, hm⟩ := on hm
      refine va_iald hx hb hK hP 4 2 rfl rfl b4 d_Marks_partAt_23 ?_
      refine lv_goto (tgt := 28) hx hb d_Marks_partAt_24 (by decide) ?_
      cases hm
      exact ret_ri X hS d_Marks_partAt_28
set_option maxHeartbeats 4000000 in
set_option maxRecDepth 100000 in
theorem c_Parts_find (l : Launch) (D : va_G) (ca : Nat → ClassId) (a0 a1 a2 a3 a4 a5 : Nat) (sz : Nat) (x : St_Parts) (p1 : Int32) (res : Int32) (hm : m_Parts_find x p1 = some res) : Met l y_Parts_find (cws y_Parts_find b_Parts_find 3 (some .int)) (RM 2 42) (PreW D ca (wl_Parts ca a0 a1 a2 a3 a4 a5 x) [.ref a0, .int p1] sz) (QRr (.int res) (va_A [] sz)) 0 0 (va_A [] sz) := by
  refine met_ofR (own := R_Parts) (by decide) rfl (Nat.le_of_ble_eq_true rfl) ?_
  intro p e s m below meth c A X hA hP hD ls hl
  obtain ⟨hx, hb, hml, hr, hown, hts, hK, hlocks⟩ := id X
  have hS : va_S A s.heap s.heap [] := va_S.rf
  have hl : lv_has ls 3 [(0, .ref a0), (1, .int p1)] := hl
  unfold m_Parts_find at hm
  refine lv_aload_n hx hb d_Parts_find_0 rfl (lv_at hl 0 rfl) ?_
  refine va_get (D := D) (ci := 3) (v := .ref a1) (C := R_Parts) (T := F_Parts) (N := 6) hx hb hts i_Parts hown hK hP 0 rfl rfl 0 (by decide) (hts _ wf_Parts_15) (fun _ h9 => h9) rfl d_Parts_find_1 ?_
  refine lv_aload_n hx hb d_Parts_find_4 rfl (lv_at hl 0 rfl) ?_
  refine va_get (D := D) (ci := 3) (v := .int x.2.2.2.2.2) (C := R_Parts) (T := F_Parts) (N := 6) hx hb hts i_Parts hown hK hP 0 rfl rfl 5 (by decide) (hts _ wf_Parts_34) (fun _ h9 => h9) rfl d_Parts_find_5 ?_
  refine lv_iload_n hx hb d_Parts_find_8 rfl (lv_at hl 1 rfl) ?_
  obtain ⟨q1, hq1, hm⟩ := ob hm
  refine inv_rSN (As := [.ref a1, .int x.2.2.2.2.2, .int p1]) (rest := []) (v := .int q1) X (c_Log_placeOf l D ca a1 _ x.1 x.2.2.2.2.2 p1 q1 hq1) g_Parts_38 yo_Log_placeOf.2 ⟨Nat.le_of_ble_eq_true rfl, Nat.le_of_ble_eq_true rfl⟩ hl hP hD [1] rfl rfl hS hA rfl rfl (Nat.le_of_ble_eq_true rfl) ⟨Nat.zero_le _, Nat.zero_le _⟩ d_Parts_find_9 (fun H locs hP hS => ?_)
  refine lv_istore_n (lv' := [(2, .int q1), (0, .ref a0), (1, .int p1)]) hx hb d_Parts_find_12 rfl hl (by decide) rfl (fun ls hl => ?_)
  refine lv_aload_n hx hb d_Parts_find_13 rfl (lv_at hl 1 rfl) ?_
  refine lv_iload_n hx hb d_Parts_find_14 rfl (lv_at hl 0 rfl) ?_
  obtain ⟨q2, hq2, hm⟩ := ob hm
  refine inv_rVa (C := R_Parts) (As := [.int q1]) (rest := []) (v := .int q2) X (c_Parts_numberAt l D ca a0 a1 a2 a3 a4 a5 _ x q1 q2 hq2) g_Parts_42 yo_Parts_numberAt ⟨Nat.le_of_ble_eq_true rfl, Nat.le_of_ble_eq_true rfl⟩ hl hP hD (ci := 3) rfl rfl hS hA rfl rfl (Nat.le_of_ble_eq_true rfl) ⟨Nat.zero_le _, Nat.zero_le _⟩ d_Parts_find_15 (fun H locs hP hS => ?_)
  refine lv_iload_n hx hb d_Parts_find_18 rfl (lv_at hl 2 rfl) ?_
  refine lv_icmp_ne (tgt := 34) hx hb d_Parts_find_19 (by decide) (fun c3 => ?_) (fun c3 => ?_)
  · replace hm := ineg c3 hm
    refine lv_iconst (v := (-1)) hx hb d_Parts_find_34 (by decide) ?_
    cases hm
    exact ret_ri X hS d_Parts_find_35
  · replace hm := ip c3 hm
    refine lv_iload_n hx hb d_Parts_find_22 rfl (lv_at hl 0 rfl) ?_
    refine lv_aload_n hx hb d_Parts_find_23 rfl (lv_at hl 1 rfl) ?_
    refine va_get (D := D) (ci := 3) (v := .int x.2.2.2.2.2) (C := R_Parts) (T := F_Parts) (N := 6) hx hb hts i_Parts hown hK hP 0 rfl rfl 5 (by decide) (hts _ wf_Parts_34) (fun _ h9 => h9) rfl d_Parts_find_24 ?_
    refine lv_icmp_ge (tgt := 34) hx hb d_Parts_find_27 (by decide) (fun c4 => ?_) (fun c4 => ?_)
    · replace hm := ip c4 hm
      refine lv_iconst (v := (-1)) hx hb d_Parts_find_34 (by decide) ?_
      cases hm
      exact ret_ri X hS d_Parts_find_35
    · replace hm := ineg c4 hm
      refine lv_iload_n hx hb d_Parts_find_30 rfl (lv_at hl 0 rfl) ?_
      refine lv_goto (tgt := 35) hx hb d_Parts_find_31 (by decide) ?_
      cases hm
      exact ret_ri X hS d_Parts_find_35
set_option maxHeartbeats 4000000 in
set_option maxRecDepth 100000 in
theorem c_Parts_rowAt (l : Launch) (D : va_G) (ca : Nat → ClassId) (a0 a1 a2 a3 a4 a5 : Nat) (sz : Nat) (x : St_Parts) (p1 : Int32) (res : Int32) (hm : m_Parts_rowAt x p1 = some res) : Met l y_Parts_rowAt (cws y_Parts_rowAt b_Parts_rowAt 2 (some .int)) (RM 1 21) (PreW D ca (wl_Parts ca a0 a1 a2 a3 a4 a5 x) [.ref a0, .int p1] sz) (QRr (.int res) (va_A [] sz)) 0 0 (va_A [] sz) := by
  refine met_ofR (own := R_Parts) (by decide) rfl (Nat.le_of_ble_eq_true rfl) ?_
  intro p e s m below meth c A X hA hP hD ls hl
  obtain ⟨hx, hb, hml, hr, hown, hts, hK, hlocks⟩ := id X
  have hS : va_S A s.heap s.heap [] := va_S.rf
  have hl : lv_has ls 2 [(0, .ref a0), (1, .int p1)] := hl
  unfold m_Parts_rowAt at hm
  refine lv_aload_n hx hb d_Parts_rowAt_0 rfl (lv_at hl 0 rfl) ?_
  refine lv_iload_n hx hb d_Parts_rowAt_1 rfl (lv_at hl 1 rfl) ?_
  obtain ⟨q1, hq1, hm⟩ := ob hm
  refine inv_rVa (C := R_Parts) (As := [.int p1]) (rest := []) (v := .int q1) X (c_Parts_has l D ca a0 a1 a2 a3 a4 a5 _ x p1 q1 hq1) g_Parts_46 yo_Parts_has ⟨Nat.le_of_ble_eq_true rfl, Nat.le_of_ble_eq_true rfl⟩ hl hP hD (ci := 3) rfl rfl hS hA rfl rfl (Nat.le_of_ble_eq_true rfl) ⟨Nat.zero_le _, Nat.zero_le _⟩ d_Parts_rowAt_2 (fun H locs hP hS => ?_)
  refine lv_if_eq (tgt := 17) hx hb d_Parts_rowAt_5 (by decide) (fun c2 => ?_) (fun c2 => ?_)
  · replace hm := ip c2 hm
    refine lv_iconst (v := (-1)) hx hb d_Parts_rowAt_17 (by decide) ?_
    cases hm
    exact ret_ri X hS d_Parts_rowAt_18
  · replace hm := ineg c2 hm
    refine lv_aload_n hx hb d_Parts_rowAt_8 rfl (lv_at hl 0 rfl) ?_
    refine va_get (D := D) (ci := 3) (v := .ref a4) (C := R_Parts) (T := F_Parts) (N := 6) hx hb hts i_Parts hown hK hP 0 rfl rfl 3 (by decide) (hts _ wf_Parts_27) (fun _ h9 => h9) rfl d_Parts_rowAt_9 ?_
    refine lv_iload_n hx hb d_Parts_rowAt_12 rfl (lv_at hl 1 rfl) ?_
    obtain ⟨b3, hm⟩ := on hm
    refine va_iald hx hb hK hP 4 2 rfl rfl b3 d_Parts_rowAt_13 ?_
    refine lv_goto (tgt := 18) hx hb d_Parts_rowAt_14 (by decide) ?_
    cases hm
    exact ret_ri X hS d_Parts_rowAt_18
set_option maxHeartbeats 4000000 in
set_option maxRecDepth 100000 in
theorem c_Log_entryRow (l : Launch) (D : va_G) (ca : Nat → ClassId)  (sz : Nat)  (p0 : Int32) (p1 : Int32) (res : Int32) (hm : m_Log_entryRow p0 p1 = some res) : Met l y_Log_entryRow (cws y_Log_entryRow b_Log_entryRow 2 (some .int)) (RM 0 0) (PreW D ca ([]) [.int p0, .int p1] sz) (QRr (.int res) (va_A [] sz)) 0 0 (va_A [] sz) := by
  refine met_ofR (own := R_Log) (by decide) rfl (Nat.le_of_ble_eq_true rfl) ?_
  intro p e s m below meth c A X hA hP hD ls hl
  obtain ⟨hx, hb, hml, hr, hown, hts, hK, hlocks⟩ := id X
  have hS : va_S A s.heap s.heap [] := va_S.rf
  have hl : lv_has ls 2 [(0, .int p0), (1, .int p1)] := hl
  unfold m_Log_entryRow at hm
  refine lv_iload_n hx hb d_Log_entryRow_0 rfl (lv_at hl 0 rfl) ?_
  refine lv_iconst (v := 1) hx hb d_Log_entryRow_1 (by decide) ?_
  refine lv_iadd hx hb d_Log_entryRow_2 ?_
  refine lv_iload_n hx hb d_Log_entryRow_3 rfl (lv_at hl 1 rfl) ?_
  refine lv_iconst (v := 2) hx hb d_Log_entryRow_4 (by decide) ?_
  refine lv_idiv hx hb d_Log_entryRow_5 (by decide) ?_
  refine lv_iadd hx hb d_Log_entryRow_6 ?_
  cases hm
  exact ret_ri X hS d_Log_entryRow_7
set_option maxHeartbeats 4000000 in
set_option maxRecDepth 100000 in
theorem c_Log_entryByte (l : Launch) (D : va_G) (ca : Nat → ClassId)  (sz : Nat)  (p0 : Int32) (res : Int32) (hm : m_Log_entryByte p0 = some res) : Met l y_Log_entryByte (cws y_Log_entryByte b_Log_entryByte 1 (some .int)) (RM 0 0) (PreW D ca ([]) [.int p0] sz) (QRr (.int res) (va_A [] sz)) 0 0 (va_A [] sz) := by
  refine met_ofR (own := R_Log) (by decide) rfl (Nat.le_of_ble_eq_true rfl) ?_
  intro p e s m below meth c A X hA hP hD ls hl
  obtain ⟨hx, hb, hml, hr, hown, hts, hK, hlocks⟩ := id X
  have hS : va_S A s.heap s.heap [] := va_S.rf
  have hl : lv_has ls 1 [(0, .int p0)] := hl
  unfold m_Log_entryByte at hm
  refine lv_iconst (v := 1) hx hb d_Log_entryByte_0 (by decide) ?_
  refine lv_bipush (v := 14) hx hb d_Log_entryByte_1 (by decide) ?_
  refine lv_iload_n hx hb d_Log_entryByte_3 rfl (lv_at hl 0 rfl) ?_
  refine lv_iconst (v := 2) hx hb d_Log_entryByte_4 (by decide) ?_
  refine lv_irem hx hb d_Log_entryByte_5 (by decide) ?_
  refine lv_imul hx hb d_Log_entryByte_6 ?_
  refine lv_iadd hx hb d_Log_entryByte_7 ?_
  cases hm
  exact ret_ri X hS d_Log_entryByte_8
set_option maxHeartbeats 4000000 in
set_option maxRecDepth 100000 in
theorem c_Medium_at (l : Launch) (D : va_G) (ca : Nat → ClassId) (a0 a1 : Nat) (sz : Nat) (x : St_Medium) (p1 : Int32) (p2 : Int32) (res : Int32) (hm : m_Medium_at x p1 p2 = some res) : Met l y_Medium_at (cws y_Medium_at b_Medium_at 3 (some .int)) (RM 1 22) (PreW D ca (wl_Medium ca a0 a1 x) [.ref a0, .int p1, .int p2] sz) (QRr (.int res) (va_A [] sz)) 0 0 (va_A [] sz) := by
  refine met_ofR (own := R_Medium) (by decide) rfl (Nat.le_of_ble_eq_true rfl) ?_
  intro p e s m below meth c A X hA hP hD ls hl
  obtain ⟨hx, hb, hml, hr, hown, hts, hK, hlocks⟩ := id X
  have hS : va_S A s.heap s.heap [] := va_S.rf
  have hl : lv_has ls 3 [(0, .ref a0), (1, .int p1), (2, .int p2)] := hl
  unfold m_Medium_at at hm
  refine lv_aload_n hx hb d_Medium_at_0 rfl (lv_at hl 0 rfl) ?_
  refine lv_iload_n hx hb d_Medium_at_1 rfl (lv_at hl 1 rfl) ?_
  refine lv_iload_n hx hb d_Medium_at_2 rfl (lv_at hl 2 rfl) ?_
  obtain ⟨q1, hq1, hm⟩ := ob hm
  refine inv_rVa (C := R_Medium) (As := [.int p1, .int p2]) (rest := []) (v := .int q1) X (c_Medium_has l D ca a0 a1 _ x p1 p2 q1 hq1) g_Medium_34 yo_Medium_has ⟨Nat.le_of_ble_eq_true rfl, Nat.le_of_ble_eq_true rfl⟩ hl hP hD (ci := 0) rfl rfl hS hA rfl rfl (Nat.le_of_ble_eq_true rfl) ⟨Nat.zero_le _, Nat.zero_le _⟩ d_Medium_at_3 (fun H locs hP hS => ?_)
  refine lv_if_eq (tgt := 27) hx hb d_Medium_at_6 (by decide) (fun c2 => ?_) (fun c2 => ?_)
  · replace hm := ip c2 hm
    refine lv_iconst (v := 0) hx hb d_Medium_at_27 (by decide) ?_
    cases hm
    exact ret_ri X hS d_Medium_at_28
  · replace hm := ineg c2 hm
    refine lv_aload_n hx hb d_Medium_at_9 rfl (lv_at hl 0 rfl) ?_
    refine va_get (D := D) (ci := 0) (v := .ref a1) (C := R_Medium) (T := F_Medium) (N := 4) hx hb hts i_Medium hown hK hP 0 rfl rfl 1 (by decide) (hts _ wf_Medium_24) (fun _ h9 => h9) rfl d_Medium_at_10 ?_
    refine lv_iload_n hx hb d_Medium_at_13 rfl (lv_at hl 1 rfl) ?_
    refine lv_bipush (v := 32) hx hb d_Medium_at_14 (by decide) ?_
    refine lv_imul hx hb d_Medium_at_16 ?_
    refine lv_iload_n hx hb d_Medium_at_17 rfl (lv_at hl 2 rfl) ?_
    refine lv_iadd hx hb d_Medium_at_18 ?_
    obtain ⟨b3, hm⟩ := on hm
    refine va_bald hx hb hK hP 1 0 rfl rfl b3 d_Medium_at_19 ?_
    refine lv_sipush (v := 255) hx hb d_Medium_at_20 (by decide) ?_
    refine lv_iand hx hb d_Medium_at_23 ?_
    refine lv_goto (tgt := 28) hx hb d_Medium_at_24 (by decide) ?_
    cases hm
    exact ret_ri X hS d_Medium_at_28
set_option maxHeartbeats 4000000 in
set_option maxRecDepth 100000 in
theorem k_m_Medium_number_L6 {p : Program} {l : Launch} {e : Env} {s : State} {m : MethodId} {args : Array Value} {below : List Frame} {meth : Method} {c : Code} {D : va_G} {ca : Nat → ClassId} {a0 a1 : Nat} {A : Nat → Prop} (X : Cx p s m args meth c R_Medium b_Medium_number 7 (some .long) D ca) (hA : ∀ q, s.heap.size ≤ q → A q) {x : St_Medium} : ∀ (n : Nat) (v1 : Int32) (v2 : Int32) (v3 : Int32) (v4 : Int64) (v6 : Int32) (res : Int64), m_Medium_number_L6 x n v1 v2 v3 v4 v6 = some res → ∀ (H : Heap) (locs : List Loc), va_P D classes (wl_Medium ca a0 a1 x) H → va_D (fun _ => True) (wl_Medium ca a0 a1 x) → va_S A s.heap H locs → ∀ ls : Array Slot, lv_has ls 7 [(0, .ref a0), (1, .int v1), (2, .int v2), (3, .int v3), (4, .long v4), (6, .int v6)] → W p l e (RM 2 44) s m args below meth c H locs 0 0 (MQ below (QRr (.long res) A) args s 0 0 A) (F0 m 6 ls []) := by
  obtain ⟨hx, hb, hml, hr, hown, hts, hK, hlocks⟩ := id X
  intro n
  induction n with
  | zero =>
    intro v1 v2 v3 v4 v6 res hm
    rw [m_Medium_number_L6] at hm
    cases hm
  | succ n ih =>
    intro v1 v2 v3 v4 v6 res hm H locs hP hD hS ls hl
    rw [m_Medium_number_L6] at hm
    refine lv_iload hx hb d_Medium_number_6 (lv_at hl 5 rfl) ?_
    refine lv_iload_n hx hb d_Medium_number_8 rfl (lv_at hl 3 rfl) ?_
    refine lv_icmp_ge (tgt := 36) hx hb d_Medium_number_9 (by decide) (fun c1 => ?_) (fun c1 => ?_)
    · replace hm := ip c1 hm
      refine lv_lload hx hb d_Medium_number_36 (lv_at hl 4 rfl) ?_
      cases hm
      exact ret_rl X hS d_Medium_number_38
    · replace hm := ineg c1 hm
      refine lv_lload hx hb d_Medium_number_12 (lv_at hl 4 rfl) ?_
      refine lv_bipush (v := 8) hx hb d_Medium_number_14 (by decide) ?_
      refine lv_lshl (v := (jlshl v4 8)) hx hb d_Medium_number_16 rfl ?_
      refine lv_aload_n hx hb d_Medium_number_17 rfl (lv_at hl 0 rfl) ?_
      refine lv_iload_n hx hb d_Medium_number_18 rfl (lv_at hl 1 rfl) ?_
      refine lv_iload_n hx hb d_Medium_number_19 rfl (lv_at hl 2 rfl) ?_
      refine lv_iload hx hb d_Medium_number_20 (lv_at hl 5 rfl) ?_
      refine lv_iadd hx hb d_Medium_number_22 ?_
      obtain ⟨q2, hq2, hm⟩ := ob hm
      refine inv_rVa (C := R_Medium) (As := [.int v1, .int (v2 + v6)]) (rest := [.long (jlshl v4 8)]) (v := .int q2) X (c_Medium_at l D ca a0 a1 _ x v1 (v2 + v6) q2 hq2) g_Medium_38 yo_Medium_at ⟨Nat.le_of_ble_eq_true rfl, Nat.le_of_ble_eq_true rfl⟩ hl hP hD (ci := 0) rfl rfl hS hA rfl rfl (Nat.le_of_ble_eq_true rfl) ⟨Nat.zero_le _, Nat.zero_le _⟩ d_Medium_number_23 (fun H locs hP hS => ?_)
      refine lv_i2l (v := ((q2).toInt64)) hx hb d_Medium_number_26 rfl ?_
      refine lv_lor hx hb d_Medium_number_27 ?_
      refine lv_lstore (lv' := [(4, .long ((jlshl v4 8) ||| ((q2).toInt64))), (0, .ref a0), (1, .int v1), (2, .int v2), (3, .int v3), (6, .int v6)]) hx hb d_Medium_number_28 hl (by decide) rfl (fun ls hl => ?_)
      refine lv_iinc (v := (v6 + 1)) (lv' := [(6, .int (v6 + 1)), (4, .long ((jlshl v4 8) ||| ((q2).toInt64))), (0, .ref a0), (1, .int v1), (2, .int v2), (3, .int v3)]) hx hb d_Medium_number_30 hl (k := 5) rfl rfl (by decide) rfl (fun ls hl => ?_)
      refine lv_goto (tgt := 6) hx hb d_Medium_number_33 (by decide) ?_
      exact ih  v1 v2 v3 ((jlshl v4 8) ||| ((q2).toInt64)) (v6 + 1) _ hm _ _ hP hD hS ls (lv_sub hl [2, 3, 4, 5, 1, 0] rfl)
set_option maxHeartbeats 4000000 in
set_option maxRecDepth 100000 in
theorem c_Medium_number (l : Launch) (D : va_G) (ca : Nat → ClassId) (a0 a1 : Nat) (sz : Nat) (x : St_Medium) (p1 : Int32) (p2 : Int32) (p3 : Int32) (res : Int64) (hm : m_Medium_number x p1 p2 p3 = some res) : Met l y_Medium_number (cws y_Medium_number b_Medium_number 7 (some .long)) (RM 2 44) (PreW D ca (wl_Medium ca a0 a1 x) [.ref a0, .int p1, .int p2, .int p3] sz) (QRr (.long res) (va_A [] sz)) 0 0 (va_A [] sz) := by
  refine met_ofR (own := R_Medium) (by decide) rfl (Nat.le_of_ble_eq_true rfl) ?_
  intro p e s m below meth c A X hA hP hD ls hl
  obtain ⟨hx, hb, hml, hr, hown, hts, hK, hlocks⟩ := id X
  have hS : va_S A s.heap s.heap [] := va_S.rf
  have hl : lv_has ls 7 [(0, .ref a0), (1, .int p1), (2, .int p2), (3, .int p3)] := hl
  unfold m_Medium_number at hm
  refine lv_lconst (v := 0) hx hb d_Medium_number_0 (by decide) ?_
  refine lv_lstore (lv' := [(4, .long 0), (0, .ref a0), (1, .int p1), (2, .int p2), (3, .int p3)]) hx hb d_Medium_number_1 hl (by decide) rfl (fun ls hl => ?_)
  refine lv_iconst (v := 0) hx hb d_Medium_number_3 (by decide) ?_
  refine lv_istore (lv' := [(6, .int 0), (4, .long 0), (0, .ref a0), (1, .int p1), (2, .int p2), (3, .int p3)]) hx hb d_Medium_number_4 hl (by decide) rfl (fun ls hl => ?_)
  exact k_m_Medium_number_L6 X hA FU  p1 p2 p3 0 0 _ hm _ _ hP hD hS ls (lv_sub hl [2, 3, 4, 5, 1, 0] rfl)
set_option maxHeartbeats 4000000 in
set_option maxRecDepth 100000 in
theorem k_m_Marks_remove_L13 {p : Program} {l : Launch} {e : Env} {s : State} {m : MethodId} {args : Array Value} {below : List Frame} {meth : Method} {c : Code} {D : va_G} {ca : Nat → ClassId} {a0 a1 a2 a3 a4 a5 : Nat} {A : Nat → Prop} (X : Cx p s m args meth c R_Marks b_Marks_remove 3 none D ca) (hA : ∀ q, s.heap.size ≤ q → A q)  : ∀ (n : Nat) (x : St_Marks) (v2 : Int32) (res : St_Marks), m_Marks_remove_L13  n x v2 = some res → ∀ (H : Heap) (locs : List Loc), va_P D classes (wl_Marks ca a0 a1 a2 a3 a4 a5 x) H → va_D A (wl_Marks ca a0 a1 a2 a3 a4 a5 x) → va_S A s.heap H locs → ∀ ls : Array Slot, lv_has ls 3 [(0, .ref a0), (2, .int v2)] → W p l e (RM 2 44) s m args below meth c H locs 0 0 (MQ below (QRm D none (wl_Marks ca a0 a1 a2 a3 a4 a5 res) A) args s 0 0 A) (F0 m 13 ls []) := by
  obtain ⟨hx, hb, hml, hr, hown, hts, hK, hlocks⟩ := id X
  intro n
  induction n with
  | zero =>
    intro x v2 res hm
    rw [m_Marks_remove_L13] at hm
    cases hm
  | succ n ih =>
    intro x v2 res hm H locs hP hD hS ls hl
    rw [m_Marks_remove_L13] at hm
    refine lv_iload_n hx hb d_Marks_remove_13 rfl (lv_at hl 1 rfl) ?_
    refine lv_aload_n hx hb d_Marks_remove_14 rfl (lv_at hl 0 rfl) ?_
    refine va_get (D := D) (ci := 4) (v := .int x.2.2.2.2.2) (C := R_Marks) (T := F_Marks) (N := 6) hx hb hts i_Marks hown hK hP 0 rfl rfl 5 (by decide) (hts _ wf_Marks_34) (fun _ h9 => h9) rfl d_Marks_remove_15 ?_
    refine lv_icmp_ge (tgt := 35) hx hb d_Marks_remove_18 (by decide) (fun c3 => ?_) (fun c3 => ?_)
    · replace hm := ip c3 hm
      refine lv_aload_n hx hb d_Marks_remove_35 rfl (lv_at hl 0 rfl) ?_
      refine lv_dup hx hb d_Marks_remove_36 rfl ?_
      refine va_get (D := D) (ci := 4) (v := .int x.2.2.2.2.2) (C := R_Marks) (T := F_Marks) (N := 6) hx hb hts i_Marks hown hK hP 0 rfl rfl 5 (by decide) (hts _ wf_Marks_34) (fun _ h9 => h9) rfl d_Marks_remove_37 ?_
      refine lv_iconst (v := 1) hx hb d_Marks_remove_40 (by decide) ?_
      refine lv_isub hx hb d_Marks_remove_41 ?_
      refine va_put (D := D) (ci := 4) (v := .int (x.2.2.2.2.2 - 1)) (ty := .int) (C := R_Marks) (T := F_Marks) (N := 6) hx hb hts i_Marks t_Marks t_Marks_ok n_Marks hown hK hP hD hS 0 rfl rfl 5 (by decide) (hts _ wf_Marks_34) (fun _ h9 => h9) rfl (by decide +kernel) rfl rfl (Nat.le_of_ble_eq_true rfl) d_Marks_remove_42 (fun H locs hP hD hS => ?_)
      replace hP : va_P D classes (wl_Marks ca a0 a1 a2 a3 a4 a5 (x.1, x.2.1, x.2.2.1, x.2.2.2.1, x.2.2.2.2.1, (x.2.2.2.2.2 - 1))) H := hP
      replace hD : va_D A (wl_Marks ca a0 a1 a2 a3 a4 a5 (x.1, x.2.1, x.2.2.1, x.2.2.2.1, x.2.2.2.2.1, (x.2.2.2.2.2 - 1))) := hD
      cases hm
      exact ret_mv X hP hS d_Marks_remove_45
    · replace hm := ineg c3 hm
      refine lv_aload_n hx hb d_Marks_remove_21 rfl (lv_at hl 0 rfl) ?_
      refine lv_iload_n hx hb d_Marks_remove_22 rfl (lv_at hl 1 rfl) ?_
      refine lv_iload_n hx hb d_Marks_remove_23 rfl (lv_at hl 1 rfl) ?_
      refine lv_iconst (v := 1) hx hb d_Marks_remove_24 (by decide) ?_
      refine lv_isub hx hb d_Marks_remove_25 ?_
      obtain ⟨q4, hq4, hm⟩ := ob hm
      refine inv_mUa (C := R_Marks) (As := [.int v2, .int (v2 - 1)]) (rest := []) X (c_Marks_move l D ca a0 a1 a2 a3 a4 a5 _ x v2 (v2 - 1) q4 hq4) g_Marks_53 yo_Marks_move ⟨Nat.le_of_ble_eq_true rfl, Nat.le_of_ble_eq_true rfl⟩ hl hP hD rfl (ci := 4) rfl rfl hS hA rfl rfl (Nat.le_of_ble_eq_true rfl) ⟨Nat.zero_le _, Nat.zero_le _⟩ d_Marks_remove_26 (fun H locs hP hD hS => ?_)
      refine lv_iinc (v := (v2 + 1)) (lv' := [(2, .int (v2 + 1)), (0, .ref a0)]) hx hb d_Marks_remove_29 hl (k := 1) rfl rfl (by decide) rfl (fun ls hl => ?_)
      refine lv_goto (tgt := 13) hx hb d_Marks_remove_32 (by decide) ?_
      exact ih q4 (v2 + 1) _ hm _ _ hP hD hS ls (lv_sub hl [1, 0] rfl)
set_option maxHeartbeats 4000000 in
set_option maxRecDepth 100000 in
theorem c_Marks_remove (l : Launch) (D : va_G) (ca : Nat → ClassId) (a0 a1 a2 a3 a4 a5 : Nat) (sz : Nat) (x : St_Marks) (p1 : Int32) (res : St_Marks) (hm : m_Marks_remove x p1 = some res) : Met l y_Marks_remove (cws y_Marks_remove b_Marks_remove 3 none) (RM 2 44) (PreW D ca (wl_Marks ca a0 a1 a2 a3 a4 a5 x) [.ref a0, .int p1] sz) (QRm D none (wl_Marks ca a0 a1 a2 a3 a4 a5 res) (va_A (wl_Marks ca a0 a1 a2 a3 a4 a5 x) sz)) 0 0 (va_A (wl_Marks ca a0 a1 a2 a3 a4 a5 x) sz) := by
  refine met_ofM (own := R_Marks) (by decide) rfl (Nat.le_of_ble_eq_true rfl) ?_
  intro p e s m below meth c A X hA hP hD ls hl
  obtain ⟨hx, hb, hml, hr, hown, hts, hK, hlocks⟩ := id X
  have hS : va_S A s.heap s.heap [] := va_S.rf
  have hl : lv_has ls 3 [(0, .ref a0), (1, .int p1)] := hl
  unfold m_Marks_remove at hm
  refine lv_aload_n hx hb d_Marks_remove_0 rfl (lv_at hl 0 rfl) ?_
  refine lv_iload_n hx hb d_Marks_remove_1 rfl (lv_at hl 1 rfl) ?_
  obtain ⟨q1, hq1, hm⟩ := ob hm
  refine inv_rVa (C := R_Marks) (As := [.int p1]) (rest := []) (v := .int q1) X (c_Marks_has l D ca a0 a1 a2 a3 a4 a5 _ x p1 q1 hq1) g_Marks_46 yo_Marks_has ⟨Nat.le_of_ble_eq_true rfl, Nat.le_of_ble_eq_true rfl⟩ hl hP hD (ci := 4) rfl rfl hS hA rfl rfl (Nat.le_of_ble_eq_true rfl) ⟨Nat.zero_le _, Nat.zero_le _⟩ d_Marks_remove_2 (fun H locs hP hS => ?_)
  refine lv_if_ne (tgt := 9) hx hb d_Marks_remove_5 (by decide) (fun c2 => ?_) (fun c2 => ?_)
  · replace hm := ineg c2 hm
    refine lv_iload_n hx hb d_Marks_remove_9 rfl (lv_at hl 1 rfl) ?_
    refine lv_iconst (v := 1) hx hb d_Marks_remove_10 (by decide) ?_
    refine lv_iadd hx hb d_Marks_remove_11 ?_
    refine lv_istore_n (lv' := [(2, .int (p1 + 1)), (0, .ref a0), (1, .int p1)]) hx hb d_Marks_remove_12 rfl hl (by decide) rfl (fun ls hl => ?_)
    exact k_m_Marks_remove_L13 X hA FU x (p1 + 1) _ hm _ _ hP hD hS ls (lv_sub hl [1, 0] rfl)
  · replace hm := ip c2 hm
    cases hm
    exact ret_mv X hP hS d_Marks_remove_8
set_option maxHeartbeats 4000000 in
set_option maxRecDepth 100000 in
theorem k_m_Marks_greatestPart_L4 {p : Program} {l : Launch} {e : Env} {s : State} {m : MethodId} {args : Array Value} {below : List Frame} {meth : Method} {c : Code} {D : va_G} {ca : Nat → ClassId} {a0 a1 a2 a3 a4 a5 : Nat} {A : Nat → Prop} (X : Cx p s m args meth c R_Marks b_Marks_greatestPart 3 (some .int) D ca) (hA : ∀ q, s.heap.size ≤ q → A q) {x : St_Marks} : ∀ (n : Nat) (v1 : Int32) (v2 : Int32) (res : Int32), m_Marks_greatestPart_L4 x n v1 v2 = some res → ∀ (H : Heap) (locs : List Loc), va_P D classes (wl_Marks ca a0 a1 a2 a3 a4 a5 x) H → va_D (fun _ => True) (wl_Marks ca a0 a1 a2 a3 a4 a5 x) → va_S A s.heap H locs → ∀ ls : Array Slot, lv_has ls 3 [(0, .ref a0), (1, .int v1), (2, .int v2)] → W p l e (RM 3 64) s m args below meth c H locs 0 0 (MQ below (QRr (.int res) A) args s 0 0 A) (F0 m 4 ls []) := by
  obtain ⟨hx, hb, hml, hr, hown, hts, hK, hlocks⟩ := id X
  intro n
  induction n with
  | zero =>
    intro v1 v2 res hm
    rw [m_Marks_greatestPart_L4] at hm
    cases hm
  | succ n ih =>
    intro v1 v2 res hm H locs hP hD hS ls hl
    rw [m_Marks_greatestPart_L4] at hm
    refine lv_iload_n hx hb d_Marks_greatestPart_4 rfl (lv_at hl 2 rfl) ?_
    refine lv_aload_n hx hb d_Marks_greatestPart_5 rfl (lv_at hl 0 rfl) ?_
    refine va_get (D := D) (ci := 4) (v := .int x.2.2.2.2.2) (C := R_Marks) (T := F_Marks) (N := 6) hx hb hts i_Marks hown hK hP 0 rfl rfl 5 (by decide) (hts _ wf_Marks_34) (fun _ h9 => h9) rfl d_Marks_greatestPart_6 ?_
    refine lv_icmp_ge (tgt := 35) hx hb d_Marks_greatestPart_9 (by decide) (fun c1 => ?_) (fun c1 => ?_)
    · replace hm := ip c1 hm
      refine lv_iload_n hx hb d_Marks_greatestPart_35 rfl (lv_at hl 1 rfl) ?_
      cases hm
      exact ret_ri X hS d_Marks_greatestPart_36
    · replace hm := ineg c1 hm
      refine lv_iload_n hx hb d_Marks_greatestPart_12 rfl (lv_at hl 1 rfl) ?_
      refine lv_aload_n hx hb d_Marks_greatestPart_13 rfl (lv_at hl 0 rfl) ?_
      refine lv_iload_n hx hb d_Marks_greatestPart_14 rfl (lv_at hl 2 rfl) ?_
      refine lv_aload_n hx hb d_Marks_greatestPart_15 rfl (lv_at hl 0 rfl) ?_
      refine lv_iload_n hx hb d_Marks_greatestPart_16 rfl (lv_at hl 2 rfl) ?_
      obtain ⟨q2, hq2, hm⟩ := ob hm
      refine inv_rVa (C := R_Marks) (As := [.int v2]) (rest := [.int v2, .ref a0, .int v1]) (v := .int q2) X (c_Marks_countAt l D ca a0 a1 a2 a3 a4 a5 _ x v2 q2 hq2) g_Marks_50 yo_Marks_countAt ⟨Nat.le_of_ble_eq_true rfl, Nat.le_of_ble_eq_true rfl⟩ hl hP hD (ci := 4) rfl rfl hS hA rfl rfl (Nat.le_of_ble_eq_true rfl) ⟨Nat.zero_le _, Nat.zero_le _⟩ d_Marks_greatestPart_17 (fun H locs hP hS => ?_)
      refine lv_iconst (v := 1) hx hb d_Marks_greatestPart_20 (by decide) ?_
      refine lv_isub hx hb d_Marks_greatestPart_21 ?_
      obtain ⟨q3, hq3, hm⟩ := ob hm
      refine inv_rVa (C := R_Marks) (As := [.int v2, .int (q2 - 1)]) (rest := [.int v1]) (v := .int q3) X (c_Marks_partAt l D ca a0 a1 a2 a3 a4 a5 _ x v2 (q2 - 1) q3 hq3) g_Marks_64 yo_Marks_partAt ⟨Nat.le_of_ble_eq_true rfl, Nat.le_of_ble_eq_true rfl⟩ hl hP hD (ci := 4) rfl rfl hS hA rfl rfl (Nat.le_of_ble_eq_true rfl) ⟨Nat.zero_le _, Nat.zero_le _⟩ d_Marks_greatestPart_22 (fun H locs hP hS => ?_)
      refine va_mmax hx hb (hml.trans hl.1.symm) hown (hts _ wm_Marks_9) (hts _ w_max_static) (hts _ w_math_init) (hts _ w_max_code) (Nat.le_of_ble_eq_true rfl) (Nat.le_of_ble_eq_true rfl) (Nat.zero_le _) (Nat.zero_le _) d_Marks_greatestPart_25 ?_
      refine lv_istore_n (lv' := [(1, .int (jmax v1 q3)), (0, .ref a0), (2, .int v2)]) hx hb d_Marks_greatestPart_28 rfl hl (by decide) rfl (fun ls hl => ?_)
      refine lv_iinc (v := (v2 + 1)) (lv' := [(2, .int (v2 + 1)), (1, .int (jmax v1 q3)), (0, .ref a0)]) hx hb d_Marks_greatestPart_29 hl (k := 2) rfl rfl (by decide) rfl (fun ls hl => ?_)
      refine lv_goto (tgt := 4) hx hb d_Marks_greatestPart_32 (by decide) ?_
      exact ih  (jmax v1 q3) (v2 + 1) _ hm _ _ hP hD hS ls (lv_sub hl [2, 1, 0] rfl)
set_option maxHeartbeats 4000000 in
set_option maxRecDepth 100000 in
theorem c_Marks_greatestPart (l : Launch) (D : va_G) (ca : Nat → ClassId) (a0 a1 a2 a3 a4 a5 : Nat) (sz : Nat) (x : St_Marks)  (res : Int32) (hm : m_Marks_greatestPart x = some res) : Met l y_Marks_greatestPart (cws y_Marks_greatestPart b_Marks_greatestPart 3 (some .int)) (RM 3 64) (PreW D ca (wl_Marks ca a0 a1 a2 a3 a4 a5 x) [.ref a0] sz) (QRr (.int res) (va_A [] sz)) 0 0 (va_A [] sz) := by
  refine met_ofR (own := R_Marks) (by decide) rfl (Nat.le_of_ble_eq_true rfl) ?_
  intro p e s m below meth c A X hA hP hD ls hl
  obtain ⟨hx, hb, hml, hr, hown, hts, hK, hlocks⟩ := id X
  have hS : va_S A s.heap s.heap [] := va_S.rf
  have hl : lv_has ls 3 [(0, .ref a0)] := hl
  unfold m_Marks_greatestPart at hm
  refine lv_iconst (v := 0) hx hb d_Marks_greatestPart_0 (by decide) ?_
  refine lv_istore_n (lv' := [(1, .int 0), (0, .ref a0)]) hx hb d_Marks_greatestPart_1 rfl hl (by decide) rfl (fun ls hl => ?_)
  refine lv_iconst (v := 0) hx hb d_Marks_greatestPart_2 (by decide) ?_
  refine lv_istore_n (lv' := [(2, .int 0), (1, .int 0), (0, .ref a0)]) hx hb d_Marks_greatestPart_3 rfl hl (by decide) rfl (fun ls hl => ?_)
  exact k_m_Marks_greatestPart_L4 X hA FU  0 0 _ hm _ _ hP hD hS ls (lv_sub hl [2, 1, 0] rfl)
set_option maxHeartbeats 4000000 in
set_option maxRecDepth 100000 in
theorem k_m_Marks_removeFirst_L7 {p : Program} {l : Launch} {e : Env} {s : State} {m : MethodId} {args : Array Value} {below : List Frame} {meth : Method} {c : Code} {D : va_G} {ca : Nat → ClassId} {a0 a1 a2 a3 a4 a5 : Nat} {A : Nat → Prop} (X : Cx p s m args meth c R_Marks b_Marks_removeFirst 3 none D ca) (hA : ∀ q, s.heap.size ≤ q → A q)  : ∀ (n : Nat) (x : St_Marks) (v1 : Int32) (v2 : Int32) (res : St_Marks), m_Marks_removeFirst_L7  n x v1 v2 = some res → ∀ (H : Heap) (locs : List Loc), va_P D classes (wl_Marks ca a0 a1 a2 a3 a4 a5 x) H → va_D A (wl_Marks ca a0 a1 a2 a3 a4 a5 x) → va_S A s.heap H locs → ∀ ls : Array Slot, lv_has ls 3 [(0, .ref a0), (1, .int v1), (2, .int v2)] → W p l e (RM 2 44) s m args below meth c H locs 0 0 (MQ below (QRm D none (wl_Marks ca a0 a1 a2 a3 a4 a5 res) A) args s 0 0 A) (F0 m 7 ls []) := by
  obtain ⟨hx, hb, hml, hr, hown, hts, hK, hlocks⟩ := id X
  intro n
  induction n with
  | zero =>
    intro x v1 v2 res hm
    rw [m_Marks_removeFirst_L7] at hm
    cases hm
  | succ n ih =>
    intro x v1 v2 res hm H locs hP hD hS ls hl
    rw [m_Marks_removeFirst_L7] at hm
    refine lv_iload_n hx hb d_Marks_removeFirst_7 rfl (lv_at hl 2 rfl) ?_
    refine lv_aload_n hx hb d_Marks_removeFirst_8 rfl (lv_at hl 0 rfl) ?_
    refine va_get (D := D) (ci := 4) (v := .int x.2.2.2.2.2) (C := R_Marks) (T := F_Marks) (N := 6) hx hb hts i_Marks hown hK hP 0 rfl rfl 5 (by decide) (hts _ wf_Marks_34) (fun _ h9 => h9) rfl d_Marks_removeFirst_9 ?_
    refine lv_icmp_ge (tgt := 29) hx hb d_Marks_removeFirst_12 (by decide) (fun c2 => ?_) (fun c2 => ?_)
    · replace hm := ip c2 hm
      refine lv_aload_n hx hb d_Marks_removeFirst_29 rfl (lv_at hl 0 rfl) ?_
      refine lv_iconst (v := 0) hx hb d_Marks_removeFirst_30 (by decide) ?_
      refine lv_aload_n hx hb d_Marks_removeFirst_31 rfl (lv_at hl 0 rfl) ?_
      refine va_get (D := D) (ci := 4) (v := .int x.2.2.2.2.2) (C := R_Marks) (T := F_Marks) (N := 6) hx hb hts i_Marks hown hK hP 0 rfl rfl 5 (by decide) (hts _ wf_Marks_34) (fun _ h9 => h9) rfl d_Marks_removeFirst_32 ?_
      refine lv_iload_n hx hb d_Marks_removeFirst_35 rfl (lv_at hl 1 rfl) ?_
      refine lv_isub hx hb d_Marks_removeFirst_36 ?_
      refine va_mmax hx hb (hml.trans hl.1.symm) hown (hts _ wm_Marks_9) (hts _ w_max_static) (hts _ w_math_init) (hts _ w_max_code) (Nat.le_of_ble_eq_true rfl) (Nat.le_of_ble_eq_true rfl) (Nat.zero_le _) (Nat.zero_le _) d_Marks_removeFirst_37 ?_
      refine va_put (D := D) (ci := 4) (v := .int (jmax 0 (x.2.2.2.2.2 - v1))) (ty := .int) (C := R_Marks) (T := F_Marks) (N := 6) hx hb hts i_Marks t_Marks t_Marks_ok n_Marks hown hK hP hD hS 0 rfl rfl 5 (by decide) (hts _ wf_Marks_34) (fun _ h9 => h9) rfl (by decide +kernel) rfl rfl (Nat.le_of_ble_eq_true rfl) d_Marks_removeFirst_40 (fun H locs hP hD hS => ?_)
      replace hP : va_P D classes (wl_Marks ca a0 a1 a2 a3 a4 a5 (x.1, x.2.1, x.2.2.1, x.2.2.2.1, x.2.2.2.2.1, (jmax 0 (x.2.2.2.2.2 - v1)))) H := hP
      replace hD : va_D A (wl_Marks ca a0 a1 a2 a3 a4 a5 (x.1, x.2.1, x.2.2.1, x.2.2.2.1, x.2.2.2.2.1, (jmax 0 (x.2.2.2.2.2 - v1)))) := hD
      cases hm
      exact ret_mv X hP hS d_Marks_removeFirst_43
    · replace hm := ineg c2 hm
      refine lv_aload_n hx hb d_Marks_removeFirst_15 rfl (lv_at hl 0 rfl) ?_
      refine lv_iload_n hx hb d_Marks_removeFirst_16 rfl (lv_at hl 2 rfl) ?_
      refine lv_iload_n hx hb d_Marks_removeFirst_17 rfl (lv_at hl 2 rfl) ?_
      refine lv_iload_n hx hb d_Marks_removeFirst_18 rfl (lv_at hl 1 rfl) ?_
      refine lv_isub hx hb d_Marks_removeFirst_19 ?_
      obtain ⟨q3, hq3, hm⟩ := ob hm
      refine inv_mUa (C := R_Marks) (As := [.int v2, .int (v2 - v1)]) (rest := []) X (c_Marks_move l D ca a0 a1 a2 a3 a4 a5 _ x v2 (v2 - v1) q3 hq3) g_Marks_53 yo_Marks_move ⟨Nat.le_of_ble_eq_true rfl, Nat.le_of_ble_eq_true rfl⟩ hl hP hD rfl (ci := 4) rfl rfl hS hA rfl rfl (Nat.le_of_ble_eq_true rfl) ⟨Nat.zero_le _, Nat.zero_le _⟩ d_Marks_removeFirst_20 (fun H locs hP hD hS => ?_)
      refine lv_iinc (v := (v2 + 1)) (lv' := [(2, .int (v2 + 1)), (0, .ref a0), (1, .int v1)]) hx hb d_Marks_removeFirst_23 hl (k := 2) rfl rfl (by decide) rfl (fun ls hl => ?_)
      refine lv_goto (tgt := 7) hx hb d_Marks_removeFirst_26 (by decide) ?_
      exact ih q3 v1 (v2 + 1) _ hm _ _ hP hD hS ls (lv_sub hl [1, 2, 0] rfl)
set_option maxHeartbeats 4000000 in
set_option maxRecDepth 100000 in
theorem c_Marks_removeFirst (l : Launch) (D : va_G) (ca : Nat → ClassId) (a0 a1 a2 a3 a4 a5 : Nat) (sz : Nat) (x : St_Marks) (p1 : Int32) (res : St_Marks) (hm : m_Marks_removeFirst x p1 = some res) : Met l y_Marks_removeFirst (cws y_Marks_removeFirst b_Marks_removeFirst 3 none) (RM 2 44) (PreW D ca (wl_Marks ca a0 a1 a2 a3 a4 a5 x) [.ref a0, .int p1] sz) (QRm D none (wl_Marks ca a0 a1 a2 a3 a4 a5 res) (va_A (wl_Marks ca a0 a1 a2 a3 a4 a5 x) sz)) 0 0 (va_A (wl_Marks ca a0 a1 a2 a3 a4 a5 x) sz) := by
  refine met_ofM (own := R_Marks) (by decide) rfl (Nat.le_of_ble_eq_true rfl) ?_
  intro p e s m below meth c A X hA hP hD ls hl
  obtain ⟨hx, hb, hml, hr, hown, hts, hK, hlocks⟩ := id X
  have hS : va_S A s.heap s.heap [] := va_S.rf
  have hl : lv_has ls 3 [(0, .ref a0), (1, .int p1)] := hl
  unfold m_Marks_removeFirst at hm
  refine lv_iload_n hx hb d_Marks_removeFirst_0 rfl (lv_at hl 1 rfl) ?_
  refine lv_if_gt (tgt := 5) hx hb d_Marks_removeFirst_1 (by decide) (fun c1 => ?_) (fun c1 => ?_)
  · replace hm := ip c1 hm
    refine lv_iload_n hx hb d_Marks_removeFirst_5 rfl (lv_at hl 1 rfl) ?_
    refine lv_istore_n (lv' := [(2, .int p1), (0, .ref a0), (1, .int p1)]) hx hb d_Marks_removeFirst_6 rfl hl (by decide) rfl (fun ls hl => ?_)
    exact k_m_Marks_removeFirst_L7 X hA FU x p1 p1 _ hm _ _ hP hD hS ls (lv_sub hl [1, 2, 0] rfl)
  · replace hm := ineg c1 hm
    cases hm
    exact ret_mv X hP hS d_Marks_removeFirst_4
set_option maxHeartbeats 4000000 in
set_option maxRecDepth 100000 in
theorem c_Marks_rowAt (l : Launch) (D : va_G) (ca : Nat → ClassId) (a0 a1 a2 a3 a4 a5 : Nat) (sz : Nat) (x : St_Marks) (p1 : Int32) (res : Int32) (hm : m_Marks_rowAt x p1 = some res) : Met l y_Marks_rowAt (cws y_Marks_rowAt b_Marks_rowAt 2 (some .int)) (RM 1 21) (PreW D ca (wl_Marks ca a0 a1 a2 a3 a4 a5 x) [.ref a0, .int p1] sz) (QRr (.int res) (va_A [] sz)) 0 0 (va_A [] sz) := by
  refine met_ofR (own := R_Marks) (by decide) rfl (Nat.le_of_ble_eq_true rfl) ?_
  intro p e s m below meth c A X hA hP hD ls hl
  obtain ⟨hx, hb, hml, hr, hown, hts, hK, hlocks⟩ := id X
  have hS : va_S A s.heap s.heap [] := va_S.rf
  have hl : lv_has ls 2 [(0, .ref a0), (1, .int p1)] := hl
  unfold m_Marks_rowAt at hm
  refine lv_aload_n hx hb d_Marks_rowAt_0 rfl (lv_at hl 0 rfl) ?_
  refine lv_iload_n hx hb d_Marks_rowAt_1 rfl (lv_at hl 1 rfl) ?_
  obtain ⟨q1, hq1, hm⟩ := ob hm
  refine inv_rVa (C := R_Marks) (As := [.int p1]) (rest := []) (v := .int q1) X (c_Marks_has l D ca a0 a1 a2 a3 a4 a5 _ x p1 q1 hq1) g_Marks_46 yo_Marks_has ⟨Nat.le_of_ble_eq_true rfl, Nat.le_of_ble_eq_true rfl⟩ hl hP hD (ci := 4) rfl rfl hS hA rfl rfl (Nat.le_of_ble_eq_true rfl) ⟨Nat.zero_le _, Nat.zero_le _⟩ d_Marks_rowAt_2 (fun H locs hP hS => ?_)
  refine lv_if_eq (tgt := 17) hx hb d_Marks_rowAt_5 (by decide) (fun c2 => ?_) (fun c2 => ?_)
  · replace hm := ip c2 hm
    refine lv_iconst (v := (-1)) hx hb d_Marks_rowAt_17 (by decide) ?_
    cases hm
    exact ret_ri X hS d_Marks_rowAt_18
  · replace hm := ineg c2 hm
    refine lv_aload_n hx hb d_Marks_rowAt_8 rfl (lv_at hl 0 rfl) ?_
    refine va_get (D := D) (ci := 4) (v := .ref a3) (C := R_Marks) (T := F_Marks) (N := 6) hx hb hts i_Marks hown hK hP 0 rfl rfl 2 (by decide) (hts _ wf_Marks_24) (fun _ h9 => h9) rfl d_Marks_rowAt_9 ?_
    refine lv_iload_n hx hb d_Marks_rowAt_12 rfl (lv_at hl 1 rfl) ?_
    obtain ⟨b3, hm⟩ := on hm
    refine va_iald hx hb hK hP 3 2 rfl rfl b3 d_Marks_rowAt_13 ?_
    refine lv_goto (tgt := 18) hx hb d_Marks_rowAt_14 (by decide) ?_
    cases hm
    exact ret_ri X hS d_Marks_rowAt_18
set_option maxHeartbeats 4000000 in
set_option maxRecDepth 100000 in
theorem c_Room_free (l : Launch) (D : va_G) (ca : Nat → ClassId) (a0 a1 : Nat) (sz : Nat) (x : St_Room) (p1 : Int32) (p2 : Int32) (res : St_Room) (hm : m_Room_free x p1 p2 = some res) : Met l y_Room_free (cws y_Room_free b_Room_free 3 none) (RM 1 25) (PreW D ca (wl_Room ca a0 a1 x) [.ref a0, .int p1, .int p2] sz) (QRm D none (wl_Room ca a0 a1 res) (va_A (wl_Room ca a0 a1 x) sz)) 0 0 (va_A (wl_Room ca a0 a1 x) sz) := by
  refine met_ofM (own := R_Room) (by decide) rfl (Nat.le_of_ble_eq_true rfl) ?_
  intro p e s m below meth c A X hA hP hD ls hl
  obtain ⟨hx, hb, hml, hr, hown, hts, hK, hlocks⟩ := id X
  have hS : va_S A s.heap s.heap [] := va_S.rf
  have hl : lv_has ls 3 [(0, .ref a0), (1, .int p1), (2, .int p2)] := hl
  unfold m_Room_free at hm
  refine lv_aload_n hx hb d_Room_free_0 rfl (lv_at hl 0 rfl) ?_
  refine lv_iload_n hx hb d_Room_free_1 rfl (lv_at hl 1 rfl) ?_
  refine lv_iload_n hx hb d_Room_free_2 rfl (lv_at hl 2 rfl) ?_
  refine lv_iconst (v := 0) hx hb d_Room_free_3 (by decide) ?_
  obtain ⟨q1, hq1, hm⟩ := ob hm
  refine inv_mUa (C := R_Room) (As := [.int p1, .int p2, .int 0]) (rest := []) X (c_Room_set l D ca a0 a1 _ x p1 p2 0 q1 hq1) g_Room_21 yo_Room_set ⟨Nat.le_of_ble_eq_true rfl, Nat.le_of_ble_eq_true rfl⟩ hl hP hD rfl (ci := 2) rfl rfl hS hA rfl rfl (Nat.le_of_ble_eq_true rfl) ⟨Nat.zero_le _, Nat.zero_le _⟩ d_Room_free_4 (fun H locs hP hD hS => ?_)
  cases hm
  exact ret_mv X hP hS d_Room_free_7
set_option maxHeartbeats 4000000 in
set_option maxRecDepth 100000 in
theorem k_m_Medium_erase_L2 {p : Program} {l : Launch} {e : Env} {s : State} {m : MethodId} {args : Array Value} {below : List Frame} {meth : Method} {c : Code} {D : va_G} {ca : Nat → ClassId} {a0 a1 : Nat} {A : Nat → Prop} (X : Cx p s m args meth c R_Medium b_Medium_erase 3 (some .boolean) D ca) (hA : ∀ q, s.heap.size ≤ q → A q)  : ∀ (n : Nat) (x : St_Medium) (v1 : Int32) (v2 : Int32) (res : Int32 × St_Medium), m_Medium_erase_L2  n x v1 v2 = some res → ∀ (H : Heap) (locs : List Loc), va_P D classes (wl_Medium ca a0 a1 x) H → va_D A (wl_Medium ca a0 a1 x) → va_S A s.heap H locs → ∀ ls : Array Slot, lv_has ls 3 [(0, .ref a0), (1, .int v1), (2, .int v2)] → W p l e (RM 2 45) s m args below meth c H locs 0 0 (MQ below (QRm D (some (.int res.1)) (wl_Medium ca a0 a1 res.2) A) args s 0 0 A) (F0 m 2 ls []) := by
  obtain ⟨hx, hb, hml, hr, hown, hts, hK, hlocks⟩ := id X
  intro n
  induction n with
  | zero =>
    intro x v1 v2 res hm
    rw [m_Medium_erase_L2] at hm
    cases hm
  | succ n ih =>
    intro x v1 v2 res hm H locs hP hD hS ls hl
    rw [m_Medium_erase_L2] at hm
    refine lv_iload_n hx hb d_Medium_erase_2 rfl (lv_at hl 2 rfl) ?_
    refine lv_bipush (v := 32) hx hb d_Medium_erase_3 (by decide) ?_
    refine lv_icmp_ge (tgt := 26) hx hb d_Medium_erase_5 (by decide) (fun c1 => ?_) (fun c1 => ?_)
    · replace hm := ip c1 hm
      refine lv_iconst (v := 1) hx hb d_Medium_erase_26 (by decide) ?_
      cases hm
      exact ret_mz X nz1 hP hS d_Medium_erase_27
    · replace hm := ineg c1 hm
      refine lv_aload_n hx hb d_Medium_erase_8 rfl (lv_at hl 0 rfl) ?_
      refine lv_iload_n hx hb d_Medium_erase_9 rfl (lv_at hl 1 rfl) ?_
      refine lv_iload_n hx hb d_Medium_erase_10 rfl (lv_at hl 2 rfl) ?_
      refine lv_iconst (v := 0) hx hb d_Medium_erase_11 (by decide) ?_
      obtain ⟨q2, hq2, hm⟩ := ob hm
      refine inv_mVa (C := R_Medium) (As := [.int v1, .int v2, .int 0]) (rest := []) (v := .int q2.1) X (c_Medium_writeByte l D ca a0 a1 _ x v1 v2 0 q2 hq2) g_Medium_54 yo_Medium_writeByte ⟨Nat.le_of_ble_eq_true rfl, Nat.le_of_ble_eq_true rfl⟩ hl hP hD rfl (ci := 0) rfl rfl hS hA rfl rfl (Nat.le_of_ble_eq_true rfl) ⟨Nat.zero_le _, Nat.zero_le _⟩ d_Medium_erase_12 (fun H locs hP hD hS => ?_)
      refine lv_if_ne (tgt := 20) hx hb d_Medium_erase_15 (by decide) (fun c3 => ?_) (fun c3 => ?_)
      · replace hm := ineg c3 hm
        refine lv_iinc (v := (v2 + 1)) (lv' := [(2, .int (v2 + 1)), (0, .ref a0), (1, .int v1)]) hx hb d_Medium_erase_20 hl (k := 2) rfl rfl (by decide) rfl (fun ls hl => ?_)
        refine lv_goto (tgt := 2) hx hb d_Medium_erase_23 (by decide) ?_
        exact ih q2.2 v1 (v2 + 1) _ hm _ _ hP hD hS ls (lv_sub hl [1, 2, 0] rfl)
      · replace hm := ip c3 hm
        refine lv_iconst (v := 0) hx hb d_Medium_erase_18 (by decide) ?_
        cases hm
        exact ret_mz X nz0 hP hS d_Medium_erase_19
set_option maxHeartbeats 4000000 in
set_option maxRecDepth 100000 in
theorem c_Medium_erase (l : Launch) (D : va_G) (ca : Nat → ClassId) (a0 a1 : Nat) (sz : Nat) (x : St_Medium) (p1 : Int32) (res : Int32 × St_Medium) (hm : m_Medium_erase x p1 = some res) : Met l y_Medium_erase (cws y_Medium_erase b_Medium_erase 3 (some .boolean)) (RM 2 45) (PreW D ca (wl_Medium ca a0 a1 x) [.ref a0, .int p1] sz) (QRm D (some (.int res.1)) (wl_Medium ca a0 a1 res.2) (va_A (wl_Medium ca a0 a1 x) sz)) 0 0 (va_A (wl_Medium ca a0 a1 x) sz) := by
  refine met_ofM (own := R_Medium) (by decide) rfl (Nat.le_of_ble_eq_true rfl) ?_
  intro p e s m below meth c A X hA hP hD ls hl
  obtain ⟨hx, hb, hml, hr, hown, hts, hK, hlocks⟩ := id X
  have hS : va_S A s.heap s.heap [] := va_S.rf
  have hl : lv_has ls 3 [(0, .ref a0), (1, .int p1)] := hl
  unfold m_Medium_erase at hm
  refine lv_iconst (v := 0) hx hb d_Medium_erase_0 (by decide) ?_
  refine lv_istore_n (lv' := [(2, .int 0), (0, .ref a0), (1, .int p1)]) hx hb d_Medium_erase_1 rfl hl (by decide) rfl (fun ls hl => ?_)
  exact k_m_Medium_erase_L2 X hA FU x p1 0 _ hm _ _ hP hD hS ls (lv_sub hl [1, 2, 0] rfl)
set_option maxHeartbeats 4000000 in
set_option maxRecDepth 100000 in
theorem c_Parts_shorten (l : Launch) (D : va_G) (ca : Nat → ClassId) (a0 a1 a2 a3 a4 a5 : Nat) (sz : Nat) (x : St_Parts) (p1 : Int32) (res : St_Parts) (hm : m_Parts_shorten x p1 = some res) : Met l y_Parts_shorten (cws y_Parts_shorten b_Parts_shorten 2 none) (RM 1 15) (PreW D ca (wl_Parts ca a0 a1 a2 a3 a4 a5 x) [.ref a0, .int p1] sz) (QRm D none (wl_Parts ca a0 a1 a2 a3 a4 a5 res) (va_A (wl_Parts ca a0 a1 a2 a3 a4 a5 x) sz)) 0 0 (va_A (wl_Parts ca a0 a1 a2 a3 a4 a5 x) sz) := by
  refine met_ofM (own := R_Parts) (by decide) rfl (Nat.le_of_ble_eq_true rfl) ?_
  intro p e s m below meth c A X hA hP hD ls hl
  obtain ⟨hx, hb, hml, hr, hown, hts, hK, hlocks⟩ := id X
  have hS : va_S A s.heap s.heap [] := va_S.rf
  have hl : lv_has ls 2 [(0, .ref a0), (1, .int p1)] := hl
  unfold m_Parts_shorten at hm
  refine lv_aload_n hx hb d_Parts_shorten_0 rfl (lv_at hl 0 rfl) ?_
  refine lv_iconst (v := 0) hx hb d_Parts_shorten_1 (by decide) ?_
  refine lv_aload_n hx hb d_Parts_shorten_2 rfl (lv_at hl 0 rfl) ?_
  refine va_get (D := D) (ci := 3) (v := .int x.2.2.2.2.2) (C := R_Parts) (T := F_Parts) (N := 6) hx hb hts i_Parts hown hK hP 0 rfl rfl 5 (by decide) (hts _ wf_Parts_34) (fun _ h9 => h9) rfl d_Parts_shorten_3 ?_
  refine lv_iload_n hx hb d_Parts_shorten_6 rfl (lv_at hl 1 rfl) ?_
  refine va_mmin hx hb (hml.trans hl.1.symm) hown (hts _ wm_Parts_56) (hts _ w_min_static) (hts _ w_math_init) (hts _ w_min_code) (Nat.le_of_ble_eq_true rfl) (Nat.le_of_ble_eq_true rfl) (Nat.zero_le _) (Nat.zero_le _) d_Parts_shorten_7 ?_
  refine va_mmax hx hb (hml.trans hl.1.symm) hown (hts _ wm_Parts_9) (hts _ w_max_static) (hts _ w_math_init) (hts _ w_max_code) (Nat.le_of_ble_eq_true rfl) (Nat.le_of_ble_eq_true rfl) (Nat.zero_le _) (Nat.zero_le _) d_Parts_shorten_10 ?_
  refine va_put (D := D) (ci := 3) (v := .int (jmax 0 (jmin x.2.2.2.2.2 p1))) (ty := .int) (C := R_Parts) (T := F_Parts) (N := 6) hx hb hts i_Parts t_Parts t_Parts_ok n_Parts hown hK hP hD hS 0 rfl rfl 5 (by decide) (hts _ wf_Parts_34) (fun _ h9 => h9) rfl (by decide +kernel) rfl rfl (Nat.le_of_ble_eq_true rfl) d_Parts_shorten_13 (fun H locs hP hD hS => ?_)
  replace hP : va_P D classes (wl_Parts ca a0 a1 a2 a3 a4 a5 (x.1, x.2.1, x.2.2.1, x.2.2.2.1, x.2.2.2.2.1, (jmax 0 (jmin x.2.2.2.2.2 p1)))) H := hP
  replace hD : va_D A (wl_Parts ca a0 a1 a2 a3 a4 a5 (x.1, x.2.1, x.2.2.1, x.2.2.2.1, x.2.2.2.2.1, (jmax 0 (jmin x.2.2.2.2.2 p1)))) := hD
  cases hm
  exact ret_mv X hP hS d_Parts_shorten_16
set_option maxHeartbeats 4000000 in
set_option maxRecDepth 100000 in
theorem k_m_Marks_isNaming_L2 {p : Program} {l : Launch} {e : Env} {s : State} {m : MethodId} {args : Array Value} {below : List Frame} {meth : Method} {c : Code} {D : va_G} {ca : Nat → ClassId} {a0 a1 a2 a3 a4 a5 : Nat} {A : Nat → Prop} (X : Cx p s m args meth c R_Marks b_Marks_isNaming 4 (some .boolean) D ca) (hA : ∀ q, s.heap.size ≤ q → A q) {x : St_Marks} : ∀ (n : Nat) (v1 : Int32) (v2 : Int32) (v3 : Int32) (res : Int32), m_Marks_isNaming_L2 x n v1 v2 v3 = some res → ∀ (H : Heap) (locs : List Loc), va_P D classes (wl_Marks ca a0 a1 a2 a3 a4 a5 x) H → va_D (fun _ => True) (wl_Marks ca a0 a1 a2 a3 a4 a5 x) → va_S A s.heap H locs → ∀ ls : Array Slot, lv_has ls 4 [(0, .ref a0), (1, .int v1), (2, .int v2), (3, .int v3)] → W p l e (RM 3 64) s m args below meth c H locs 0 0 (MQ below (QRr (.int res) A) args s 0 0 A) (F0 m 2 ls []) := by
  obtain ⟨hx, hb, hml, hr, hown, hts, hK, hlocks⟩ := id X
  intro n
  induction n with
  | zero =>
    intro v1 v2 v3 res hm
    rw [m_Marks_isNaming_L2] at hm
    cases hm
  | succ n ih =>
    intro v1 v2 v3 res hm H locs hP hD hS ls hl
    rw [m_Marks_isNaming_L2] at hm
    refine lv_iload_n hx hb d_Marks_isNaming_2 rfl (lv_at hl 3 rfl) ?_
    refine lv_aload_n hx hb d_Marks_isNaming_3 rfl (lv_at hl 0 rfl) ?_
    refine lv_iload_n hx hb d_Marks_isNaming_4 rfl (lv_at hl 1 rfl) ?_
    obtain ⟨q1, hq1, hm⟩ := ob hm
    refine inv_rVa (C := R_Marks) (As := [.int v1]) (rest := [.int v3]) (v := .int q1) X (c_Marks_countAt l D ca a0 a1 a2 a3 a4 a5 _ x v1 q1 hq1) g_Marks_50 yo_Marks_countAt ⟨Nat.le_of_ble_eq_true rfl, Nat.le_of_ble_eq_true rfl⟩ hl hP hD (ci := 4) rfl rfl hS hA rfl rfl (Nat.le_of_ble_eq_true rfl) ⟨Nat.zero_le _, Nat.zero_le _⟩ d_Marks_isNaming_5 (fun H locs hP hS => ?_)
    refine lv_icmp_ge (tgt := 29) hx hb d_Marks_isNaming_8 (by decide) (fun c2 => ?_) (fun c2 => ?_)
    · replace hm := ip c2 hm
      refine lv_iconst (v := 0) hx hb d_Marks_isNaming_29 (by decide) ?_
      cases hm
      exact ret_rz X nz0 hS d_Marks_isNaming_30
    · replace hm := ineg c2 hm
      refine lv_aload_n hx hb d_Marks_isNaming_11 rfl (lv_at hl 0 rfl) ?_
      refine lv_iload_n hx hb d_Marks_isNaming_12 rfl (lv_at hl 1 rfl) ?_
      refine lv_iload_n hx hb d_Marks_isNaming_13 rfl (lv_at hl 3 rfl) ?_
      obtain ⟨q3, hq3, hm⟩ := ob hm
      refine inv_rVa (C := R_Marks) (As := [.int v1, .int v3]) (rest := []) (v := .int q3) X (c_Marks_partAt l D ca a0 a1 a2 a3 a4 a5 _ x v1 v3 q3 hq3) g_Marks_64 yo_Marks_partAt ⟨Nat.le_of_ble_eq_true rfl, Nat.le_of_ble_eq_true rfl⟩ hl hP hD (ci := 4) rfl rfl hS hA rfl rfl (Nat.le_of_ble_eq_true rfl) ⟨Nat.zero_le _, Nat.zero_le _⟩ d_Marks_isNaming_14 (fun H locs hP hS => ?_)
      refine lv_iload_n hx hb d_Marks_isNaming_17 rfl (lv_at hl 2 rfl) ?_
      refine lv_icmp_ne (tgt := 23) hx hb d_Marks_isNaming_18 (by decide) (fun c4 => ?_) (fun c4 => ?_)
      · replace hm := ineg c4 hm
        refine lv_iinc (v := (v3 + 1)) (lv' := [(3, .int (v3 + 1)), (0, .ref a0), (1, .int v1), (2, .int v2)]) hx hb d_Marks_isNaming_23 hl (k := 3) rfl rfl (by decide) rfl (fun ls hl => ?_)
        refine lv_goto (tgt := 2) hx hb d_Marks_isNaming_26 (by decide) ?_
        exact ih  v1 v2 (v3 + 1) _ hm _ _ hP hD hS ls (lv_sub hl [1, 2, 3, 0] rfl)
      · replace hm := ip c4 hm
        refine lv_iconst (v := 1) hx hb d_Marks_isNaming_21 (by decide) ?_
        cases hm
        exact ret_rz X nz1 hS d_Marks_isNaming_22
set_option maxHeartbeats 4000000 in
set_option maxRecDepth 100000 in
theorem c_Marks_isNaming (l : Launch) (D : va_G) (ca : Nat → ClassId) (a0 a1 a2 a3 a4 a5 : Nat) (sz : Nat) (x : St_Marks) (p1 : Int32) (p2 : Int32) (res : Int32) (hm : m_Marks_isNaming x p1 p2 = some res) : Met l y_Marks_isNaming (cws y_Marks_isNaming b_Marks_isNaming 4 (some .boolean)) (RM 3 64) (PreW D ca (wl_Marks ca a0 a1 a2 a3 a4 a5 x) [.ref a0, .int p1, .int p2] sz) (QRr (.int res) (va_A [] sz)) 0 0 (va_A [] sz) := by
  refine met_ofR (own := R_Marks) (by decide) rfl (Nat.le_of_ble_eq_true rfl) ?_
  intro p e s m below meth c A X hA hP hD ls hl
  obtain ⟨hx, hb, hml, hr, hown, hts, hK, hlocks⟩ := id X
  have hS : va_S A s.heap s.heap [] := va_S.rf
  have hl : lv_has ls 4 [(0, .ref a0), (1, .int p1), (2, .int p2)] := hl
  unfold m_Marks_isNaming at hm
  refine lv_iconst (v := 0) hx hb d_Marks_isNaming_0 (by decide) ?_
  refine lv_istore_n (lv' := [(3, .int 0), (0, .ref a0), (1, .int p1), (2, .int p2)]) hx hb d_Marks_isNaming_1 rfl hl (by decide) rfl (fun ls hl => ?_)
  exact k_m_Marks_isNaming_L2 X hA FU  p1 p2 0 _ hm _ _ hP hD hS ls (lv_sub hl [1, 2, 3, 0] rfl)
set_option maxHeartbeats 4000000 in
set_option maxRecDepth 100000 in
theorem k_m_Marks_countNaming_L4 {p : Program} {l : Launch} {e : Env} {s : State} {m : MethodId} {args : Array Value} {below : List Frame} {meth : Method} {c : Code} {D : va_G} {ca : Nat → ClassId} {a0 a1 a2 a3 a4 a5 : Nat} {A : Nat → Prop} (X : Cx p s m args meth c R_Marks b_Marks_countNaming 4 (some .int) D ca) (hA : ∀ q, s.heap.size ≤ q → A q) {x : St_Marks} : ∀ (n : Nat) (v1 : Int32) (v2 : Int32) (v3 : Int32) (res : Int32), m_Marks_countNaming_L4 x n v1 v2 v3 = some res → ∀ (H : Heap) (locs : List Loc), va_P D classes (wl_Marks ca a0 a1 a2 a3 a4 a5 x) H → va_D (fun _ => True) (wl_Marks ca a0 a1 a2 a3 a4 a5 x) → va_S A s.heap H locs → ∀ ls : Array Slot, lv_has ls 4 [(0, .ref a0), (1, .int v1), (2, .int v2), (3, .int v3)] → W p l e (RM 4 87) s m args below meth c H locs 0 0 (MQ below (QRr (.int res) A) args s 0 0 A) (F0 m 4 ls []) := by
  obtain ⟨hx, hb, hml, hr, hown, hts, hK, hlocks⟩ := id X
  intro n
  induction n with
  | zero =>
    intro v1 v2 v3 res hm
    rw [m_Marks_countNaming_L4] at hm
    cases hm
  | succ n ih =>
    intro v1 v2 v3 res hm H locs hP hD hS ls hl
    rw [m_Marks_countNaming_L4] at hm
    refine lv_iload_n hx hb d_Marks_countNaming_4 rfl (lv_at hl 3 rfl) ?_
    refine lv_aload_n hx hb d_Marks_countNaming_5 rfl (lv_at hl 0 rfl) ?_
    refine va_get (D := D) (ci := 4) (v := .int x.2.2.2.2.2) (C := R_Marks) (T := F_Marks) (N := 6) hx hb hts i_Marks hown hK hP 0 rfl rfl 5 (by decide) (hts _ wf_Marks_34) (fun _ h9 => h9) rfl d_Marks_countNaming_6 ?_
    refine lv_icmp_ge (tgt := 30) hx hb d_Marks_countNaming_9 (by decide) (fun c1 => ?_) (fun c1 => ?_)
    · replace hm := ip c1 hm
      refine lv_iload_n hx hb d_Marks_countNaming_30 rfl (lv_at hl 2 rfl) ?_
      cases hm
      exact ret_ri X hS d_Marks_countNaming_31
    · replace hm := ineg c1 hm
      refine lv_aload_n hx hb d_Marks_countNaming_12 rfl (lv_at hl 0 rfl) ?_
      refine lv_iload_n hx hb d_Marks_countNaming_13 rfl (lv_at hl 3 rfl) ?_
      refine lv_iload_n hx hb d_Marks_countNaming_14 rfl (lv_at hl 1 rfl) ?_
      obtain ⟨q2, hq2, hm⟩ := ob hm
      refine inv_rVa (C := R_Marks) (As := [.int v3, .int v1]) (rest := []) (v := .int q2) X (c_Marks_isNaming l D ca a0 a1 a2 a3 a4 a5 _ x v3 v1 q2 hq2) g_Marks_60 yo_Marks_isNaming ⟨Nat.le_of_ble_eq_true rfl, Nat.le_of_ble_eq_true rfl⟩ hl hP hD (ci := 4) rfl rfl hS hA rfl rfl (Nat.le_of_ble_eq_true rfl) ⟨Nat.zero_le _, Nat.zero_le _⟩ d_Marks_countNaming_15 (fun H locs hP hS => ?_)
      refine lv_if_eq (tgt := 24) hx hb d_Marks_countNaming_18 (by decide) (fun c3 => ?_) (fun c3 => ?_)
      · replace hm := ip c3 hm
        refine lv_iinc (v := (v3 + 1)) (lv' := [(3, .int (v3 + 1)), (0, .ref a0), (1, .int v1), (2, .int v2)]) hx hb d_Marks_countNaming_24 hl (k := 3) rfl rfl (by decide) rfl (fun ls hl => ?_)
        refine lv_goto (tgt := 4) hx hb d_Marks_countNaming_27 (by decide) ?_
        exact ih  v1 v2 (v3 + 1) _ hm _ _ hP hD hS ls (lv_sub hl [1, 2, 3, 0] rfl)
      · replace hm := ineg c3 hm
        refine lv_iinc (v := (v2 + 1)) (lv' := [(2, .int (v2 + 1)), (0, .ref a0), (1, .int v1), (3, .int v3)]) hx hb d_Marks_countNaming_21 hl (k := 2) rfl rfl (by decide) rfl (fun ls hl => ?_)
        refine lv_iinc (v := (v3 + 1)) (lv' := [(3, .int (v3 + 1)), (2, .int (v2 + 1)), (0, .ref a0), (1, .int v1)]) hx hb d_Marks_countNaming_24 hl (k := 3) rfl rfl (by decide) rfl (fun ls hl => ?_)
        refine lv_goto (tgt := 4) hx hb d_Marks_countNaming_27 (by decide) ?_
        exact ih  v1 (v2 + 1) (v3 + 1) _ hm _ _ hP hD hS ls (lv_sub hl [2, 3, 1, 0] rfl)
set_option maxHeartbeats 4000000 in
set_option maxRecDepth 100000 in
theorem c_Marks_countNaming (l : Launch) (D : va_G) (ca : Nat → ClassId) (a0 a1 a2 a3 a4 a5 : Nat) (sz : Nat) (x : St_Marks) (p1 : Int32) (res : Int32) (hm : m_Marks_countNaming x p1 = some res) : Met l y_Marks_countNaming (cws y_Marks_countNaming b_Marks_countNaming 4 (some .int)) (RM 4 87) (PreW D ca (wl_Marks ca a0 a1 a2 a3 a4 a5 x) [.ref a0, .int p1] sz) (QRr (.int res) (va_A [] sz)) 0 0 (va_A [] sz) := by
  refine met_ofR (own := R_Marks) (by decide) rfl (Nat.le_of_ble_eq_true rfl) ?_
  intro p e s m below meth c A X hA hP hD ls hl
  obtain ⟨hx, hb, hml, hr, hown, hts, hK, hlocks⟩ := id X
  have hS : va_S A s.heap s.heap [] := va_S.rf
  have hl : lv_has ls 4 [(0, .ref a0), (1, .int p1)] := hl
  unfold m_Marks_countNaming at hm
  refine lv_iconst (v := 0) hx hb d_Marks_countNaming_0 (by decide) ?_
  refine lv_istore_n (lv' := [(2, .int 0), (0, .ref a0), (1, .int p1)]) hx hb d_Marks_countNaming_1 rfl hl (by decide) rfl (fun ls hl => ?_)
  refine lv_iconst (v := 0) hx hb d_Marks_countNaming_2 (by decide) ?_
  refine lv_istore_n (lv' := [(3, .int 0), (2, .int 0), (0, .ref a0), (1, .int p1)]) hx hb d_Marks_countNaming_3 rfl hl (by decide) rfl (fun ls hl => ?_)
  exact k_m_Marks_countNaming_L4 X hA FU  p1 0 0 _ hm _ _ hP hD hS ls (lv_sub hl [2, 3, 1, 0] rfl)
set_option maxHeartbeats 4000000 in
set_option maxRecDepth 100000 in
theorem c_Parts_lengthAt (l : Launch) (D : va_G) (ca : Nat → ClassId) (a0 a1 a2 a3 a4 a5 : Nat) (sz : Nat) (x : St_Parts) (p1 : Int32) (res : Int32) (hm : m_Parts_lengthAt x p1 = some res) : Met l y_Parts_lengthAt (cws y_Parts_lengthAt b_Parts_lengthAt 2 (some .int)) (RM 1 21) (PreW D ca (wl_Parts ca a0 a1 a2 a3 a4 a5 x) [.ref a0, .int p1] sz) (QRr (.int res) (va_A [] sz)) 0 0 (va_A [] sz) := by
  refine met_ofR (own := R_Parts) (by decide) rfl (Nat.le_of_ble_eq_true rfl) ?_
  intro p e s m below meth c A X hA hP hD ls hl
  obtain ⟨hx, hb, hml, hr, hown, hts, hK, hlocks⟩ := id X
  have hS : va_S A s.heap s.heap [] := va_S.rf
  have hl : lv_has ls 2 [(0, .ref a0), (1, .int p1)] := hl
  unfold m_Parts_lengthAt at hm
  refine lv_aload_n hx hb d_Parts_lengthAt_0 rfl (lv_at hl 0 rfl) ?_
  refine lv_iload_n hx hb d_Parts_lengthAt_1 rfl (lv_at hl 1 rfl) ?_
  obtain ⟨q1, hq1, hm⟩ := ob hm
  refine inv_rVa (C := R_Parts) (As := [.int p1]) (rest := []) (v := .int q1) X (c_Parts_has l D ca a0 a1 a2 a3 a4 a5 _ x p1 q1 hq1) g_Parts_46 yo_Parts_has ⟨Nat.le_of_ble_eq_true rfl, Nat.le_of_ble_eq_true rfl⟩ hl hP hD (ci := 3) rfl rfl hS hA rfl rfl (Nat.le_of_ble_eq_true rfl) ⟨Nat.zero_le _, Nat.zero_le _⟩ d_Parts_lengthAt_2 (fun H locs hP hS => ?_)
  refine lv_if_eq (tgt := 17) hx hb d_Parts_lengthAt_5 (by decide) (fun c2 => ?_) (fun c2 => ?_)
  · replace hm := ip c2 hm
    refine lv_iconst (v := 0) hx hb d_Parts_lengthAt_17 (by decide) ?_
    cases hm
    exact ret_ri X hS d_Parts_lengthAt_18
  · replace hm := ineg c2 hm
    refine lv_aload_n hx hb d_Parts_lengthAt_8 rfl (lv_at hl 0 rfl) ?_
    refine va_get (D := D) (ci := 3) (v := .ref a3) (C := R_Parts) (T := F_Parts) (N := 6) hx hb hts i_Parts hown hK hP 0 rfl rfl 2 (by decide) (hts _ wf_Parts_24) (fun _ h9 => h9) rfl d_Parts_lengthAt_9 ?_
    refine lv_iload_n hx hb d_Parts_lengthAt_12 rfl (lv_at hl 1 rfl) ?_
    obtain ⟨b3, hm⟩ := on hm
    refine va_iald hx hb hK hP 3 2 rfl rfl b3 d_Parts_lengthAt_13 ?_
    refine lv_goto (tgt := 18) hx hb d_Parts_lengthAt_14 (by decide) ?_
    cases hm
    exact ret_ri X hS d_Parts_lengthAt_18
set_option maxHeartbeats 4000000 in
set_option maxRecDepth 100000 in
theorem c_Medium_setPower (l : Launch) (D : va_G) (ca : Nat → ClassId) (a0 a1 : Nat) (sz : Nat) (x : St_Medium) (p1 : Int32) (res : St_Medium) (hm : m_Medium_setPower x p1 = some res) : Met l y_Medium_setPower (cws y_Medium_setPower b_Medium_setPower 2 none) (RM 0 0) (PreW D ca (wl_Medium ca a0 a1 x) [.ref a0, .int p1] sz) (QRm D none (wl_Medium ca a0 a1 res) (va_A (wl_Medium ca a0 a1 x) sz)) 0 0 (va_A (wl_Medium ca a0 a1 x) sz) := by
  refine met_ofM (own := R_Medium) (by decide) rfl (Nat.le_of_ble_eq_true rfl) ?_
  intro p e s m below meth c A X hA hP hD ls hl
  obtain ⟨hx, hb, hml, hr, hown, hts, hK, hlocks⟩ := id X
  have hS : va_S A s.heap s.heap [] := va_S.rf
  have hl : lv_has ls 2 [(0, .ref a0), (1, .int p1)] := hl
  unfold m_Medium_setPower at hm
  refine lv_aload_n hx hb d_Medium_setPower_0 rfl (lv_at hl 0 rfl) ?_
  refine lv_iload_n hx hb d_Medium_setPower_1 rfl (lv_at hl 1 rfl) ?_
  refine va_put (D := D) (ci := 0) (v := .int p1) (ty := .int) (C := R_Medium) (T := F_Medium) (N := 4) hx hb hts i_Medium t_Medium t_Medium_ok n_Medium hown hK hP hD hS 0 rfl rfl 2 (by decide) (hts _ wf_Medium_28) (fun _ h9 => h9) rfl (by decide +kernel) rfl rfl (Nat.le_of_ble_eq_true rfl) d_Medium_setPower_2 (fun H locs hP hD hS => ?_)
  replace hP : va_P D classes (wl_Medium ca a0 a1 (x.1, x.2.1, p1, x.2.2.2)) H := hP
  replace hD : va_D A (wl_Medium ca a0 a1 (x.1, x.2.1, p1, x.2.2.2)) := hD
  cases hm
  exact ret_mv X hP hS d_Medium_setPower_5
set_option maxHeartbeats 4000000 in
set_option maxRecDepth 100000 in
theorem c_Medium_rows (l : Launch) (D : va_G) (ca : Nat → ClassId) (a0 a1 : Nat) (sz : Nat) (x : St_Medium)  (res : Int32) (hm : m_Medium_rows x = some res) : Met l y_Medium_rows (cws y_Medium_rows b_Medium_rows 1 (some .int)) (RM 0 0) (PreW D ca (wl_Medium ca a0 a1 x) [.ref a0] sz) (QRr (.int res) (va_A [] sz)) 0 0 (va_A [] sz) := by
  refine met_ofR (own := R_Medium) (by decide) rfl (Nat.le_of_ble_eq_true rfl) ?_
  intro p e s m below meth c A X hA hP hD ls hl
  obtain ⟨hx, hb, hml, hr, hown, hts, hK, hlocks⟩ := id X
  have hS : va_S A s.heap s.heap [] := va_S.rf
  have hl : lv_has ls 1 [(0, .ref a0)] := hl
  unfold m_Medium_rows at hm
  refine lv_aload_n hx hb d_Medium_rows_0 rfl (lv_at hl 0 rfl) ?_
  refine va_get (D := D) (ci := 0) (v := .int x.1) (C := R_Medium) (T := F_Medium) (N := 4) hx hb hts i_Medium hown hK hP 0 rfl rfl 0 (by decide) (hts _ wf_Medium_18) (fun _ h9 => h9) rfl d_Medium_rows_1 ?_
  cases hm
  exact ret_ri X hS d_Medium_rows_4
set_option maxHeartbeats 4000000 in
set_option maxRecDepth 100000 in
theorem k_m_Medium_isSumRight_L5 {p : Program} {l : Launch} {e : Env} {s : State} {m : MethodId} {args : Array Value} {below : List Frame} {meth : Method} {c : Code} {D : va_G} {ca : Nat → ClassId} {a0 a1 : Nat} {A : Nat → Prop} (X : Cx p s m args meth c R_Medium b_Medium_isSumRight 5 (some .boolean) D ca) (hA : ∀ q, s.heap.size ≤ q → A q) {x : St_Medium} : ∀ (n : Nat) (v1 : Int32) (v2 : Int64) (v4 : Int32) (res : Int32), m_Medium_isSumRight_L5 x n v1 v2 v4 = some res → ∀ (H : Heap) (locs : List Loc), va_P D classes (wl_Medium ca a0 a1 x) H → va_D (fun _ => True) (wl_Medium ca a0 a1 x) → va_S A s.heap H locs → ∀ ls : Array Slot, lv_has ls 5 [(0, .ref a0), (1, .int v1), (2, .long v2), (4, .int v4)] → W p l e (RM 3 70) s m args below meth c H locs 0 0 (MQ below (QRr (.int res) A) args s 0 0 A) (F0 m 5 ls []) := by
  obtain ⟨hx, hb, hml, hr, hown, hts, hK, hlocks⟩ := id X
  intro n
  induction n with
  | zero =>
    intro v1 v2 v4 res hm
    rw [m_Medium_isSumRight_L5] at hm
    cases hm
  | succ n ih =>
    intro v1 v2 v4 res hm H locs hP hD hS ls hl
    rw [m_Medium_isSumRight_L5] at hm
    refine lv_iload hx hb d_Medium_isSumRight_5 (lv_at hl 3 rfl) ?_
    refine lv_bipush (v := 24) hx hb d_Medium_isSumRight_7 (by decide) ?_
    refine lv_icmp_ge (tgt := 30) hx hb d_Medium_isSumRight_9 (by decide) (fun c1 => ?_) (fun c1 => ?_)
    · replace hm := ip c1 hm
      refine lv_aload_n hx hb d_Medium_isSumRight_30 rfl (lv_at hl 0 rfl) ?_
      refine lv_iload_n hx hb d_Medium_isSumRight_31 rfl (lv_at hl 1 rfl) ?_
      refine lv_bipush (v := 24) hx hb d_Medium_isSumRight_32 (by decide) ?_
      refine lv_bipush (v := 8) hx hb d_Medium_isSumRight_34 (by decide) ?_
      obtain ⟨q2, hq2, hm⟩ := ob hm
      refine inv_rVa (C := R_Medium) (As := [.int v1, .int 24, .int 8]) (rest := []) (v := .long q2) X (c_Medium_number l D ca a0 a1 _ x v1 24 8 q2 hq2) g_Medium_45 yo_Medium_number ⟨Nat.le_of_ble_eq_true rfl, Nat.le_of_ble_eq_true rfl⟩ hl hP hD (ci := 0) rfl rfl hS hA rfl rfl (Nat.le_of_ble_eq_true rfl) ⟨Nat.zero_le _, Nat.zero_le _⟩ d_Medium_isSumRight_36 (fun H locs hP hS => ?_)
      refine lv_lload_n hx hb d_Medium_isSumRight_39 rfl (lv_at hl 2 rfl) ?_
      refine W.lcmp hx hb d_Medium_isSumRight_40 ?_
      refine lv_if_ne (tgt := 48) hx hb d_Medium_isSumRight_41 (by decide) (fun c3 => ?_) (fun c3 => ?_)
      · replace hm := ineg c3 hm
        refine lv_iconst (v := 0) hx hb d_Medium_isSumRight_48 (by decide) ?_
        cases hm
        exact ret_rz X nz0 hS d_Medium_isSumRight_49
      · replace hm := ip c3 hm
        refine lv_iconst (v := 1) hx hb d_Medium_isSumRight_44 (by decide) ?_
        refine lv_goto (tgt := 49) hx hb d_Medium_isSumRight_45 (by decide) ?_
        cases hm
        exact ret_rz X nz1 hS d_Medium_isSumRight_49
    · replace hm := ineg c1 hm
      refine lv_lload_n hx hb d_Medium_isSumRight_12 rfl (lv_at hl 2 rfl) ?_
      refine lv_aload_n hx hb d_Medium_isSumRight_13 rfl (lv_at hl 0 rfl) ?_
      refine lv_iload_n hx hb d_Medium_isSumRight_14 rfl (lv_at hl 1 rfl) ?_
      refine lv_iload hx hb d_Medium_isSumRight_15 (lv_at hl 3 rfl) ?_
      obtain ⟨q4, hq4, hm⟩ := ob hm
      refine inv_rVa (C := R_Medium) (As := [.int v1, .int v4]) (rest := [.long v2]) (v := .int q4) X (c_Medium_at l D ca a0 a1 _ x v1 v4 q4 hq4) g_Medium_38 yo_Medium_at ⟨Nat.le_of_ble_eq_true rfl, Nat.le_of_ble_eq_true rfl⟩ hl hP hD (ci := 0) rfl rfl hS hA rfl rfl (Nat.le_of_ble_eq_true rfl) ⟨Nat.zero_le _, Nat.zero_le _⟩ d_Medium_isSumRight_17 (fun H locs hP hS => ?_)
      obtain ⟨q5, hq5, hm⟩ := ob hm
      refine inv_rSN (As := [.long v2, .int q4]) (rest := []) (v := .long q5) X (c_Log_digestStep l D ca  _ v2 q4 q5 hq5) g_Medium_41 yo_Log_digestStep.2 ⟨Nat.le_of_ble_eq_true rfl, Nat.le_of_ble_eq_true rfl⟩ hl hP hD [] rfl rfl hS hA rfl rfl (Nat.le_of_ble_eq_true rfl) ⟨Nat.zero_le _, Nat.zero_le _⟩ d_Medium_isSumRight_20 (fun H locs hP hS => ?_)
      refine lv_lstore_n (lv' := [(2, .long q5), (0, .ref a0), (1, .int v1), (4, .int v4)]) hx hb d_Medium_isSumRight_23 rfl hl (by decide) rfl (fun ls hl => ?_)
      refine lv_iinc (v := (v4 + 1)) (lv' := [(4, .int (v4 + 1)), (2, .long q5), (0, .ref a0), (1, .int v1)]) hx hb d_Medium_isSumRight_24 hl (k := 3) rfl rfl (by decide) rfl (fun ls hl => ?_)
      refine lv_goto (tgt := 5) hx hb d_Medium_isSumRight_27 (by decide) ?_
      exact ih  v1 q5 (v4 + 1) _ hm _ _ hP hD hS ls (lv_sub hl [2, 3, 1, 0] rfl)
set_option maxHeartbeats 4000000 in
set_option maxRecDepth 100000 in
theorem c_Medium_isSumRight (l : Launch) (D : va_G) (ca : Nat → ClassId) (a0 a1 : Nat) (sz : Nat) (x : St_Medium) (p1 : Int32) (res : Int32) (hm : m_Medium_isSumRight x p1 = some res) : Met l y_Medium_isSumRight (cws y_Medium_isSumRight b_Medium_isSumRight 5 (some .boolean)) (RM 3 70) (PreW D ca (wl_Medium ca a0 a1 x) [.ref a0, .int p1] sz) (QRr (.int res) (va_A [] sz)) 0 0 (va_A [] sz) := by
  refine met_ofR (own := R_Medium) (by decide) rfl (Nat.le_of_ble_eq_true rfl) ?_
  intro p e s m below meth c A X hA hP hD ls hl
  obtain ⟨hx, hb, hml, hr, hown, hts, hK, hlocks⟩ := id X
  have hS : va_S A s.heap s.heap [] := va_S.rf
  have hl : lv_has ls 5 [(0, .ref a0), (1, .int p1)] := hl
  unfold m_Medium_isSumRight at hm
  refine lv_lconst (v := 0) hx hb d_Medium_isSumRight_0 (by decide) ?_
  refine lv_lstore_n (lv' := [(2, .long 0), (0, .ref a0), (1, .int p1)]) hx hb d_Medium_isSumRight_1 rfl hl (by decide) rfl (fun ls hl => ?_)
  refine lv_iconst (v := 0) hx hb d_Medium_isSumRight_2 (by decide) ?_
  refine lv_istore (lv' := [(4, .int 0), (2, .long 0), (0, .ref a0), (1, .int p1)]) hx hb d_Medium_isSumRight_3 hl (by decide) rfl (fun ls hl => ?_)
  exact k_m_Medium_isSumRight_L5 X hA FU  p1 0 0 _ hm _ _ hP hD hS ls (lv_sub hl [2, 3, 1, 0] rfl)
set_option maxHeartbeats 4000000 in
set_option maxRecDepth 100000 in
theorem c_Log_isNumber (l : Launch) (D : va_G) (ca : Nat → ClassId)  (sz : Nat)  (p0 : Int64) (res : Int32) (hm : m_Log_isNumber p0 = some res) : Met l y_Log_isNumber (cws y_Log_isNumber b_Log_isNumber 2 (some .boolean)) (RM 0 0) (PreW D ca ([]) [.long p0] sz) (QRr (.int res) (va_A [] sz)) 0 0 (va_A [] sz) := by
  refine met_ofR (own := R_Log) (by decide) rfl (Nat.le_of_ble_eq_true rfl) ?_
  intro p e s m below meth c A X hA hP hD ls hl
  obtain ⟨hx, hb, hml, hr, hown, hts, hK, hlocks⟩ := id X
  have hS : va_S A s.heap s.heap [] := va_S.rf
  have hl : lv_has ls 2 [(0, .long p0)] := hl
  unfold m_Log_isNumber at hm
  refine lv_lload_n hx hb d_Log_isNumber_0 rfl (lv_at hl 0 rfl) ?_
  refine lv_lconst (v := 1) hx hb d_Log_isNumber_1 (by decide) ?_
  refine W.lcmp hx hb d_Log_isNumber_2 ?_
  refine lv_if_lt (tgt := 18) hx hb d_Log_isNumber_3 (by decide) (fun c1 => ?_) (fun c1 => ?_)
  · replace hm := ip c1 hm
    refine lv_iconst (v := 0) hx hb d_Log_isNumber_18 (by decide) ?_
    cases hm
    exact ret_rz X nz0 hS d_Log_isNumber_19
  · replace hm := ineg c1 hm
    refine lv_lload_n hx hb d_Log_isNumber_6 rfl (lv_at hl 0 rfl) ?_
    refine lv_ldc2 hx hb hown (hts _ wc_Log_257) d_Log_isNumber_7 ?_
    refine W.lcmp hx hb d_Log_isNumber_10 ?_
    refine lv_if_gt (tgt := 18) hx hb d_Log_isNumber_11 (by decide) (fun c2 => ?_) (fun c2 => ?_)
    · replace hm := ip c2 hm
      refine lv_iconst (v := 0) hx hb d_Log_isNumber_18 (by decide) ?_
      cases hm
      exact ret_rz X nz0 hS d_Log_isNumber_19
    · replace hm := ineg c2 hm
      refine lv_iconst (v := 1) hx hb d_Log_isNumber_14 (by decide) ?_
      refine lv_goto (tgt := 19) hx hb d_Log_isNumber_15 (by decide) ?_
      cases hm
      exact ret_rz X nz1 hS d_Log_isNumber_19
set_option maxHeartbeats 4000000 in
set_option maxRecDepth 100000 in
theorem k_m_Medium_digest_L16 {p : Program} {l : Launch} {e : Env} {s : State} {m : MethodId} {args : Array Value} {below : List Frame} {meth : Method} {c : Code} {D : va_G} {ca : Nat → ClassId} {a0 a1 : Nat} {A : Nat → Prop} (X : Cx p s m args meth c R_Medium b_Medium_digest 7 (some .long) D ca) (hA : ∀ q, s.heap.size ≤ q → A q) {x : St_Medium} {k : Int32 → Int32 → Int64 → Int32 → Option (Int64)} (hk : ∀ (w1 : Int32) (w2 : Int32) (w3 : Int64) (w5 : Int32) (res : Int64), k w1 w2 w3 w5 = some res → ∀ (H : Heap) (locs : List Loc), va_P D classes (wl_Medium ca a0 a1 x) H → va_D (fun _ => True) (wl_Medium ca a0 a1 x) → va_S A s.heap H locs → ∀ ls : Array Slot, lv_has ls 7 [(0, .ref a0), (1, .int w1), (2, .int w2), (3, .long w3), (5, .int w5)] → W p l e (RM 2 44) s m args below meth c H locs 0 0 (MQ below (QRr (.long res) A) args s 0 0 A) (F0 m 42 ls [])) : ∀ (n : Nat) (v1 : Int32) (v2 : Int32) (v3 : Int64) (v5 : Int32) (v6 : Int32) (res : Int64), m_Medium_digest_L16 x k n v1 v2 v3 v5 v6 = some res → ∀ (H : Heap) (locs : List Loc), va_P D classes (wl_Medium ca a0 a1 x) H → va_D (fun _ => True) (wl_Medium ca a0 a1 x) → va_S A s.heap H locs → ∀ ls : Array Slot, lv_has ls 7 [(0, .ref a0), (1, .int v1), (2, .int v2), (3, .long v3), (5, .int v5), (6, .int v6)] → W p l e (RM 2 44) s m args below meth c H locs 0 0 (MQ below (QRr (.long res) A) args s 0 0 A) (F0 m 16 ls []) := by
  obtain ⟨hx, hb, hml, hr, hown, hts, hK, hlocks⟩ := id X
  intro n
  induction n with
  | zero =>
    intro v1 v2 v3 v5 v6 res hm
    rw [m_Medium_digest_L16] at hm
    cases hm
  | succ n ih =>
    intro v1 v2 v3 v5 v6 res hm H locs hP hD hS ls hl
    rw [m_Medium_digest_L16] at hm
    refine lv_iload hx hb d_Medium_digest_16 (lv_at hl 5 rfl) ?_
    refine lv_bipush (v := 32) hx hb d_Medium_digest_18 (by decide) ?_
    refine lv_icmp_ge (tgt := 42) hx hb d_Medium_digest_20 (by decide) (fun c2 => ?_) (fun c2 => ?_)
    · replace hm := ip c2 hm
      exact hk v1 v2 v3 v5 _ hm _ _ hP hD hS ls (lv_sub hl [0, 1, 2, 3, 4] rfl)
    · replace hm := ineg c2 hm
      refine lv_lload_n hx hb d_Medium_digest_23 rfl (lv_at hl 3 rfl) ?_
      refine lv_aload_n hx hb d_Medium_digest_24 rfl (lv_at hl 0 rfl) ?_
      refine lv_iload hx hb d_Medium_digest_25 (lv_at hl 4 rfl) ?_
      refine lv_iload hx hb d_Medium_digest_27 (lv_at hl 5 rfl) ?_
      obtain ⟨q3, hq3, hm⟩ := ob hm
      refine inv_rVa (C := R_Medium) (As := [.int v5, .int v6]) (rest := [.long v3]) (v := .int q3) X (c_Medium_at l D ca a0 a1 _ x v5 v6 q3 hq3) g_Medium_38 yo_Medium_at ⟨Nat.le_of_ble_eq_true rfl, Nat.le_of_ble_eq_true rfl⟩ hl hP hD (ci := 0) rfl rfl hS hA rfl rfl (Nat.le_of_ble_eq_true rfl) ⟨Nat.zero_le _, Nat.zero_le _⟩ d_Medium_digest_29 (fun H locs hP hS => ?_)
      obtain ⟨q4, hq4, hm⟩ := ob hm
      refine inv_rSN (As := [.long v3, .int q3]) (rest := []) (v := .long q4) X (c_Log_digestStep l D ca  _ v3 q3 q4 hq4) g_Medium_41 yo_Log_digestStep.2 ⟨Nat.le_of_ble_eq_true rfl, Nat.le_of_ble_eq_true rfl⟩ hl hP hD [] rfl rfl hS hA rfl rfl (Nat.le_of_ble_eq_true rfl) ⟨Nat.zero_le _, Nat.zero_le _⟩ d_Medium_digest_32 (fun H locs hP hS => ?_)
      refine lv_lstore_n (lv' := [(3, .long q4), (0, .ref a0), (1, .int v1), (2, .int v2), (5, .int v5), (6, .int v6)]) hx hb d_Medium_digest_35 rfl hl (by decide) rfl (fun ls hl => ?_)
      refine lv_iinc (v := (v6 + 1)) (lv' := [(6, .int (v6 + 1)), (3, .long q4), (0, .ref a0), (1, .int v1), (2, .int v2), (5, .int v5)]) hx hb d_Medium_digest_36 hl (k := 5) rfl rfl (by decide) rfl (fun ls hl => ?_)
      refine lv_goto (tgt := 16) hx hb d_Medium_digest_39 (by decide) ?_
      exact ih  v1 v2 q4 v5 (v6 + 1) _ hm _ _ hP hD hS ls (lv_sub hl [2, 3, 4, 1, 5, 0] rfl)
set_option maxHeartbeats 4000000 in
set_option maxRecDepth 100000 in
theorem k_m_Medium_digest_L5 {p : Program} {l : Launch} {e : Env} {s : State} {m : MethodId} {args : Array Value} {below : List Frame} {meth : Method} {c : Code} {D : va_G} {ca : Nat → ClassId} {a0 a1 : Nat} {A : Nat → Prop} (X : Cx p s m args meth c R_Medium b_Medium_digest 7 (some .long) D ca) (hA : ∀ q, s.heap.size ≤ q → A q) {x : St_Medium} : ∀ (n : Nat) (v1 : Int32) (v2 : Int32) (v3 : Int64) (v5 : Int32) (res : Int64), m_Medium_digest_L5 x n v1 v2 v3 v5 = some res → ∀ (H : Heap) (locs : List Loc), va_P D classes (wl_Medium ca a0 a1 x) H → va_D (fun _ => True) (wl_Medium ca a0 a1 x) → va_S A s.heap H locs → ∀ ls : Array Slot, lv_has ls 7 [(0, .ref a0), (1, .int v1), (2, .int v2), (3, .long v3), (5, .int v5)] → W p l e (RM 2 44) s m args below meth c H locs 0 0 (MQ below (QRr (.long res) A) args s 0 0 A) (F0 m 5 ls []) := by
  obtain ⟨hx, hb, hml, hr, hown, hts, hK, hlocks⟩ := id X
  intro n
  induction n with
  | zero =>
    intro v1 v2 v3 v5 res hm
    rw [m_Medium_digest_L5] at hm
    cases hm
  | succ n ih =>
    intro v1 v2 v3 v5 res hm H locs hP hD hS ls hl
    rw [m_Medium_digest_L5] at hm
    refine lv_iload hx hb d_Medium_digest_5 (lv_at hl 4 rfl) ?_
    refine lv_iload_n hx hb d_Medium_digest_7 rfl (lv_at hl 1 rfl) ?_
    refine lv_iload_n hx hb d_Medium_digest_8 rfl (lv_at hl 2 rfl) ?_
    refine lv_iadd hx hb d_Medium_digest_9 ?_
    refine lv_icmp_ge (tgt := 48) hx hb d_Medium_digest_10 (by decide) (fun c1 => ?_) (fun c1 => ?_)
    · replace hm := ip c1 hm
      refine lv_lload_n hx hb d_Medium_digest_48 rfl (lv_at hl 3 rfl) ?_
      cases hm
      exact ret_rl X hS d_Medium_digest_49
    · replace hm := ineg c1 hm
      refine lv_iconst (v := 0) hx hb d_Medium_digest_13 (by decide) ?_
      refine lv_istore (lv' := [(6, .int 0), (0, .ref a0), (1, .int v1), (2, .int v2), (3, .long v3), (5, .int v5)]) hx hb d_Medium_digest_14 hl (by decide) rfl (fun ls hl => ?_)
      refine k_m_Medium_digest_L16 X hA (k := (fun (v1_5 : Int32) (v2_6 : Int32) (v3_7 : Int64) (v5_8 : Int32) => m_Medium_digest_L5 x n v1_5 v2_6 v3_7 (v5_8 + 1))) (fun v1_5 v2_6 v3_7 v5_8 res hm H locs hP hD hS ls hl => ?_) FU  v1 v2 v3 v5 0 _ hm _ _ hP hD hS ls (lv_sub hl [1, 2, 3, 4, 5, 0] rfl)
      · have hm := hm
        refine lv_iinc (v := (v5_8 + 1)) (lv' := [(5, .int (v5_8 + 1)), (0, .ref a0), (1, .int v1_5), (2, .int v2_6), (3, .long v3_7)]) hx hb d_Medium_digest_42 hl (k := 4) rfl rfl (by decide) rfl (fun ls hl => ?_)
        refine lv_goto (tgt := 5) hx hb d_Medium_digest_45 (by decide) ?_
        exact ih  v1_5 v2_6 v3_7 (v5_8 + 1) _ hm _ _ hP hD hS ls (lv_sub hl [1, 2, 3, 4, 0] rfl)
set_option maxHeartbeats 4000000 in
set_option maxRecDepth 100000 in
theorem c_Medium_digest (l : Launch) (D : va_G) (ca : Nat → ClassId) (a0 a1 : Nat) (sz : Nat) (x : St_Medium) (p1 : Int32) (p2 : Int32) (res : Int64) (hm : m_Medium_digest x p1 p2 = some res) : Met l y_Medium_digest (cws y_Medium_digest b_Medium_digest 7 (some .long)) (RM 2 44) (PreW D ca (wl_Medium ca a0 a1 x) [.ref a0, .int p1, .int p2] sz) (QRr (.long res) (va_A [] sz)) 0 0 (va_A [] sz) := by
  refine met_ofR (own := R_Medium) (by decide) rfl (Nat.le_of_ble_eq_true rfl) ?_
  intro p e s m below meth c A X hA hP hD ls hl
  obtain ⟨hx, hb, hml, hr, hown, hts, hK, hlocks⟩ := id X
  have hS : va_S A s.heap s.heap [] := va_S.rf
  have hl : lv_has ls 7 [(0, .ref a0), (1, .int p1), (2, .int p2)] := hl
  unfold m_Medium_digest at hm
  refine lv_lconst (v := 0) hx hb d_Medium_digest_0 (by decide) ?_
  refine lv_lstore_n (lv' := [(3, .long 0), (0, .ref a0), (1, .int p1), (2, .int p2)]) hx hb d_Medium_digest_1 rfl hl (by decide) rfl (fun ls hl => ?_)
  refine lv_iload_n hx hb d_Medium_digest_2 rfl (lv_at hl 2 rfl) ?_
  refine lv_istore (lv' := [(5, .int p1), (3, .long 0), (0, .ref a0), (1, .int p1), (2, .int p2)]) hx hb d_Medium_digest_3 hl (by decide) rfl (fun ls hl => ?_)
  exact k_m_Medium_digest_L5 X hA FU  p1 p2 0 p1 _ hm _ _ hP hD hS ls (lv_sub hl [2, 3, 4, 1, 0] rfl)
set_option maxHeartbeats 4000000 in
set_option maxRecDepth 100000 in
theorem c_Marks_digestAt (l : Launch) (D : va_G) (ca : Nat → ClassId) (a0 a1 a2 a3 a4 a5 : Nat) (sz : Nat) (x : St_Marks) (p1 : Int32) (res : Int64) (hm : m_Marks_digestAt x p1 = some res) : Met l y_Marks_digestAt (cws y_Marks_digestAt b_Marks_digestAt 2 (some .long)) (RM 1 21) (PreW D ca (wl_Marks ca a0 a1 a2 a3 a4 a5 x) [.ref a0, .int p1] sz) (QRr (.long res) (va_A [] sz)) 0 0 (va_A [] sz) := by
  refine met_ofR (own := R_Marks) (by decide) rfl (Nat.le_of_ble_eq_true rfl) ?_
  intro p e s m below meth c A X hA hP hD ls hl
  obtain ⟨hx, hb, hml, hr, hown, hts, hK, hlocks⟩ := id X
  have hS : va_S A s.heap s.heap [] := va_S.rf
  have hl : lv_has ls 2 [(0, .ref a0), (1, .int p1)] := hl
  unfold m_Marks_digestAt at hm
  refine lv_aload_n hx hb d_Marks_digestAt_0 rfl (lv_at hl 0 rfl) ?_
  refine lv_iload_n hx hb d_Marks_digestAt_1 rfl (lv_at hl 1 rfl) ?_
  obtain ⟨q1, hq1, hm⟩ := ob hm
  refine inv_rVa (C := R_Marks) (As := [.int p1]) (rest := []) (v := .int q1) X (c_Marks_has l D ca a0 a1 a2 a3 a4 a5 _ x p1 q1 hq1) g_Marks_46 yo_Marks_has ⟨Nat.le_of_ble_eq_true rfl, Nat.le_of_ble_eq_true rfl⟩ hl hP hD (ci := 4) rfl rfl hS hA rfl rfl (Nat.le_of_ble_eq_true rfl) ⟨Nat.zero_le _, Nat.zero_le _⟩ d_Marks_digestAt_2 (fun H locs hP hS => ?_)
  refine lv_if_eq (tgt := 17) hx hb d_Marks_digestAt_5 (by decide) (fun c2 => ?_) (fun c2 => ?_)
  · replace hm := ip c2 hm
    refine lv_lconst (v := 0) hx hb d_Marks_digestAt_17 (by decide) ?_
    cases hm
    exact ret_rl X hS d_Marks_digestAt_18
  · replace hm := ineg c2 hm
    refine lv_aload_n hx hb d_Marks_digestAt_8 rfl (lv_at hl 0 rfl) ?_
    refine va_get (D := D) (ci := 4) (v := .ref a5) (C := R_Marks) (T := F_Marks) (N := 6) hx hb hts i_Marks hown hK hP 0 rfl rfl 4 (by decide) (hts _ wf_Marks_27) (fun _ h9 => h9) rfl d_Marks_digestAt_9 ?_
    refine lv_iload_n hx hb d_Marks_digestAt_12 rfl (lv_at hl 1 rfl) ?_
    obtain ⟨b3, hm⟩ := on hm
    refine va_lald hx hb hK hP 5 3 rfl rfl b3 d_Marks_digestAt_13 ?_
    refine lv_goto (tgt := 18) hx hb d_Marks_digestAt_14 (by decide) ?_
    cases hm
    exact ret_rl X hS d_Marks_digestAt_18
set_option maxHeartbeats 4000000 in
set_option maxRecDepth 100000 in
theorem c_Parts_groupAt (l : Launch) (D : va_G) (ca : Nat → ClassId) (a0 a1 a2 a3 a4 a5 : Nat) (sz : Nat) (x : St_Parts) (p1 : Int32) (res : Int32) (hm : m_Parts_groupAt x p1 = some res) : Met l y_Parts_groupAt (cws y_Parts_groupAt b_Parts_groupAt 2 (some .int)) (RM 1 21) (PreW D ca (wl_Parts ca a0 a1 a2 a3 a4 a5 x) [.ref a0, .int p1] sz) (QRr (.int res) (va_A [] sz)) 0 0 (va_A [] sz) := by
  refine met_ofR (own := R_Parts) (by decide) rfl (Nat.le_of_ble_eq_true rfl) ?_
  intro p e s m below meth c A X hA hP hD ls hl
  obtain ⟨hx, hb, hml, hr, hown, hts, hK, hlocks⟩ := id X
  have hS : va_S A s.heap s.heap [] := va_S.rf
  have hl : lv_has ls 2 [(0, .ref a0), (1, .int p1)] := hl
  unfold m_Parts_groupAt at hm
  refine lv_aload_n hx hb d_Parts_groupAt_0 rfl (lv_at hl 0 rfl) ?_
  refine lv_iload_n hx hb d_Parts_groupAt_1 rfl (lv_at hl 1 rfl) ?_
  obtain ⟨q1, hq1, hm⟩ := ob hm
  refine inv_rVa (C := R_Parts) (As := [.int p1]) (rest := []) (v := .int q1) X (c_Parts_has l D ca a0 a1 a2 a3 a4 a5 _ x p1 q1 hq1) g_Parts_46 yo_Parts_has ⟨Nat.le_of_ble_eq_true rfl, Nat.le_of_ble_eq_true rfl⟩ hl hP hD (ci := 3) rfl rfl hS hA rfl rfl (Nat.le_of_ble_eq_true rfl) ⟨Nat.zero_le _, Nat.zero_le _⟩ d_Parts_groupAt_2 (fun H locs hP hS => ?_)
  refine lv_if_eq (tgt := 17) hx hb d_Parts_groupAt_5 (by decide) (fun c2 => ?_) (fun c2 => ?_)
  · replace hm := ip c2 hm
    refine lv_iconst (v := (-1)) hx hb d_Parts_groupAt_17 (by decide) ?_
    cases hm
    exact ret_ri X hS d_Parts_groupAt_18
  · replace hm := ineg c2 hm
    refine lv_aload_n hx hb d_Parts_groupAt_8 rfl (lv_at hl 0 rfl) ?_
    refine va_get (D := D) (ci := 3) (v := .ref a2) (C := R_Parts) (T := F_Parts) (N := 6) hx hb hts i_Parts hown hK hP 0 rfl rfl 1 (by decide) (hts _ wf_Parts_21) (fun _ h9 => h9) rfl d_Parts_groupAt_9 ?_
    refine lv_iload_n hx hb d_Parts_groupAt_12 rfl (lv_at hl 1 rfl) ?_
    obtain ⟨b3, hm⟩ := on hm
    refine va_iald hx hb hK hP 2 2 rfl rfl b3 d_Parts_groupAt_13 ?_
    refine lv_goto (tgt := 18) hx hb d_Parts_groupAt_14 (by decide) ?_
    cases hm
    exact ret_ri X hS d_Parts_groupAt_18
set_option maxHeartbeats 4000000 in
set_option maxRecDepth 100000 in
theorem c_Parts_positionAt (l : Launch) (D : va_G) (ca : Nat → ClassId) (a0 a1 a2 a3 a4 a5 : Nat) (sz : Nat) (x : St_Parts) (p1 : Int32) (res : Int64) (hm : m_Parts_positionAt x p1 = some res) : Met l y_Parts_positionAt (cws y_Parts_positionAt b_Parts_positionAt 2 (some .long)) (RM 1 21) (PreW D ca (wl_Parts ca a0 a1 a2 a3 a4 a5 x) [.ref a0, .int p1] sz) (QRr (.long res) (va_A [] sz)) 0 0 (va_A [] sz) := by
  refine met_ofR (own := R_Parts) (by decide) rfl (Nat.le_of_ble_eq_true rfl) ?_
  intro p e s m below meth c A X hA hP hD ls hl
  obtain ⟨hx, hb, hml, hr, hown, hts, hK, hlocks⟩ := id X
  have hS : va_S A s.heap s.heap [] := va_S.rf
  have hl : lv_has ls 2 [(0, .ref a0), (1, .int p1)] := hl
  unfold m_Parts_positionAt at hm
  refine lv_aload_n hx hb d_Parts_positionAt_0 rfl (lv_at hl 0 rfl) ?_
  refine lv_iload_n hx hb d_Parts_positionAt_1 rfl (lv_at hl 1 rfl) ?_
  obtain ⟨q1, hq1, hm⟩ := ob hm
  refine inv_rVa (C := R_Parts) (As := [.int p1]) (rest := []) (v := .int q1) X (c_Parts_has l D ca a0 a1 a2 a3 a4 a5 _ x p1 q1 hq1) g_Parts_46 yo_Parts_has ⟨Nat.le_of_ble_eq_true rfl, Nat.le_of_ble_eq_true rfl⟩ hl hP hD (ci := 3) rfl rfl hS hA rfl rfl (Nat.le_of_ble_eq_true rfl) ⟨Nat.zero_le _, Nat.zero_le _⟩ d_Parts_positionAt_2 (fun H locs hP hS => ?_)
  refine lv_if_eq (tgt := 17) hx hb d_Parts_positionAt_5 (by decide) (fun c2 => ?_) (fun c2 => ?_)
  · replace hm := ip c2 hm
    refine lv_ldc2 hx hb hown (hts _ wc_Parts_50) d_Parts_positionAt_17 ?_
    cases hm
    exact ret_rl X hS d_Parts_positionAt_20
  · replace hm := ineg c2 hm
    refine lv_aload_n hx hb d_Parts_positionAt_8 rfl (lv_at hl 0 rfl) ?_
    refine va_get (D := D) (ci := 3) (v := .ref a5) (C := R_Parts) (T := F_Parts) (N := 6) hx hb hts i_Parts hown hK hP 0 rfl rfl 4 (by decide) (hts _ wf_Parts_30) (fun _ h9 => h9) rfl d_Parts_positionAt_9 ?_
    refine lv_iload_n hx hb d_Parts_positionAt_12 rfl (lv_at hl 1 rfl) ?_
    obtain ⟨b3, hm⟩ := on hm
    refine va_lald hx hb hK hP 5 3 rfl rfl b3 d_Parts_positionAt_13 ?_
    refine lv_goto (tgt := 20) hx hb d_Parts_positionAt_14 (by decide) ?_
    cases hm
    exact ret_rl X hS d_Parts_positionAt_20
set_option maxHeartbeats 4000000 in
set_option maxRecDepth 100000 in
theorem k_m_Medium_isClear_L2 {p : Program} {l : Launch} {e : Env} {s : State} {m : MethodId} {args : Array Value} {below : List Frame} {meth : Method} {c : Code} {D : va_G} {ca : Nat → ClassId} {a0 a1 : Nat} {A : Nat → Prop} (X : Cx p s m args meth c R_Medium b_Medium_isClear 3 (some .boolean) D ca) (hA : ∀ q, s.heap.size ≤ q → A q) {x : St_Medium} : ∀ (n : Nat) (v1 : Int32) (v2 : Int32) (res : Int32), m_Medium_isClear_L2 x n v1 v2 = some res → ∀ (H : Heap) (locs : List Loc), va_P D classes (wl_Medium ca a0 a1 x) H → va_D (fun _ => True) (wl_Medium ca a0 a1 x) → va_S A s.heap H locs → ∀ ls : Array Slot, lv_has ls 3 [(0, .ref a0), (1, .int v1), (2, .int v2)] → W p l e (RM 2 44) s m args below meth c H locs 0 0 (MQ below (QRr (.int res) A) args s 0 0 A) (F0 m 2 ls []) := by
  obtain ⟨hx, hb, hml, hr, hown, hts, hK, hlocks⟩ := id X
  intro n
  induction n with
  | zero =>
    intro v1 v2 res hm
    rw [m_Medium_isClear_L2] at hm
    cases hm
  | succ n ih =>
    intro v1 v2 res hm H locs hP hD hS ls hl
    rw [m_Medium_isClear_L2] at hm
    refine lv_iload_n hx hb d_Medium_isClear_2 rfl (lv_at hl 2 rfl) ?_
    refine lv_bipush (v := 32) hx hb d_Medium_isClear_3 (by decide) ?_
    refine lv_icmp_ge (tgt := 25) hx hb d_Medium_isClear_5 (by decide) (fun c1 => ?_) (fun c1 => ?_)
    · replace hm := ip c1 hm
      refine lv_iconst (v := 1) hx hb d_Medium_isClear_25 (by decide) ?_
      cases hm
      exact ret_rz X nz1 hS d_Medium_isClear_26
    · replace hm := ineg c1 hm
      refine lv_aload_n hx hb d_Medium_isClear_8 rfl (lv_at hl 0 rfl) ?_
      refine lv_iload_n hx hb d_Medium_isClear_9 rfl (lv_at hl 1 rfl) ?_
      refine lv_iload_n hx hb d_Medium_isClear_10 rfl (lv_at hl 2 rfl) ?_
      obtain ⟨q2, hq2, hm⟩ := ob hm
      refine inv_rVa (C := R_Medium) (As := [.int v1, .int v2]) (rest := []) (v := .int q2) X (c_Medium_at l D ca a0 a1 _ x v1 v2 q2 hq2) g_Medium_38 yo_Medium_at ⟨Nat.le_of_ble_eq_true rfl, Nat.le_of_ble_eq_true rfl⟩ hl hP hD (ci := 0) rfl rfl hS hA rfl rfl (Nat.le_of_ble_eq_true rfl) ⟨Nat.zero_le _, Nat.zero_le _⟩ d_Medium_isClear_11 (fun H locs hP hS => ?_)
      refine lv_if_eq (tgt := 19) hx hb d_Medium_isClear_14 (by decide) (fun c3 => ?_) (fun c3 => ?_)
      · replace hm := ip c3 hm
        refine lv_iinc (v := (v2 + 1)) (lv' := [(2, .int (v2 + 1)), (0, .ref a0), (1, .int v1)]) hx hb d_Medium_isClear_19 hl (k := 2) rfl rfl (by decide) rfl (fun ls hl => ?_)
        refine lv_goto (tgt := 2) hx hb d_Medium_isClear_22 (by decide) ?_
        exact ih  v1 (v2 + 1) _ hm _ _ hP hD hS ls (lv_sub hl [1, 2, 0] rfl)
      · replace hm := ineg c3 hm
        refine lv_iconst (v := 0) hx hb d_Medium_isClear_17 (by decide) ?_
        cases hm
        exact ret_rz X nz0 hS d_Medium_isClear_18
set_option maxHeartbeats 4000000 in
set_option maxRecDepth 100000 in
theorem c_Medium_isClear (l : Launch) (D : va_G) (ca : Nat → ClassId) (a0 a1 : Nat) (sz : Nat) (x : St_Medium) (p1 : Int32) (res : Int32) (hm : m_Medium_isClear x p1 = some res) : Met l y_Medium_isClear (cws y_Medium_isClear b_Medium_isClear 3 (some .boolean)) (RM 2 44) (PreW D ca (wl_Medium ca a0 a1 x) [.ref a0, .int p1] sz) (QRr (.int res) (va_A [] sz)) 0 0 (va_A [] sz) := by
  refine met_ofR (own := R_Medium) (by decide) rfl (Nat.le_of_ble_eq_true rfl) ?_
  intro p e s m below meth c A X hA hP hD ls hl
  obtain ⟨hx, hb, hml, hr, hown, hts, hK, hlocks⟩ := id X
  have hS : va_S A s.heap s.heap [] := va_S.rf
  have hl : lv_has ls 3 [(0, .ref a0), (1, .int p1)] := hl
  unfold m_Medium_isClear at hm
  refine lv_iconst (v := 0) hx hb d_Medium_isClear_0 (by decide) ?_
  refine lv_istore_n (lv' := [(2, .int 0), (0, .ref a0), (1, .int p1)]) hx hb d_Medium_isClear_1 rfl hl (by decide) rfl (fun ls hl => ?_)
  exact k_m_Medium_isClear_L2 X hA FU  p1 0 _ hm _ _ hP hD hS ls (lv_sub hl [1, 2, 0] rfl)
set_option maxHeartbeats 4000000 in
set_option maxRecDepth 100000 in
theorem c_Medium_alter (l : Launch) (D : va_G) (ca : Nat → ClassId) (a0 a1 : Nat) (sz : Nat) (x : St_Medium) (p1 : Int32) (p2 : Int32) (p3 : Int32) (res : St_Medium) (hm : m_Medium_alter x p1 p2 p3 = some res) : Met l y_Medium_alter (cws y_Medium_alter b_Medium_alter 4 none) (RM 1 22) (PreW D ca (wl_Medium ca a0 a1 x) [.ref a0, .int p1, .int p2, .int p3] sz) (QRm D none (wl_Medium ca a0 a1 res) (va_A (wl_Medium ca a0 a1 x) sz)) 0 0 (va_A (wl_Medium ca a0 a1 x) sz) := by
  refine met_ofM (own := R_Medium) (by decide) rfl (Nat.le_of_ble_eq_true rfl) ?_
  intro p e s m below meth c A X hA hP hD ls hl
  obtain ⟨hx, hb, hml, hr, hown, hts, hK, hlocks⟩ := id X
  have hS : va_S A s.heap s.heap [] := va_S.rf
  have hl : lv_has ls 4 [(0, .ref a0), (1, .int p1), (2, .int p2), (3, .int p3)] := hl
  unfold m_Medium_alter at hm
  refine lv_aload_n hx hb d_Medium_alter_0 rfl (lv_at hl 0 rfl) ?_
  refine lv_iload_n hx hb d_Medium_alter_1 rfl (lv_at hl 1 rfl) ?_
  refine lv_iload_n hx hb d_Medium_alter_2 rfl (lv_at hl 2 rfl) ?_
  obtain ⟨q1, hq1, hm⟩ := ob hm
  refine inv_rVa (C := R_Medium) (As := [.int p1, .int p2]) (rest := []) (v := .int q1) X (c_Medium_has l D ca a0 a1 _ x p1 p2 q1 hq1) g_Medium_34 yo_Medium_has ⟨Nat.le_of_ble_eq_true rfl, Nat.le_of_ble_eq_true rfl⟩ hl hP hD (ci := 0) rfl rfl hS hA rfl rfl (Nat.le_of_ble_eq_true rfl) ⟨Nat.zero_le _, Nat.zero_le _⟩ d_Medium_alter_3 (fun H locs hP hS => ?_)
  refine lv_if_eq (tgt := 26) hx hb d_Medium_alter_6 (by decide) (fun c2 => ?_) (fun c2 => ?_)
  · replace hm := ip c2 hm
    cases hm
    exact ret_mv X hP hS d_Medium_alter_26
  · replace hm := ineg c2 hm
    refine lv_aload_n hx hb d_Medium_alter_9 rfl (lv_at hl 0 rfl) ?_
    refine va_get (D := D) (ci := 0) (v := .ref a1) (C := R_Medium) (T := F_Medium) (N := 4) hx hb hts i_Medium hown hK hP 0 rfl rfl 1 (by decide) (hts _ wf_Medium_24) (fun _ h9 => h9) rfl d_Medium_alter_10 ?_
    refine lv_iload_n hx hb d_Medium_alter_13 rfl (lv_at hl 1 rfl) ?_
    refine lv_bipush (v := 32) hx hb d_Medium_alter_14 (by decide) ?_
    refine lv_imul hx hb d_Medium_alter_16 ?_
    refine lv_iload_n hx hb d_Medium_alter_17 rfl (lv_at hl 2 rfl) ?_
    refine lv_iadd hx hb d_Medium_alter_18 ?_
    refine lv_dup2_11 hx hb d_Medium_alter_19 rfl rfl ?_
    obtain ⟨b3, hm⟩ := on hm
    refine va_bald hx hb hK hP 1 0 rfl rfl b3 d_Medium_alter_20 ?_
    refine lv_iload_n hx hb d_Medium_alter_21 rfl (lv_at hl 3 rfl) ?_
    refine lv_i2b (v := ((p3).toInt8.toInt32)) hx hb d_Medium_alter_22 rfl ?_
    refine lv_ixor hx hb d_Medium_alter_23 ?_
    refine lv_i2b (v := ((((x.2.1.2 (((p1 * 32) + p2)).toNatClampNeg) ^^^ ((p3).toInt8.toInt32))).toInt8.toInt32)) hx hb d_Medium_alter_24 rfl ?_
    obtain ⟨b4, hm⟩ := on hm
    refine va_bast hx hb hK hP hD hS 1 0 rfl rfl b4 d_Medium_alter_25 (fun H locs hP hD hS => ?_)
    replace hP : va_P D classes (wl_Medium ca a0 a1 (x.1, (x.2.1.1, upd x.2.1.2 (((p1 * 32) + p2)).toNatClampNeg (vp_nar .byte ((((x.2.1.2 (((p1 * 32) + p2)).toNatClampNeg) ^^^ ((p3).toInt8.toInt32))).toInt8.toInt32))), x.2.2.1, x.2.2.2)) H := hP
    replace hD : va_D A (wl_Medium ca a0 a1 (x.1, (x.2.1.1, upd x.2.1.2 (((p1 * 32) + p2)).toNatClampNeg (vp_nar .byte ((((x.2.1.2 (((p1 * 32) + p2)).toNatClampNeg) ^^^ ((p3).toInt8.toInt32))).toInt8.toInt32))), x.2.2.1, x.2.2.2)) := hD
    cases hm
    exact ret_mv X hP hS d_Medium_alter_26
set_option maxHeartbeats 4000000 in
set_option maxRecDepth 100000 in
theorem k_m_Room_countFree_L4 {p : Program} {l : Launch} {e : Env} {s : State} {m : MethodId} {args : Array Value} {below : List Frame} {meth : Method} {c : Code} {D : va_G} {ca : Nat → ClassId} {a0 a1 : Nat} {A : Nat → Prop} (X : Cx p s m args meth c R_Room b_Room_countFree 3 (some .int) D ca) (hA : ∀ q, s.heap.size ≤ q → A q) {x : St_Room} : ∀ (n : Nat) (v1 : Int32) (v2 : Int32) (res : Int32), m_Room_countFree_L4 x n v1 v2 = some res → ∀ (H : Heap) (locs : List Loc), va_P D classes (wl_Room ca a0 a1 x) H → va_D (fun _ => True) (wl_Room ca a0 a1 x) → va_S A s.heap H locs → ∀ ls : Array Slot, lv_has ls 3 [(0, .ref a0), (1, .int v1), (2, .int v2)] → W p l e (RM 0 0) s m args below meth c H locs 0 0 (MQ below (QRr (.int res) A) args s 0 0 A) (F0 m 4 ls []) := by
  obtain ⟨hx, hb, hml, hr, hown, hts, hK, hlocks⟩ := id X
  intro n
  induction n with
  | zero =>
    intro v1 v2 res hm
    rw [m_Room_countFree_L4] at hm
    cases hm
  | succ n ih =>
    intro v1 v2 res hm H locs hP hD hS ls hl
    rw [m_Room_countFree_L4] at hm
    refine lv_iload_n hx hb d_Room_countFree_4 rfl (lv_at hl 2 rfl) ?_
    refine lv_aload_n hx hb d_Room_countFree_5 rfl (lv_at hl 0 rfl) ?_
    refine va_get (D := D) (ci := 2) (v := .ref a1) (C := R_Room) (T := F_Room) (N := 1) hx hb hts i_Room hown hK hP 0 rfl rfl 0 (by decide) (hts _ wf_Room_15) (fun _ h9 => h9) rfl d_Room_countFree_6 ?_
    refine va_alen hx hb hK hP 1 1 rfl rfl (v := nI x.1) rfl d_Room_countFree_9 ?_
    refine lv_icmp_ge (tgt := 31) hx hb d_Room_countFree_10 (by decide) (fun c1 => ?_) (fun c1 => ?_)
    · replace hm := ip c1 hm
      refine lv_iload_n hx hb d_Room_countFree_31 rfl (lv_at hl 1 rfl) ?_
      cases hm
      exact ret_ri X hS d_Room_countFree_32
    · replace hm := ineg c1 hm
      refine lv_aload_n hx hb d_Room_countFree_13 rfl (lv_at hl 0 rfl) ?_
      refine va_get (D := D) (ci := 2) (v := .ref a1) (C := R_Room) (T := F_Room) (N := 1) hx hb hts i_Room hown hK hP 0 rfl rfl 0 (by decide) (hts _ wf_Room_15) (fun _ h9 => h9) rfl d_Room_countFree_14 ?_
      refine lv_iload_n hx hb d_Room_countFree_17 rfl (lv_at hl 2 rfl) ?_
      obtain ⟨b2, hm⟩ := on hm
      refine va_zald hx hb hK hP 1 1 rfl rfl b2 d_Room_countFree_18 ?_
      refine lv_if_ne (tgt := 25) hx hb d_Room_countFree_19 (by decide) (fun c3 => ?_) (fun c3 => ?_)
      · replace hm := ineg c3 hm
        refine lv_iinc (v := (v2 + 1)) (lv' := [(2, .int (v2 + 1)), (0, .ref a0), (1, .int v1)]) hx hb d_Room_countFree_25 hl (k := 2) rfl rfl (by decide) rfl (fun ls hl => ?_)
        refine lv_goto (tgt := 4) hx hb d_Room_countFree_28 (by decide) ?_
        exact ih  v1 (v2 + 1) _ hm _ _ hP hD hS ls (lv_sub hl [1, 2, 0] rfl)
      · replace hm := ip c3 hm
        refine lv_iinc (v := (v1 + 1)) (lv' := [(1, .int (v1 + 1)), (0, .ref a0), (2, .int v2)]) hx hb d_Room_countFree_22 hl (k := 1) rfl rfl (by decide) rfl (fun ls hl => ?_)
        refine lv_iinc (v := (v2 + 1)) (lv' := [(2, .int (v2 + 1)), (1, .int (v1 + 1)), (0, .ref a0)]) hx hb d_Room_countFree_25 hl (k := 2) rfl rfl (by decide) rfl (fun ls hl => ?_)
        refine lv_goto (tgt := 4) hx hb d_Room_countFree_28 (by decide) ?_
        exact ih  (v1 + 1) (v2 + 1) _ hm _ _ hP hD hS ls (lv_sub hl [2, 1, 0] rfl)
set_option maxHeartbeats 4000000 in
set_option maxRecDepth 100000 in
theorem c_Room_countFree (l : Launch) (D : va_G) (ca : Nat → ClassId) (a0 a1 : Nat) (sz : Nat) (x : St_Room)  (res : Int32) (hm : m_Room_countFree x = some res) : Met l y_Room_countFree (cws y_Room_countFree b_Room_countFree 3 (some .int)) (RM 0 0) (PreW D ca (wl_Room ca a0 a1 x) [.ref a0] sz) (QRr (.int res) (va_A [] sz)) 0 0 (va_A [] sz) := by
  refine met_ofR (own := R_Room) (by decide) rfl (Nat.le_of_ble_eq_true rfl) ?_
  intro p e s m below meth c A X hA hP hD ls hl
  obtain ⟨hx, hb, hml, hr, hown, hts, hK, hlocks⟩ := id X
  have hS : va_S A s.heap s.heap [] := va_S.rf
  have hl : lv_has ls 3 [(0, .ref a0)] := hl
  unfold m_Room_countFree at hm
  refine lv_iconst (v := 0) hx hb d_Room_countFree_0 (by decide) ?_
  refine lv_istore_n (lv' := [(1, .int 0), (0, .ref a0)]) hx hb d_Room_countFree_1 rfl hl (by decide) rfl (fun ls hl => ?_)
  refine lv_iconst (v := 2) hx hb d_Room_countFree_2 (by decide) ?_
  refine lv_istore_n (lv' := [(2, .int 2), (1, .int 0), (0, .ref a0)]) hx hb d_Room_countFree_3 rfl hl (by decide) rfl (fun ls hl => ?_)
  exact k_m_Room_countFree_L4 X hA FU  0 2 _ hm _ _ hP hD hS ls (lv_sub hl [2, 1, 0] rfl)
set_option maxHeartbeats 4000000 in
set_option maxRecDepth 100000 in
theorem c_Medium_written (l : Launch) (D : va_G) (ca : Nat → ClassId) (a0 a1 : Nat) (sz : Nat) (x : St_Medium)  (res : Int32) (hm : m_Medium_written x = some res) : Met l y_Medium_written (cws y_Medium_written b_Medium_written 1 (some .int)) (RM 0 0) (PreW D ca (wl_Medium ca a0 a1 x) [.ref a0] sz) (QRr (.int res) (va_A [] sz)) 0 0 (va_A [] sz) := by
  refine met_ofR (own := R_Medium) (by decide) rfl (Nat.le_of_ble_eq_true rfl) ?_
  intro p e s m below meth c A X hA hP hD ls hl
  obtain ⟨hx, hb, hml, hr, hown, hts, hK, hlocks⟩ := id X
  have hS : va_S A s.heap s.heap [] := va_S.rf
  have hl : lv_has ls 1 [(0, .ref a0)] := hl
  unfold m_Medium_written at hm
  refine lv_aload_n hx hb d_Medium_written_0 rfl (lv_at hl 0 rfl) ?_
  refine va_get (D := D) (ci := 0) (v := .int x.2.2.2) (C := R_Medium) (T := F_Medium) (N := 4) hx hb hts i_Medium hown hK hP 0 rfl rfl 3 (by decide) (hts _ wf_Medium_31) (fun _ h9 => h9) rfl d_Medium_written_1 ?_
  cases hm
  exact ret_ri X hS d_Medium_written_4
set_option maxHeartbeats 4000000 in
set_option maxRecDepth 100000 in
theorem k_m_Bytes_number_L5 {p : Program} {l : Launch} {e : Env} {s : State} {m : MethodId} {args : Array Value} {below : List Frame} {meth : Method} {c : Code} {D : va_G} {ca : Nat → ClassId} {a0 a1 : Nat} {A : Nat → Prop} (X : Cx p s m args meth c R_Bytes b_Bytes_number 6 (some .long) D ca) (hA : ∀ q, s.heap.size ≤ q → A q) {x : St_Bytes} : ∀ (n : Nat) (v1 : Int32) (v2 : Int32) (v3 : Int64) (v5 : Int32) (res : Int64), m_Bytes_number_L5 x n v1 v2 v3 v5 = some res → ∀ (H : Heap) (locs : List Loc), va_P D classes (wl_Bytes ca a0 a1 x) H → va_D (fun _ => True) (wl_Bytes ca a0 a1 x) → va_S A s.heap H locs → ∀ ls : Array Slot, lv_has ls 6 [(0, .ref a0), (1, .int v1), (2, .int v2), (3, .long v3), (5, .int v5)] → W p l e (RM 1 21) s m args below meth c H locs 0 0 (MQ below (QRr (.long res) A) args s 0 0 A) (F0 m 5 ls []) := by
  obtain ⟨hx, hb, hml, hr, hown, hts, hK, hlocks⟩ := id X
  intro n
  induction n with
  | zero =>
    intro v1 v2 v3 v5 res hm
    rw [m_Bytes_number_L5] at hm
    cases hm
  | succ n ih =>
    intro v1 v2 v3 v5 res hm H locs hP hD hS ls hl
    rw [m_Bytes_number_L5] at hm
    refine lv_iload hx hb d_Bytes_number_5 (lv_at hl 4 rfl) ?_
    refine lv_iload_n hx hb d_Bytes_number_7 rfl (lv_at hl 2 rfl) ?_
    refine lv_icmp_ge (tgt := 32) hx hb d_Bytes_number_8 (by decide) (fun c1 => ?_) (fun c1 => ?_)
    · replace hm := ip c1 hm
      refine lv_lload_n hx hb d_Bytes_number_32 rfl (lv_at hl 3 rfl) ?_
      cases hm
      exact ret_rl X hS d_Bytes_number_33
    · replace hm := ineg c1 hm
      refine lv_lload_n hx hb d_Bytes_number_11 rfl (lv_at hl 3 rfl) ?_
      refine lv_bipush (v := 8) hx hb d_Bytes_number_12 (by decide) ?_
      refine lv_lshl (v := (jlshl v3 8)) hx hb d_Bytes_number_14 rfl ?_
      refine lv_aload_n hx hb d_Bytes_number_15 rfl (lv_at hl 0 rfl) ?_
      refine lv_iload_n hx hb d_Bytes_number_16 rfl (lv_at hl 1 rfl) ?_
      refine lv_iload hx hb d_Bytes_number_17 (lv_at hl 4 rfl) ?_
      refine lv_iadd hx hb d_Bytes_number_19 ?_
      obtain ⟨q2, hq2, hm⟩ := ob hm
      refine inv_rVa (C := R_Bytes) (As := [.int (v1 + v5)]) (rest := [.long (jlshl v3 8)]) (v := .int q2) X (c_Bytes_at l D ca a0 a1 _ x (v1 + v5) q2 hq2) g_Bytes_23 yo_Bytes_at ⟨Nat.le_of_ble_eq_true rfl, Nat.le_of_ble_eq_true rfl⟩ hl hP hD (ci := 1) rfl rfl hS hA rfl rfl (Nat.le_of_ble_eq_true rfl) ⟨Nat.zero_le _, Nat.zero_le _⟩ d_Bytes_number_20 (fun H locs hP hS => ?_)
      refine lv_i2l (v := ((q2).toInt64)) hx hb d_Bytes_number_23 rfl ?_
      refine lv_lor hx hb d_Bytes_number_24 ?_
      refine lv_lstore_n (lv' := [(3, .long ((jlshl v3 8) ||| ((q2).toInt64))), (0, .ref a0), (1, .int v1), (2, .int v2), (5, .int v5)]) hx hb d_Bytes_number_25 rfl hl (by decide) rfl (fun ls hl => ?_)
      refine lv_iinc (v := (v5 + 1)) (lv' := [(5, .int (v5 + 1)), (3, .long ((jlshl v3 8) ||| ((q2).toInt64))), (0, .ref a0), (1, .int v1), (2, .int v2)]) hx hb d_Bytes_number_26 hl (k := 4) rfl rfl (by decide) rfl (fun ls hl => ?_)
      refine lv_goto (tgt := 5) hx hb d_Bytes_number_29 (by decide) ?_
      exact ih  v1 v2 ((jlshl v3 8) ||| ((q2).toInt64)) (v5 + 1) _ hm _ _ hP hD hS ls (lv_sub hl [2, 3, 4, 1, 0] rfl)
set_option maxHeartbeats 4000000 in
set_option maxRecDepth 100000 in
theorem c_Bytes_number (l : Launch) (D : va_G) (ca : Nat → ClassId) (a0 a1 : Nat) (sz : Nat) (x : St_Bytes) (p1 : Int32) (p2 : Int32) (res : Int64) (hm : m_Bytes_number x p1 p2 = some res) : Met l y_Bytes_number (cws y_Bytes_number b_Bytes_number 6 (some .long)) (RM 1 21) (PreW D ca (wl_Bytes ca a0 a1 x) [.ref a0, .int p1, .int p2] sz) (QRr (.long res) (va_A [] sz)) 0 0 (va_A [] sz) := by
  refine met_ofR (own := R_Bytes) (by decide) rfl (Nat.le_of_ble_eq_true rfl) ?_
  intro p e s m below meth c A X hA hP hD ls hl
  obtain ⟨hx, hb, hml, hr, hown, hts, hK, hlocks⟩ := id X
  have hS : va_S A s.heap s.heap [] := va_S.rf
  have hl : lv_has ls 6 [(0, .ref a0), (1, .int p1), (2, .int p2)] := hl
  unfold m_Bytes_number at hm
  refine lv_lconst (v := 0) hx hb d_Bytes_number_0 (by decide) ?_
  refine lv_lstore_n (lv' := [(3, .long 0), (0, .ref a0), (1, .int p1), (2, .int p2)]) hx hb d_Bytes_number_1 rfl hl (by decide) rfl (fun ls hl => ?_)
  refine lv_iconst (v := 0) hx hb d_Bytes_number_2 (by decide) ?_
  refine lv_istore (lv' := [(5, .int 0), (3, .long 0), (0, .ref a0), (1, .int p1), (2, .int p2)]) hx hb d_Bytes_number_3 hl (by decide) rfl (fun ls hl => ?_)
  exact k_m_Bytes_number_L5 X hA FU  p1 p2 0 0 _ hm _ _ hP hD hS ls (lv_sub hl [2, 3, 4, 1, 0] rfl)
set_option maxHeartbeats 4000000 in
set_option maxRecDepth 100000 in
theorem k_m_Room_copyFrom_L7 {p : Program} {l : Launch} {e : Env} {s : State} {m : MethodId} {args : Array Value} {below : List Frame} {meth : Method} {c : Code} {D : va_G} {ca : Nat → ClassId} {a0 a1 b0 b1 : Nat} {A : Nat → Prop} (X : Cx p s m args meth c R_Room b_Room_copyFrom 3 none D ca) (hA : ∀ q, s.heap.size ≤ q → A q) {y : St_Room} : ∀ (n : Nat) (x : St_Room) (v2 : Int32) (res : St_Room), m_Room_copyFrom_L7 y n x v2 = some res → ∀ (H : Heap) (locs : List Loc), va_P D classes (wl_Room ca a0 a1 x ++ wl_Room ca b0 b1 y) H → va_D A (wl_Room ca a0 a1 x ++ wl_Room ca b0 b1 y) → va_S A s.heap H locs → ∀ ls : Array Slot, lv_has ls 3 [(0, .ref a0), (1, .ref b0), (2, .int v2)] → W p l e (RM 0 0) s m args below meth c H locs 0 0 (MQ below (QRm D none (wl_Room ca a0 a1 res ++ wl_Room ca b0 b1 y) A) args s 0 0 A) (F0 m 7 ls []) := by
  obtain ⟨hx, hb, hml, hr, hown, hts, hK, hlocks⟩ := id X
  intro n
  induction n with
  | zero =>
    intro x v2 res hm
    rw [m_Room_copyFrom_L7] at hm
    cases hm
  | succ n ih =>
    intro x v2 res hm H locs hP hD hS ls hl
    rw [m_Room_copyFrom_L7] at hm
    refine lv_iload_n hx hb d_Room_copyFrom_7 rfl (lv_at hl 2 rfl) ?_
    refine lv_aload_n hx hb d_Room_copyFrom_8 rfl (lv_at hl 0 rfl) ?_
    refine va_get (D := D) (ci := 2) (v := .ref a1) (C := R_Room) (T := F_Room) (N := 1) hx hb hts i_Room hown hK hP 0 rfl rfl 0 (by decide) (hts _ wf_Room_15) (fun _ h9 => h9) rfl d_Room_copyFrom_9 ?_
    refine va_alen hx hb hK hP 1 1 rfl rfl (v := nI x.1) rfl d_Room_copyFrom_12 ?_
    refine lv_icmp_ge (tgt := 43) hx hb d_Room_copyFrom_13 (by decide) (fun c1 => ?_) (fun c1 => ?_)
    · replace hm := ip c1 hm
      cases hm
      exact ret_mv X hP hS d_Room_copyFrom_43
    · replace hm := ineg c1 hm
      refine lv_iload_n hx hb d_Room_copyFrom_16 rfl (lv_at hl 2 rfl) ?_
      refine lv_aload_n hx hb d_Room_copyFrom_17 rfl (lv_at hl 1 rfl) ?_
      refine va_get (D := D) (ci := 2) (v := .ref b1) (C := R_Room) (T := F_Room) (N := 1) hx hb hts i_Room hown hK hP 2 rfl rfl 0 (by decide) (hts _ wf_Room_15) (fun _ h9 => h9) rfl d_Room_copyFrom_18 ?_
      refine va_alen hx hb hK hP 3 1 rfl rfl (v := nI y.1) rfl d_Room_copyFrom_21 ?_
      refine lv_icmp_ge (tgt := 43) hx hb d_Room_copyFrom_22 (by decide) (fun c2 => ?_) (fun c2 => ?_)
      · replace hm := ip c2 hm
        cases hm
        exact ret_mv X hP hS d_Room_copyFrom_43
      · replace hm := ineg c2 hm
        refine lv_aload_n hx hb d_Room_copyFrom_25 rfl (lv_at hl 0 rfl) ?_
        refine va_get (D := D) (ci := 2) (v := .ref a1) (C := R_Room) (T := F_Room) (N := 1) hx hb hts i_Room hown hK hP 0 rfl rfl 0 (by decide) (hts _ wf_Room_15) (fun _ h9 => h9) rfl d_Room_copyFrom_26 ?_
        refine lv_iload_n hx hb d_Room_copyFrom_29 rfl (lv_at hl 2 rfl) ?_
        refine lv_aload_n hx hb d_Room_copyFrom_30 rfl (lv_at hl 1 rfl) ?_
        refine va_get (D := D) (ci := 2) (v := .ref b1) (C := R_Room) (T := F_Room) (N := 1) hx hb hts i_Room hown hK hP 2 rfl rfl 0 (by decide) (hts _ wf_Room_15) (fun _ h9 => h9) rfl d_Room_copyFrom_31 ?_
        refine lv_iload_n hx hb d_Room_copyFrom_34 rfl (lv_at hl 2 rfl) ?_
        obtain ⟨b3, hm⟩ := on hm
        refine va_zald hx hb hK hP 3 1 rfl rfl b3 d_Room_copyFrom_35 ?_
        obtain ⟨b4, hm⟩ := on hm
        refine va_zast hx hb hK hP hD hS 1 1 rfl rfl b4 d_Room_copyFrom_36 (fun H locs hP hD hS => ?_)
        replace hP : va_P D classes (wl_Room ca a0 a1 (x.1, upd x.2 (v2).toNatClampNeg (vp_nar .boolean (y.2 (v2).toNatClampNeg))) ++ wl_Room ca b0 b1 y) H := hP
        replace hD : va_D A (wl_Room ca a0 a1 (x.1, upd x.2 (v2).toNatClampNeg (vp_nar .boolean (y.2 (v2).toNatClampNeg))) ++ wl_Room ca b0 b1 y) := hD
        refine lv_iinc (v := (v2 + 1)) (lv' := [(2, .int (v2 + 1)), (0, .ref a0), (1, .ref b0)]) hx hb d_Room_copyFrom_37 hl (k := 2) rfl rfl (by decide) rfl (fun ls hl => ?_)
        refine lv_goto (tgt := 7) hx hb d_Room_copyFrom_40 (by decide) ?_
        exact ih (x.1, upd x.2 (v2).toNatClampNeg (vp_nar .boolean (y.2 (v2).toNatClampNeg))) (v2 + 1) _ hm _ _ hP hD hS ls (lv_sub hl [1, 2, 0] rfl)
set_option maxHeartbeats 4000000 in
set_option maxRecDepth 100000 in
theorem c_Room_copyFrom (l : Launch) (D : va_G) (ca : Nat → ClassId) (a0 a1 b0 b1 : Nat) (sz : Nat) (x : St_Room) (y : St_Room)  (res : St_Room) (hm : m_Room_copyFrom x y = some res) : Met l y_Room_copyFrom (cws y_Room_copyFrom b_Room_copyFrom 3 none) (RM 0 0) (PreW D ca (wl_Room ca a0 a1 x ++ wl_Room ca b0 b1 y) [.ref a0, .ref b0] sz) (QRm D none (wl_Room ca a0 a1 res ++ wl_Room ca b0 b1 y) (va_A (wl_Room ca a0 a1 x ++ wl_Room ca b0 b1 y) sz)) 0 0 (va_A (wl_Room ca a0 a1 x ++ wl_Room ca b0 b1 y) sz) := by
  refine met_ofM (own := R_Room) (by decide) rfl (Nat.le_of_ble_eq_true rfl) ?_
  intro p e s m below meth c A X hA hP hD ls hl
  obtain ⟨hx, hb, hml, hr, hown, hts, hK, hlocks⟩ := id X
  have hS : va_S A s.heap s.heap [] := va_S.rf
  have hl : lv_has ls 3 [(0, .ref a0), (1, .ref b0)] := hl
  unfold m_Room_copyFrom at hm
  refine lv_aload_n hx hb d_Room_copyFrom_0 rfl (lv_at hl 1 rfl) ?_
  refine lv_ifnonnull (tgt := 5) hx hb d_Room_copyFrom_1 (by decide) ?_
  refine lv_iconst (v := 0) hx hb d_Room_copyFrom_5 (by decide) ?_
  refine lv_istore_n (lv' := [(2, .int 0), (0, .ref a0), (1, .ref b0)]) hx hb d_Room_copyFrom_6 rfl hl (by decide) rfl (fun ls hl => ?_)
  exact k_m_Room_copyFrom_L7 X hA FU x 0 _ hm _ _ hP hD hS ls (lv_sub hl [1, 2, 0] rfl)
set_option maxHeartbeats 4000000 in
set_option maxRecDepth 100000 in
theorem k_m_Bytes_isSame_L19 {p : Program} {l : Launch} {e : Env} {s : State} {m : MethodId} {args : Array Value} {below : List Frame} {meth : Method} {c : Code} {D : va_G} {ca : Nat → ClassId} {a0 a1 b0 b1 : Nat} {A : Nat → Prop} (X : Cx p s m args meth c R_Bytes b_Bytes_isSame 3 (some .boolean) D ca) (hA : ∀ q, s.heap.size ≤ q → A q) {x : St_Bytes} {y : St_Bytes} : ∀ (n : Nat) (v2 : Int32) (res : Int32), m_Bytes_isSame_L19 x y n v2 = some res → ∀ (H : Heap) (locs : List Loc), va_P D classes (wl_Bytes ca a0 a1 x ++ wl_Bytes ca b0 b1 y) H → va_D (fun _ => True) (wl_Bytes ca a0 a1 x ++ wl_Bytes ca b0 b1 y) → va_S A s.heap H locs → ∀ ls : Array Slot, lv_has ls 3 [(0, .ref a0), (1, .ref b0), (2, .int v2)] → W p l e (RM 1 21) s m args below meth c H locs 0 0 (MQ below (QRr (.int res) A) args s 0 0 A) (F0 m 19 ls []) := by
  obtain ⟨hx, hb, hml, hr, hown, hts, hK, hlocks⟩ := id X
  intro n
  induction n with
  | zero =>
    intro v2 res hm
    rw [m_Bytes_isSame_L19] at hm
    cases hm
  | succ n ih =>
    intro v2 res hm H locs hP hD hS ls hl
    rw [m_Bytes_isSame_L19] at hm
    refine lv_iload_n hx hb d_Bytes_isSame_19 rfl (lv_at hl 2 rfl) ?_
    refine lv_aload_n hx hb d_Bytes_isSame_20 rfl (lv_at hl 0 rfl) ?_
    refine va_get (D := D) (ci := 1) (v := .int x.2) (C := R_Bytes) (T := F_Bytes) (N := 2) hx hb hts i_Bytes hown hK hP 0 rfl rfl 1 (by decide) (hts _ wf_Bytes_19) (fun _ h9 => h9) rfl d_Bytes_isSame_21 ?_
    refine lv_icmp_ge (tgt := 48) hx hb d_Bytes_isSame_24 (by decide) (fun c2 => ?_) (fun c2 => ?_)
    · replace hm := ip c2 hm
      refine lv_iconst (v := 1) hx hb d_Bytes_isSame_48 (by decide) ?_
      cases hm
      exact ret_rz X nz1 hS d_Bytes_isSame_49
    · replace hm := ineg c2 hm
      refine lv_aload_n hx hb d_Bytes_isSame_27 rfl (lv_at hl 0 rfl) ?_
      refine lv_iload_n hx hb d_Bytes_isSame_28 rfl (lv_at hl 2 rfl) ?_
      obtain ⟨q3, hq3, hm⟩ := ob hm
      refine inv_rV (C := R_Bytes) (As := [.int v2]) (rest := []) (v := .int q3) X (c_Bytes_at l D ca a0 a1 _ x v2 q3 hq3) g_Bytes_23 yo_Bytes_at ⟨Nat.le_of_ble_eq_true rfl, Nat.le_of_ble_eq_true rfl⟩ hl hP hD [0, 1] rfl rfl (ci := 1) rfl rfl hS hA rfl rfl (Nat.le_of_ble_eq_true rfl) ⟨Nat.zero_le _, Nat.zero_le _⟩ d_Bytes_isSame_29 (fun H locs hP hS => ?_)
      refine lv_aload_n hx hb d_Bytes_isSame_32 rfl (lv_at hl 1 rfl) ?_
      refine lv_iload_n hx hb d_Bytes_isSame_33 rfl (lv_at hl 2 rfl) ?_
      obtain ⟨q4, hq4, hm⟩ := ob hm
      refine inv_rV (C := R_Bytes) (As := [.int v2]) (rest := [.int q3]) (v := .int q4) X (c_Bytes_at l D ca b0 b1 _ y v2 q4 hq4) g_Bytes_23 yo_Bytes_at ⟨Nat.le_of_ble_eq_true rfl, Nat.le_of_ble_eq_true rfl⟩ hl hP hD [2, 3] rfl rfl (ci := 1) rfl rfl hS hA rfl rfl (Nat.le_of_ble_eq_true rfl) ⟨Nat.zero_le _, Nat.zero_le _⟩ d_Bytes_isSame_34 (fun H locs hP hS => ?_)
      refine lv_icmp_eq (tgt := 42) hx hb d_Bytes_isSame_37 (by decide) (fun c5 => ?_) (fun c5 => ?_)
      · replace hm := ip c5 hm
        refine lv_iinc (v := (v2 + 1)) (lv' := [(2, .int (v2 + 1)), (0, .ref a0), (1, .ref b0)]) hx hb d_Bytes_isSame_42 hl (k := 2) rfl rfl (by decide) rfl (fun ls hl => ?_)
        refine lv_goto (tgt := 19) hx hb d_Bytes_isSame_45 (by decide) ?_
        exact ih  (v2 + 1) _ hm _ _ hP hD hS ls (lv_sub hl [1, 2, 0] rfl)
      · replace hm := ineg c5 hm
        refine lv_iconst (v := 0) hx hb d_Bytes_isSame_40 (by decide) ?_
        cases hm
        exact ret_rz X nz0 hS d_Bytes_isSame_41
set_option maxHeartbeats 4000000 in
set_option maxRecDepth 100000 in
theorem c_Bytes_isSame (l : Launch) (D : va_G) (ca : Nat → ClassId) (a0 a1 b0 b1 : Nat) (sz : Nat) (x : St_Bytes) (y : St_Bytes)  (res : Int32) (hm : m_Bytes_isSame x y = some res) : Met l y_Bytes_isSame (cws y_Bytes_isSame b_Bytes_isSame 3 (some .boolean)) (RM 1 21) (PreW D ca (wl_Bytes ca a0 a1 x ++ wl_Bytes ca b0 b1 y) [.ref a0, .ref b0] sz) (QRr (.int res) (va_A [] sz)) 0 0 (va_A [] sz) := by
  refine met_ofR (own := R_Bytes) (by decide) rfl (Nat.le_of_ble_eq_true rfl) ?_
  intro p e s m below meth c A X hA hP hD ls hl
  obtain ⟨hx, hb, hml, hr, hown, hts, hK, hlocks⟩ := id X
  have hS : va_S A s.heap s.heap [] := va_S.rf
  have hl : lv_has ls 3 [(0, .ref a0), (1, .ref b0)] := hl
  unfold m_Bytes_isSame at hm
  refine lv_aload_n hx hb d_Bytes_isSame_0 rfl (lv_at hl 1 rfl) ?_
  refine lv_ifnull hx hb d_Bytes_isSame_1 ?_
  refine lv_aload_n hx hb d_Bytes_isSame_4 rfl (lv_at hl 1 rfl) ?_
  refine va_get (D := D) (ci := 1) (v := .int y.2) (C := R_Bytes) (T := F_Bytes) (N := 2) hx hb hts i_Bytes hown hK hP 2 rfl rfl 1 (by decide) (hts _ wf_Bytes_19) (fun _ h9 => h9) rfl d_Bytes_isSame_5 ?_
  refine lv_aload_n hx hb d_Bytes_isSame_8 rfl (lv_at hl 0 rfl) ?_
  refine va_get (D := D) (ci := 1) (v := .int x.2) (C := R_Bytes) (T := F_Bytes) (N := 2) hx hb hts i_Bytes hown hK hP 0 rfl rfl 1 (by decide) (hts _ wf_Bytes_19) (fun _ h9 => h9) rfl d_Bytes_isSame_9 ?_
  refine lv_icmp_eq (tgt := 17) hx hb d_Bytes_isSame_12 (by decide) (fun c1 => ?_) (fun c1 => ?_)
  · replace hm := ip c1 hm
    refine lv_iconst (v := 0) hx hb d_Bytes_isSame_17 (by decide) ?_
    refine lv_istore_n (lv' := [(2, .int 0), (0, .ref a0), (1, .ref b0)]) hx hb d_Bytes_isSame_18 rfl hl (by decide) rfl (fun ls hl => ?_)
    exact k_m_Bytes_isSame_L19 X hA FU  0 _ hm _ _ hP hD hS ls (lv_sub hl [1, 2, 0] rfl)
  · replace hm := ineg c1 hm
    refine lv_iconst (v := 0) hx hb d_Bytes_isSame_15 (by decide) ?_
    cases hm
    exact ret_rz X nz0 hS d_Bytes_isSame_16
