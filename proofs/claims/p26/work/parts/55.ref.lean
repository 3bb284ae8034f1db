set_option maxHeartbeats 4000000 in
set_option maxRecDepth 100000 in
theorem k_m_RRef_number_L5 {p : Program} {l : Launch} {e : Env} {s : State} {m : MethodId} {args : Array Value} {below : List Frame} {meth : Method} {c : Code} {D : va_G} {ca : Nat → ClassId} {a0 : Nat} {A : Nat → Prop} (X : Cx p s m args meth c R_RRef b_RRef_number 6 (some .long) D ca) (hA : ∀ q, s.heap.size ≤ q → A q) {x : AI} : ∀ (n : Nat) (v1 : Int32) (v2 : Int32) (v3 : Int64) (v5 : Int32) (res : Int64), m_RRef_number_L5 x n v1 v2 v3 v5 = some res → ∀ (H : Heap) (locs : List Loc), va_P D classes (wl_AI (ca 0) a0 x) H → va_D (fun _ => True) (wl_AI (ca 0) a0 x) → va_S A s.heap H locs → ∀ ls : Array Slot, lv_has ls 6 [(0, .ref a0), (1, .int v1), (2, .int v2), (3, .long v3), (5, .int v5)] → W p l e (RM 0 0) s m args below meth c H locs 0 0 (MQ below (QRr (.long res) A) args s 0 0 A) (F0 m 5 ls []) := by
  obtain ⟨hx, hb, hml, hr, hown, hts, hK, hlocks⟩ := id X
  intro n
  induction n with
  | zero =>
    intro v1 v2 v3 v5 res hm
    rw [m_RRef_number_L5] at hm
    cases hm
  | succ n ih =>
    intro v1 v2 v3 v5 res hm H locs hP hD hS ls hl
    rw [m_RRef_number_L5] at hm
    refine lv_iload hx hb d_RRef_number_5 (lv_at hl 4 rfl) ?_
    refine lv_iload_n hx hb d_RRef_number_7 rfl (lv_at hl 2 rfl) ?_
    refine lv_icmp_ge (tgt := 34) hx hb d_RRef_number_8 (by decide) (fun c1 => ?_) (fun c1 => ?_)
    · replace hm := ip c1 hm
      refine lv_lload_n hx hb d_RRef_number_34 rfl (lv_at hl 3 rfl) ?_
      cases hm
      exact ret_rl X hS d_RRef_number_35
    · replace hm := ineg c1 hm
      refine lv_lload_n hx hb d_RRef_number_11 rfl (lv_at hl 3 rfl) ?_
      refine lv_bipush (v := 8) hx hb d_RRef_number_12 (by decide) ?_
      refine lv_lshl (v := (jlshl v3 8)) hx hb d_RRef_number_14 rfl ?_
      refine lv_aload_n hx hb d_RRef_number_15 rfl (lv_at hl 0 rfl) ?_
      refine lv_iload_n hx hb d_RRef_number_16 rfl (lv_at hl 1 rfl) ?_
      refine lv_iload hx hb d_RRef_number_17 (lv_at hl 4 rfl) ?_
      refine lv_iadd hx hb d_RRef_number_19 ?_
      obtain ⟨b2, hm⟩ := on hm
      refine va_bald hx hb hK hP 0 0 rfl rfl b2 d_RRef_number_20 ?_
      refine lv_i2l (v := (((x.2 ((v1 + v5)).toNatClampNeg)).toInt64)) hx hb d_RRef_number_21 rfl ?_
      refine lv_ldc2 hx hb hown (hts _ wc_RRef_81) d_RRef_number_22 ?_
      refine lv_land hx hb d_RRef_number_25 ?_
      refine lv_lor hx hb d_RRef_number_26 ?_
      refine lv_lstore_n (lv' := [(3, .long ((jlshl v3 8) ||| ((((x.2 ((v1 + v5)).toNatClampNeg)).toInt64) &&& 255))), (0, .ref a0), (1, .int v1), (2, .int v2), (5, .int v5)]) hx hb d_RRef_number_27 rfl hl (by decide) rfl (fun ls hl => ?_)
      refine lv_iinc (v := (v5 + 1)) (lv' := [(5, .int (v5 + 1)), (3, .long ((jlshl v3 8) ||| ((((x.2 ((v1 + v5)).toNatClampNeg)).toInt64) &&& 255))), (0, .ref a0), (1, .int v1), (2, .int v2)]) hx hb d_RRef_number_28 hl (k := 4) rfl rfl (by decide) rfl (fun ls hl => ?_)
      refine lv_goto (tgt := 5) hx hb d_RRef_number_31 (by decide) ?_
      exact ih  v1 v2 ((jlshl v3 8) ||| ((((x.2 ((v1 + v5)).toNatClampNeg)).toInt64) &&& 255)) (v5 + 1) _ hm _ _ hP hD hS ls (lv_sub hl [2, 3, 4, 1, 0] rfl)
set_option maxHeartbeats 4000000 in
set_option maxRecDepth 100000 in
theorem c_RRef_number (l : Launch) (D : va_G) (ca : Nat → ClassId) (a0 : Nat) (sz : Nat) (x : AI) (p1 : Int32) (p2 : Int32) (res : Int64) (hm : m_RRef_number x p1 p2 = some res) : Met l y_RRef_number (cws y_RRef_number b_RRef_number 6 (some .long)) (RM 0 0) (PreW D ca (wl_AI (ca 0) a0 x) [.ref a0, .int p1, .int p2] sz) (QRr (.long res) (va_A [] sz)) 0 0 (va_A [] sz) := by
  refine met_ofR (own := R_RRef) (by decide) rfl (Nat.le_of_ble_eq_true rfl) ?_
  intro p e s m below meth c A X hA hP hD ls hl
  obtain ⟨hx, hb, hml, hr, hown, hts, hK, hlocks⟩ := id X
  have hS : va_S A s.heap s.heap [] := va_S.rf
  have hl : lv_has ls 6 [(0, .ref a0), (1, .int p1), (2, .int p2)] := hl
  unfold m_RRef_number at hm
  refine lv_lconst (v := 0) hx hb d_RRef_number_0 (by decide) ?_
  refine lv_lstore_n (lv' := [(3, .long 0), (0, .ref a0), (1, .int p1), (2, .int p2)]) hx hb d_RRef_number_1 rfl hl (by decide) rfl (fun ls hl => ?_)
  refine lv_iconst (v := 0) hx hb d_RRef_number_2 (by decide) ?_
  refine lv_istore (lv' := [(5, .int 0), (3, .long 0), (0, .ref a0), (1, .int p1), (2, .int p2)]) hx hb d_RRef_number_3 hl (by decide) rfl (fun ls hl => ?_)
  exact k_m_RRef_number_L5 X hA FU  p1 p2 0 0 _ hm _ _ hP hD hS ls (lv_sub hl [2, 3, 4, 1, 0] rfl)
set_option maxHeartbeats 4000000 in
set_option maxRecDepth 100000 in
theorem c_RRef_kind (l : Launch) (D : va_G) (ca : Nat → ClassId) (ad : Nat → Nat) (sz : Nat) (g : St_Ref) (p1 : Int32) (res : Int32) (hm : m_RRef_kind g p1 = some res) : Met l y_RRef_kind (cws y_RRef_kind b_RRef_kind 2 (some .int)) (RM 0 0) (PreW D ca (wl_Ref ca ad g) [.ref (ad 0), .int p1] sz) (QRr (.int res) (va_A [] sz)) 0 0 (va_A [] sz) := by
  refine met_ofR (own := R_RRef) (by decide) rfl (Nat.le_of_ble_eq_true rfl) ?_
  intro p e s m below meth c A X hA hP hD ls hl
  obtain ⟨hx, hb, hml, hr, hown, hts, hK, hlocks⟩ := id X
  have hS : va_S A s.heap s.heap [] := va_S.rf
  have hl : lv_has ls 2 [(0, .ref (ad 0)), (1, .int p1)] := hl
  unfold m_RRef_kind at hm
  refine lv_aload_n hx hb d_RRef_kind_0 rfl (lv_at hl 0 rfl) ?_
  refine va_get (D := D) (ci := 6) (v := .ref (ad 1)) (C := R_RRef) (T := F_RRef) (N := 29) hx hb hts i_RRef hown hK hP 0 rfl rfl 0 (by decide) (hts _ wf_RRef_7) (fun _ h9 => h9) rfl d_RRef_kind_1 ?_
  refine lv_bipush (v := 32) hx hb d_RRef_kind_4 (by decide) ?_
  refine lv_iload_n hx hb d_RRef_kind_6 rfl (lv_at hl 1 rfl) ?_
  refine lv_imul hx hb d_RRef_kind_7 ?_
  obtain ⟨b1, hm⟩ := on hm
  refine va_bald hx hb hK hP 1 0 rfl rfl b1 d_RRef_kind_8 ?_
  refine lv_sipush (v := 255) hx hb d_RRef_kind_9 (by decide) ?_
  refine lv_iand hx hb d_RRef_kind_12 ?_
  cases hm
  exact ret_ri X hS d_RRef_kind_13
set_option maxHeartbeats 4000000 in
set_option maxRecDepth 100000 in
theorem k_m_RRef_digest_L5 {p : Program} {l : Launch} {e : Env} {s : State} {m : MethodId} {args : Array Value} {below : List Frame} {meth : Method} {c : Code} {D : va_G} {ca : Nat → ClassId} {a0 : Nat} {A : Nat → Prop} (X : Cx p s m args meth c R_RRef b_RRef_digest 8 (some .long) D ca) (hA : ∀ q, s.heap.size ≤ q → A q) {x : AI} : ∀ (n : Nat) (v1 : Int32) (v2 : Int32) (v3 : Int64) (v5 : Int32) (res : Int64), m_RRef_digest_L5 x n v1 v2 v3 v5 = some res → ∀ (H : Heap) (locs : List Loc), va_P D classes (wl_AI (ca 0) a0 x) H → va_D (fun _ => True) (wl_AI (ca 0) a0 x) → va_S A s.heap H locs → ∀ ls : Array Slot, lv_has ls 8 [(0, .ref a0), (1, .int v1), (2, .int v2), (3, .long v3), (5, .int v5)] → W p l e (RM 0 0) s m args below meth c H locs 0 0 (MQ below (QRr (.long res) A) args s 0 0 A) (F0 m 5 ls []) := by
  obtain ⟨hx, hb, hml, hr, hown, hts, hK, hlocks⟩ := id X
  intro n
  induction n with
  | zero =>
    intro v1 v2 v3 v5 res hm
    rw [m_RRef_digest_L5] at hm
    cases hm
  | succ n ih =>
    intro v1 v2 v3 v5 res hm H locs hP hD hS ls hl
    rw [m_RRef_digest_L5] at hm
    refine lv_iload hx hb d_RRef_digest_5 (lv_at hl 4 rfl) ?_
    refine lv_iload_n hx hb d_RRef_digest_7 rfl (lv_at hl 2 rfl) ?_
    refine lv_icmp_ge (tgt := 48) hx hb d_RRef_digest_8 (by decide) (fun c1 => ?_) (fun c1 => ?_)
    · replace hm := ip c1 hm
      refine lv_lload_n hx hb d_RRef_digest_48 rfl (lv_at hl 3 rfl) ?_
      cases hm
      exact ret_rl X hS d_RRef_digest_49
    · replace hm := ineg c1 hm
      refine lv_lload_n hx hb d_RRef_digest_11 rfl (lv_at hl 3 rfl) ?_
      refine lv_aload_n hx hb d_RRef_digest_12 rfl (lv_at hl 0 rfl) ?_
      refine lv_iload_n hx hb d_RRef_digest_13 rfl (lv_at hl 1 rfl) ?_
      refine lv_iload hx hb d_RRef_digest_14 (lv_at hl 4 rfl) ?_
      refine lv_iadd hx hb d_RRef_digest_16 ?_
      obtain ⟨b2, hm⟩ := on hm
      refine va_bald hx hb hK hP 0 0 rfl rfl b2 d_RRef_digest_17 ?_
      refine lv_i2l (v := (((x.2 ((v1 + v5)).toNatClampNeg)).toInt64)) hx hb d_RRef_digest_18 rfl ?_
      refine lv_ldc2 hx hb hown (hts _ wc_RRef_81) d_RRef_digest_19 ?_
      refine lv_land hx hb d_RRef_digest_22 ?_
      refine lv_lxor hx hb d_RRef_digest_23 ?_
      refine lv_lstore (lv' := [(6, .long (v3 ^^^ ((((x.2 ((v1 + v5)).toNatClampNeg)).toInt64) &&& 255))), (0, .ref a0), (1, .int v1), (2, .int v2), (3, .long v3), (5, .int v5)]) hx hb d_RRef_digest_24 hl (by decide) rfl (fun ls hl => ?_)
      refine lv_lload hx hb d_RRef_digest_26 (lv_at hl 0 rfl) ?_
      refine lv_bipush (v := 53) hx hb d_RRef_digest_28 (by decide) ?_
      refine lv_lshl (v := (jlshl (v3 ^^^ ((((x.2 ((v1 + v5)).toNatClampNeg)).toInt64) &&& 255)) 53)) hx hb d_RRef_digest_30 rfl ?_
      refine lv_lload hx hb d_RRef_digest_31 (lv_at hl 0 rfl) ?_
      refine lv_bipush (v := 11) hx hb d_RRef_digest_33 (by decide) ?_
      refine lv_lushr (v := (jlushr (v3 ^^^ ((((x.2 ((v1 + v5)).toNatClampNeg)).toInt64) &&& 255)) 11)) hx hb d_RRef_digest_35 rfl ?_
      refine lv_lor hx hb d_RRef_digest_36 ?_
      refine lv_ldc2 hx hb hown (hts _ wc_RRef_83) d_RRef_digest_37 ?_
      refine lv_lmul hx hb d_RRef_digest_40 ?_
      refine lv_lstore_n (lv' := [(3, .long (((jlshl (v3 ^^^ ((((x.2 ((v1 + v5)).toNatClampNeg)).toInt64) &&& 255)) 53) ||| (jlushr (v3 ^^^ ((((x.2 ((v1 + v5)).toNatClampNeg)).toInt64) &&& 255)) 11)) * (-4417276706812531889))), (6, .long (v3 ^^^ ((((x.2 ((v1 + v5)).toNatClampNeg)).toInt64) &&& 255))), (0, .ref a0), (1, .int v1), (2, .int v2), (5, .int v5)]) hx hb d_RRef_digest_41 rfl hl (by decide) rfl (fun ls hl => ?_)
      refine lv_iinc (v := (v5 + 1)) (lv' := [(5, .int (v5 + 1)), (3, .long (((jlshl (v3 ^^^ ((((x.2 ((v1 + v5)).toNatClampNeg)).toInt64) &&& 255)) 53) ||| (jlushr (v3 ^^^ ((((x.2 ((v1 + v5)).toNatClampNeg)).toInt64) &&& 255)) 11)) * (-4417276706812531889))), (6, .long (v3 ^^^ ((((x.2 ((v1 + v5)).toNatClampNeg)).toInt64) &&& 255))), (0, .ref a0), (1, .int v1), (2, .int v2)]) hx hb d_RRef_digest_42 hl (k := 5) rfl rfl (by decide) rfl (fun ls hl => ?_)
      refine lv_goto (tgt := 5) hx hb d_RRef_digest_45 (by decide) ?_
      exact ih  v1 v2 (((jlshl (v3 ^^^ ((((x.2 ((v1 + v5)).toNatClampNeg)).toInt64) &&& 255)) 53) ||| (jlushr (v3 ^^^ ((((x.2 ((v1 + v5)).toNatClampNeg)).toInt64) &&& 255)) 11)) * (-4417276706812531889)) (v5 + 1) _ hm _ _ hP hD hS ls (lv_sub hl [3, 4, 5, 1, 0] rfl)
set_option maxHeartbeats 4000000 in
set_option maxRecDepth 100000 in
theorem c_RRef_digest (l : Launch) (D : va_G) (ca : Nat → ClassId) (a0 : Nat) (sz : Nat) (x : AI) (p1 : Int32) (p2 : Int32) (res : Int64) (hm : m_RRef_digest x p1 p2 = some res) : Met l y_RRef_digest (cws y_RRef_digest b_RRef_digest 8 (some .long)) (RM 0 0) (PreW D ca (wl_AI (ca 0) a0 x) [.ref a0, .int p1, .int p2] sz) (QRr (.long res) (va_A [] sz)) 0 0 (va_A [] sz) := by
  refine met_ofR (own := R_RRef) (by decide) rfl (Nat.le_of_ble_eq_true rfl) ?_
  intro p e s m below meth c A X hA hP hD ls hl
  obtain ⟨hx, hb, hml, hr, hown, hts, hK, hlocks⟩ := id X
  have hS : va_S A s.heap s.heap [] := va_S.rf
  have hl : lv_has ls 8 [(0, .ref a0), (1, .int p1), (2, .int p2)] := hl
  unfold m_RRef_digest at hm
  refine lv_lconst (v := 0) hx hb d_RRef_digest_0 (by decide) ?_
  refine lv_lstore_n (lv' := [(3, .long 0), (0, .ref a0), (1, .int p1), (2, .int p2)]) hx hb d_RRef_digest_1 rfl hl (by decide) rfl (fun ls hl => ?_)
  refine lv_iconst (v := 0) hx hb d_RRef_digest_2 (by decide) ?_
  refine lv_istore (lv' := [(5, .int 0), (3, .long 0), (0, .ref a0), (1, .int p1), (2, .int p2)]) hx hb d_RRef_digest_3 hl (by decide) rfl (fun ls hl => ?_)
  exact k_m_RRef_digest_L5 X hA FU  p1 p2 0 0 _ hm _ _ hP hD hS ls (lv_sub hl [2, 3, 4, 1, 0] rfl)
set_option maxHeartbeats 4000000 in
set_option maxRecDepth 100000 in
theorem c_RRef_isSummed (l : Launch) (D : va_G) (ca : Nat → ClassId) (ad : Nat → Nat) (sz : Nat) (g : St_Ref) (p1 : Int32) (res : Int32) (hm : m_RRef_isSummed g p1 = some res) : Met l y_RRef_isSummed (cws y_RRef_isSummed b_RRef_isSummed 2 (some .boolean)) (RM 1 27) (PreW D ca (wl_Ref ca ad g) [.ref (ad 0), .int p1] sz) (QRr (.int res) (va_A [] sz)) 0 0 (va_A [] sz) := by
  refine met_ofR (own := R_RRef) (by decide) rfl (Nat.le_of_ble_eq_true rfl) ?_
  intro p e s m below meth c A X hA hP hD ls hl
  obtain ⟨hx, hb, hml, hr, hown, hts, hK, hlocks⟩ := id X
  have hS : va_S A s.heap s.heap [] := va_S.rf
  have hl : lv_has ls 2 [(0, .ref (ad 0)), (1, .int p1)] := hl
  unfold m_RRef_isSummed at hm
  refine lv_aload_n hx hb d_RRef_isSummed_0 rfl (lv_at hl 0 rfl) ?_
  refine va_get (D := D) (ci := 6) (v := .ref (ad 1)) (C := R_RRef) (T := F_RRef) (N := 29) hx hb hts i_RRef hown hK hP 0 rfl rfl 0 (by decide) (hts _ wf_RRef_7) (fun _ h9 => h9) rfl d_RRef_isSummed_1 ?_
  refine lv_bipush (v := 32) hx hb d_RRef_isSummed_4 (by decide) ?_
  refine lv_iload_n hx hb d_RRef_isSummed_6 rfl (lv_at hl 1 rfl) ?_
  refine lv_imul hx hb d_RRef_isSummed_7 ?_
  refine lv_bipush (v := 24) hx hb d_RRef_isSummed_8 (by decide) ?_
  refine lv_iadd hx hb d_RRef_isSummed_10 ?_
  refine lv_bipush (v := 8) hx hb d_RRef_isSummed_11 (by decide) ?_
  obtain ⟨q1, hq1, hm⟩ := ob hm
  refine inv_rS (As := [.ref (ad 1), .int ((32 * p1) + 24), .int 8]) (rest := []) (v := .long q1) X (c_RRef_number l D ca (ad 1) _ (g_Rmedium g) ((32 * p1) + 24) 8 q1 hq1) g_RRef_85 yo_RRef_number ⟨Nat.le_of_ble_eq_true rfl, Nat.le_of_ble_eq_true rfl⟩ hl hP hD [1] rfl rfl hS hA rfl rfl (Nat.le_of_ble_eq_true rfl) ⟨Nat.zero_le _, Nat.zero_le _⟩ d_RRef_isSummed_13 (fun H locs hP hS => ?_)
  refine lv_aload_n hx hb d_RRef_isSummed_16 rfl (lv_at hl 0 rfl) ?_
  refine va_get (D := D) (ci := 6) (v := .ref (ad 1)) (C := R_RRef) (T := F_RRef) (N := 29) hx hb hts i_RRef hown hK hP 0 rfl rfl 0 (by decide) (hts _ wf_RRef_7) (fun _ h9 => h9) rfl d_RRef_isSummed_17 ?_
  refine lv_bipush (v := 32) hx hb d_RRef_isSummed_20 (by decide) ?_
  refine lv_iload_n hx hb d_RRef_isSummed_22 rfl (lv_at hl 1 rfl) ?_
  refine lv_imul hx hb d_RRef_isSummed_23 ?_
  refine lv_bipush (v := 24) hx hb d_RRef_isSummed_24 (by decide) ?_
  obtain ⟨q2, hq2, hm⟩ := ob hm
  refine inv_rS (As := [.ref (ad 1), .int (32 * p1), .int 24]) (rest := [.long q1]) (v := .long q2) X (c_RRef_digest l D ca (ad 1) _ (g_Rmedium g) (32 * p1) 24 q2 hq2) g_RRef_89 yo_RRef_digest ⟨Nat.le_of_ble_eq_true rfl, Nat.le_of_ble_eq_true rfl⟩ hl hP hD [1] rfl rfl hS hA rfl rfl (Nat.le_of_ble_eq_true rfl) ⟨Nat.zero_le _, Nat.zero_le _⟩ d_RRef_isSummed_26 (fun H locs hP hS => ?_)
  refine W.lcmp hx hb d_RRef_isSummed_29 ?_
  refine lv_if_ne (tgt := 37) hx hb d_RRef_isSummed_30 (by decide) (fun c3 => ?_) (fun c3 => ?_)
  · replace hm := ineg c3 hm
    refine lv_iconst (v := 0) hx hb d_RRef_isSummed_37 (by decide) ?_
    cases hm
    exact ret_rz X nz0 hS d_RRef_isSummed_38
  · replace hm := ip c3 hm
    refine lv_iconst (v := 1) hx hb d_RRef_isSummed_33 (by decide) ?_
    refine lv_goto (tgt := 38) hx hb d_RRef_isSummed_34 (by decide) ?_
    cases hm
    exact ret_rz X nz1 hS d_RRef_isSummed_38
set_option maxHeartbeats 4000000 in
set_option maxRecDepth 100000 in
theorem c_RRef_isGood (l : Launch) (D : va_G) (ca : Nat → ClassId) (ad : Nat → Nat) (sz : Nat) (g : St_Ref) (p1 : Int32) (res : Int32) (hm : m_RRef_isGood g p1 = some res) : Met l y_RRef_isGood (cws y_RRef_isGood b_RRef_isGood 4 (some .boolean)) (RM 2 48) (PreW D ca (wl_Ref ca ad g) [.ref (ad 0), .int p1] sz) (QRr (.int res) (va_A [] sz)) 0 0 (va_A [] sz) := by
  refine met_ofR (own := R_RRef) (by decide) rfl (Nat.le_of_ble_eq_true rfl) ?_
  intro p e s m below meth c A X hA hP hD ls hl
  obtain ⟨hx, hb, hml, hr, hown, hts, hK, hlocks⟩ := id X
  have hS : va_S A s.heap s.heap [] := va_S.rf
  have hl : lv_has ls 4 [(0, .ref (ad 0)), (1, .int p1)] := hl
  unfold m_RRef_isGood at hm
  refine lv_aload_n hx hb d_RRef_isGood_0 rfl (lv_at hl 0 rfl) ?_
  refine va_get (D := D) (ci := 6) (v := .ref (ad 1)) (C := R_RRef) (T := F_RRef) (N := 29) hx hb hts i_RRef hown hK hP 0 rfl rfl 0 (by decide) (hts _ wf_RRef_7) (fun _ h9 => h9) rfl d_RRef_isGood_1 ?_
  refine lv_bipush (v := 32) hx hb d_RRef_isGood_4 (by decide) ?_
  refine lv_iload_n hx hb d_RRef_isGood_6 rfl (lv_at hl 1 rfl) ?_
  refine lv_imul hx hb d_RRef_isGood_7 ?_
  refine lv_iconst (v := 4) hx hb d_RRef_isGood_8 (by decide) ?_
  refine lv_iadd hx hb d_RRef_isGood_9 ?_
  refine lv_iconst (v := 4) hx hb d_RRef_isGood_10 (by decide) ?_
  obtain ⟨q1, hq1, hm⟩ := ob hm
  refine inv_rS (As := [.ref (ad 1), .int ((32 * p1) + 4), .int 4]) (rest := []) (v := .long q1) X (c_RRef_number l D ca (ad 1) _ (g_Rmedium g) ((32 * p1) + 4) 4 q1 hq1) g_RRef_85 yo_RRef_number ⟨Nat.le_of_ble_eq_true rfl, Nat.le_of_ble_eq_true rfl⟩ hl hP hD [1] rfl rfl hS hA rfl rfl (Nat.le_of_ble_eq_true rfl) ⟨Nat.zero_le _, Nat.zero_le _⟩ d_RRef_isGood_11 (fun H locs hP hS => ?_)
  refine lv_lstore_n (lv' := [(2, .long q1), (0, .ref (ad 0)), (1, .int p1)]) hx hb d_RRef_isGood_14 rfl hl (by decide) rfl (fun ls hl => ?_)
  refine lv_aload_n hx hb d_RRef_isGood_15 rfl (lv_at hl 1 rfl) ?_
  refine lv_iload_n hx hb d_RRef_isGood_16 rfl (lv_at hl 2 rfl) ?_
  obtain ⟨q2, hq2, hm⟩ := ob hm
  refine inv_rVa (C := R_RRef) (As := [.int p1]) (rest := []) (v := .int q2) X (c_RRef_kind l D ca ad _ g p1 q2 hq2) g_RRef_119 yo_RRef_kind ⟨Nat.le_of_ble_eq_true rfl, Nat.le_of_ble_eq_true rfl⟩ hl hP hD (ci := 6) rfl rfl hS hA rfl rfl (Nat.le_of_ble_eq_true rfl) ⟨Nat.zero_le _, Nat.zero_le _⟩ d_RRef_isGood_17 (fun H locs hP hS => ?_)
  refine lv_iconst (v := 4) hx hb d_RRef_isGood_20 (by decide) ?_
  refine lv_icmp_ne (tgt := 50) hx hb d_RRef_isGood_21 (by decide) (fun c3 => ?_) (fun c3 => ?_)
  · replace hm := ineg c3 hm
    refine lv_iconst (v := 0) hx hb d_RRef_isGood_50 (by decide) ?_
    cases hm
    exact ret_rz X nz0 hS d_RRef_isGood_51
  · replace hm := ip c3 hm
    refine lv_aload_n hx hb d_RRef_isGood_24 rfl (lv_at hl 1 rfl) ?_
    refine lv_iload_n hx hb d_RRef_isGood_25 rfl (lv_at hl 2 rfl) ?_
    obtain ⟨q4, hq4, hm⟩ := ob hm
    refine inv_rVa (C := R_RRef) (As := [.int p1]) (rest := []) (v := .int q4) X (c_RRef_isSummed l D ca ad _ g p1 q4 hq4) g_RRef_122 yo_RRef_isSummed ⟨Nat.le_of_ble_eq_true rfl, Nat.le_of_ble_eq_true rfl⟩ hl hP hD (ci := 6) rfl rfl hS hA rfl rfl (Nat.le_of_ble_eq_true rfl) ⟨Nat.zero_le _, Nat.zero_le _⟩ d_RRef_isGood_26 (fun H locs hP hS => ?_)
    refine lv_if_eq (tgt := 50) hx hb d_RRef_isGood_29 (by decide) (fun c5 => ?_) (fun c5 => ?_)
    · replace hm := ip c5 hm
      refine lv_iconst (v := 0) hx hb d_RRef_isGood_50 (by decide) ?_
      cases hm
      exact ret_rz X nz0 hS d_RRef_isGood_51
    · replace hm := ineg c5 hm
      refine lv_lload_n hx hb d_RRef_isGood_32 rfl (lv_at hl 0 rfl) ?_
      refine lv_lconst (v := 1) hx hb d_RRef_isGood_33 (by decide) ?_
      refine W.lcmp hx hb d_RRef_isGood_34 ?_
      refine lv_if_lt (tgt := 50) hx hb d_RRef_isGood_35 (by decide) (fun c6 => ?_) (fun c6 => ?_)
      · replace hm := ip c6 hm
        refine lv_iconst (v := 0) hx hb d_RRef_isGood_50 (by decide) ?_
        cases hm
        exact ret_rz X nz0 hS d_RRef_isGood_51
      · replace hm := ineg c6 hm
        refine lv_lload_n hx hb d_RRef_isGood_38 rfl (lv_at hl 0 rfl) ?_
        refine lv_ldc2 hx hb hown (hts _ wc_RRef_135) d_RRef_isGood_39 ?_
        refine W.lcmp hx hb d_RRef_isGood_42 ?_
        refine lv_if_gt (tgt := 50) hx hb d_RRef_isGood_43 (by decide) (fun c7 => ?_) (fun c7 => ?_)
        · replace hm := ip c7 hm
          refine lv_iconst (v := 0) hx hb d_RRef_isGood_50 (by decide) ?_
          cases hm
          exact ret_rz X nz0 hS d_RRef_isGood_51
        · replace hm := ineg c7 hm
          refine lv_iconst (v := 1) hx hb d_RRef_isGood_46 (by decide) ?_
          refine lv_goto (tgt := 51) hx hb d_RRef_isGood_47 (by decide) ?_
          cases hm
          exact ret_rz X nz1 hS d_RRef_isGood_51
set_option maxHeartbeats 4000000 in
set_option maxRecDepth 100000 in
theorem k_m_RRef_heads_L65 {p : Program} {l : Launch} {e : Env} {s : State} {m : MethodId} {args : Array Value} {below : List Frame} {meth : Method} {c : Code} {D : va_G} {ca : Nat → ClassId} {ad : Nat → Nat} {A : Nat → Prop} (X : Cx p s m args meth c R_RRef b_RRef_heads 4 none D ca) (hA : ∀ q, s.heap.size ≤ q → A q)  : ∀ (n : Nat) (g : St_Ref) (v1 : Int32) (v2 : Int32) (res : St_Ref), m_RRef_heads_L65  n g v1 v2 = some res → ∀ (H : Heap) (locs : List Loc), va_P D classes (wl_Ref ca ad g) H → va_D A (wl_Ref ca ad g) → va_S A s.heap H locs → ∀ ls : Array Slot, lv_has ls 4 [(0, .ref (ad 0)), (1, .int v1), (2, .int v2)] → W p l e (RM 3 71) s m args below meth c H locs 0 0 (MQ below (QRm D none (wl_Ref ca ad res) A) args s 0 0 A) (F0 m 65 ls []) := by
  obtain ⟨hx, hb, hml, hr, hown, hts, hK, hlocks⟩ := id X
  intro n
  induction n with
  | zero =>
    intro g v1 v2 res hm
    rw [m_RRef_heads_L65] at hm
    cases hm
  | succ n ih =>
    intro g v1 v2 res hm H locs hP hD hS ls hl
    rw [m_RRef_heads_L65] at hm
    refine lv_iload_n hx hb d_RRef_heads_65 rfl (lv_at hl 2 rfl) ?_
    refine lv_bipush (v := 8) hx hb d_RRef_heads_66 (by decide) ?_
    refine lv_icmp_ge (tgt := 112) hx hb d_RRef_heads_68 (by decide) (fun c2 => ?_) (fun c2 => ?_)
    · replace hm := ip c2 hm
      cases hm
      exact ret_mv X hP hS d_RRef_heads_112
    · replace hm := ineg c2 hm
      refine lv_aload_n hx hb d_RRef_heads_71 rfl (lv_at hl 0 rfl) ?_
      refine va_get (D := D) (ci := 6) (v := .ref (ad 15)) (C := R_RRef) (T := F_RRef) (N := 29) hx hb hts i_RRef hown hK hP 0 rfl rfl 21 (by decide) (hts _ wf_RRef_62) (fun _ h9 => h9) rfl d_RRef_heads_72 ?_
      refine lv_iload_n hx hb d_RRef_heads_75 rfl (lv_at hl 2 rfl) ?_
      refine lv_iload_n hx hb d_RRef_heads_76 rfl (lv_at hl 1 rfl) ?_
      refine lv_iconst (v := (-1)) hx hb d_RRef_heads_77 (by decide) ?_
      refine lv_icmp_ne (tgt := 85) hx hb d_RRef_heads_78 (by decide) (fun c3 => ?_) (fun c3 => ?_)
      · replace hm := ineg c3 hm
        refine lv_aload_n hx hb d_RRef_heads_85 rfl (lv_at hl 0 rfl) ?_
        refine va_get (D := D) (ci := 6) (v := .ref (ad 1)) (C := R_RRef) (T := F_RRef) (N := 29) hx hb hts i_RRef hown hK hP 0 rfl rfl 0 (by decide) (hts _ wf_RRef_7) (fun _ h9 => h9) rfl d_RRef_heads_86 ?_
        refine lv_bipush (v := 32) hx hb d_RRef_heads_89 (by decide) ?_
        refine lv_iload_n hx hb d_RRef_heads_91 rfl (lv_at hl 1 rfl) ?_
        refine lv_imul hx hb d_RRef_heads_92 ?_
        refine lv_bipush (v := 8) hx hb d_RRef_heads_93 (by decide) ?_
        refine lv_iadd hx hb d_RRef_heads_95 ?_
        refine lv_iconst (v := 2) hx hb d_RRef_heads_96 (by decide) ?_
        refine lv_iload_n hx hb d_RRef_heads_97 rfl (lv_at hl 2 rfl) ?_
        refine lv_imul hx hb d_RRef_heads_98 ?_
        refine lv_iadd hx hb d_RRef_heads_99 ?_
        refine lv_iconst (v := 2) hx hb d_RRef_heads_100 (by decide) ?_
        obtain ⟨q4, hq4, hm⟩ := ob hm
        refine inv_rS (As := [.ref (ad 1), .int (((32 * v1) + 8) + (2 * v2)), .int 2]) (rest := [.int v2, .ref (ad 15)]) (v := .long q4) X (c_RRef_number l D ca (ad 1) _ (g_Rmedium g) (((32 * v1) + 8) + (2 * v2)) 2 q4 hq4) g_RRef_85 yo_RRef_number ⟨Nat.le_of_ble_eq_true rfl, Nat.le_of_ble_eq_true rfl⟩ hl hP hD [1] rfl rfl hS hA rfl rfl (Nat.le_of_ble_eq_true rfl) ⟨Nat.zero_le _, Nat.zero_le _⟩ d_RRef_heads_101 (fun H locs hP hS => ?_)
        refine lv_l2i (v := ((q4).toInt32)) hx hb d_RRef_heads_104 rfl ?_
        obtain ⟨b5, hm⟩ := on hm
        refine va_iast hx hb hK hP hD hS 15 2 rfl rfl b5 d_RRef_heads_105 (fun H locs hP hD hS => ?_)
        replace hP : va_P D classes (wl_Ref ca ad (s_Rowners g ((g_Rowners g).1, upd (g_Rowners g).2 (v2).toNatClampNeg ((q4).toInt32)))) H := hP
        replace hD : va_D A (wl_Ref ca ad (s_Rowners g ((g_Rowners g).1, upd (g_Rowners g).2 (v2).toNatClampNeg ((q4).toInt32)))) := hD
        refine lv_iinc (v := (v2 + 1)) (lv' := [(2, .int (v2 + 1)), (0, .ref (ad 0)), (1, .int v1)]) hx hb d_RRef_heads_106 hl (k := 2) rfl rfl (by decide) rfl (fun ls hl => ?_)
        refine lv_goto (tgt := 65) hx hb d_RRef_heads_109 (by decide) ?_
        exact ih (s_Rowners g ((g_Rowners g).1, upd (g_Rowners g).2 (v2).toNatClampNeg ((q4).toInt32))) v1 (v2 + 1) _ hm _ _ hP hD hS ls (lv_sub hl [1, 2, 0] rfl)
      · replace hm := ip c3 hm
        refine lv_iconst (v := 0) hx hb d_RRef_heads_81 (by decide) ?_
        refine lv_goto (tgt := 105) hx hb d_RRef_heads_82 (by decide) ?_
        obtain ⟨b6, hm⟩ := on hm
        refine va_iast hx hb hK hP hD hS 15 2 rfl rfl b6 d_RRef_heads_105 (fun H locs hP hD hS => ?_)
        replace hP : va_P D classes (wl_Ref ca ad (s_Rowners g ((g_Rowners g).1, upd (g_Rowners g).2 (v2).toNatClampNeg 0))) H := hP
        replace hD : va_D A (wl_Ref ca ad (s_Rowners g ((g_Rowners g).1, upd (g_Rowners g).2 (v2).toNatClampNeg 0))) := hD
        refine lv_iinc (v := (v2 + 1)) (lv' := [(2, .int (v2 + 1)), (0, .ref (ad 0)), (1, .int v1)]) hx hb d_RRef_heads_106 hl (k := 2) rfl rfl (by decide) rfl (fun ls hl => ?_)
        refine lv_goto (tgt := 65) hx hb d_RRef_heads_109 (by decide) ?_
        exact ih (s_Rowners g ((g_Rowners g).1, upd (g_Rowners g).2 (v2).toNatClampNeg 0)) v1 (v2 + 1) _ hm _ _ hP hD hS ls (lv_sub hl [1, 2, 0] rfl)
set_option maxHeartbeats 4000000 in
set_option maxRecDepth 100000 in
theorem k_m_RRef_heads_L9 {p : Program} {l : Launch} {e : Env} {s : State} {m : MethodId} {args : Array Value} {below : List Frame} {meth : Method} {c : Code} {D : va_G} {ca : Nat → ClassId} {ad : Nat → Nat} {A : Nat → Prop} (X : Cx p s m args meth c R_RRef b_RRef_heads 4 none D ca) (hA : ∀ q, s.heap.size ≤ q → A q)  : ∀ (n : Nat) (g : St_Ref) (v1 : Int32) (v2 : Int32) (res : St_Ref), m_RRef_heads_L9  n g v1 v2 = some res → ∀ (H : Heap) (locs : List Loc), va_P D classes (wl_Ref ca ad g) H → va_D A (wl_Ref ca ad g) → va_S A s.heap H locs → ∀ ls : Array Slot, lv_has ls 4 [(0, .ref (ad 0)), (1, .int v1), (2, .int v2)] → W p l e (RM 3 71) s m args below meth c H locs 0 0 (MQ below (QRm D none (wl_Ref ca ad res) A) args s 0 0 A) (F0 m 9 ls []) := by
  obtain ⟨hx, hb, hml, hr, hown, hts, hK, hlocks⟩ := id X
  intro n
  induction n with
  | zero =>
    intro g v1 v2 res hm
    rw [m_RRef_heads_L9] at hm
    cases hm
  | succ n ih =>
    intro g v1 v2 res hm H locs hP hD hS ls hl
    rw [m_RRef_heads_L9] at hm
    refine lv_iload_n hx hb d_RRef_heads_9 rfl (lv_at hl 2 rfl) ?_
    refine lv_iconst (v := 2) hx hb d_RRef_heads_10 (by decide) ?_
    refine lv_icmp_ge (tgt := 63) hx hb d_RRef_heads_11 (by decide) (fun c1 => ?_) (fun c1 => ?_)
    · replace hm := ip c1 hm
      refine lv_iconst (v := 0) hx hb d_RRef_heads_63 (by decide) ?_
      refine lv_istore_n (lv' := [(2, .int 0), (0, .ref (ad 0)), (1, .int v1)]) hx hb d_RRef_heads_64 rfl hl (by decide) rfl (fun ls hl => ?_)
      exact k_m_RRef_heads_L65 X hA FU g v1 0 _ hm _ _ hP hD hS ls (lv_sub hl [1, 2, 0] rfl)
    · replace hm := ineg c1 hm
      refine lv_aload_n hx hb d_RRef_heads_14 rfl (lv_at hl 0 rfl) ?_
      refine lv_iload_n hx hb d_RRef_heads_15 rfl (lv_at hl 2 rfl) ?_
      obtain ⟨q7, hq7, hm⟩ := ob hm
      refine inv_rVa (C := R_RRef) (As := [.int v2]) (rest := []) (v := .int q7) X (c_RRef_isGood l D ca ad _ g v2 q7 hq7) g_RRef_140 yo_RRef_isGood ⟨Nat.le_of_ble_eq_true rfl, Nat.le_of_ble_eq_true rfl⟩ hl hP hD (ci := 6) rfl rfl hS hA rfl rfl (Nat.le_of_ble_eq_true rfl) ⟨Nat.zero_le _, Nat.zero_le _⟩ d_RRef_heads_16 (fun H locs hP hS => ?_)
      refine lv_if_eq (tgt := 40) hx hb d_RRef_heads_19 (by decide) (fun c8 => ?_) (fun c8 => ?_)
      · replace hm := ip c8 hm
        refine lv_iconst (v := 0) hx hb d_RRef_heads_40 (by decide) ?_
        refine lv_istore_n (lv' := [(3, .int 0), (0, .ref (ad 0)), (1, .int v1), (2, .int v2)]) hx hb d_RRef_heads_41 rfl hl (by decide) rfl (fun ls hl => ?_)
        refine lv_iload_n hx hb d_RRef_heads_42 rfl (lv_at hl 0 rfl) ?_
        refine lv_aload_n hx hb d_RRef_heads_43 rfl (lv_at hl 1 rfl) ?_
        refine va_get (D := D) (ci := 6) (v := .int (g_Rserial g)) (C := R_RRef) (T := F_RRef) (N := 29) hx hb hts i_RRef hown hK hP 0 rfl rfl 22 (by decide) (hts _ wf_RRef_137) (fun _ h9 => h9) rfl d_RRef_heads_44 ?_
        refine lv_icmp_le (tgt := 57) hx hb d_RRef_heads_47 (by decide) (fun c9 => ?_) (fun c9 => ?_)
        · replace hm := ip c9 hm
          refine lv_iinc (v := (v2 + 1)) (lv' := [(2, .int (v2 + 1)), (3, .int 0), (0, .ref (ad 0)), (1, .int v1)]) hx hb d_RRef_heads_57 hl (k := 3) rfl rfl (by decide) rfl (fun ls hl => ?_)
          refine lv_goto (tgt := 9) hx hb d_RRef_heads_60 (by decide) ?_
          exact ih g v1 (v2 + 1) _ hm _ _ hP hD hS ls (lv_sub hl [2, 3, 0] rfl)
        · replace hm := ineg c9 hm
          refine lv_aload_n hx hb d_RRef_heads_50 rfl (lv_at hl 1 rfl) ?_
          refine lv_iload_n hx hb d_RRef_heads_51 rfl (lv_at hl 0 rfl) ?_
          refine va_put (D := D) (ci := 6) (v := .int 0) (ty := .int) (C := R_RRef) (T := F_RRef) (N := 29) hx hb hts i_RRef t_RRef t_RRef_ok n_RRef hown hK hP hD hS 0 rfl rfl 22 (by decide) (hts _ wf_RRef_137) (fun _ h9 => h9) rfl (by decide +kernel) rfl rfl (Nat.le_of_ble_eq_true rfl) d_RRef_heads_52 (fun H locs hP hD hS => ?_)
          replace hP : va_P D classes (wl_Ref ca ad (s_Rserial g 0)) H := hP
          replace hD : va_D A (wl_Ref ca ad (s_Rserial g 0)) := hD
          refine lv_iload_n hx hb d_RRef_heads_55 rfl (lv_at hl 3 rfl) ?_
          refine lv_istore_n (lv' := [(1, .int v2), (3, .int 0), (0, .ref (ad 0)), (2, .int v2)]) hx hb d_RRef_heads_56 rfl hl (by decide) rfl (fun ls hl => ?_)
          refine lv_iinc (v := (v2 + 1)) (lv' := [(2, .int (v2 + 1)), (1, .int v2), (3, .int 0), (0, .ref (ad 0))]) hx hb d_RRef_heads_57 hl (k := 3) rfl rfl (by decide) rfl (fun ls hl => ?_)
          refine lv_goto (tgt := 9) hx hb d_RRef_heads_60 (by decide) ?_
          exact ih (s_Rserial g 0) v2 (v2 + 1) _ hm _ _ hP hD hS ls (lv_sub hl [3, 1, 0] rfl)
      · replace hm := ineg c8 hm
        refine lv_aload_n hx hb d_RRef_heads_22 rfl (lv_at hl 0 rfl) ?_
        refine va_get (D := D) (ci := 6) (v := .ref (ad 1)) (C := R_RRef) (T := F_RRef) (N := 29) hx hb hts i_RRef hown hK hP 0 rfl rfl 0 (by decide) (hts _ wf_RRef_7) (fun _ h9 => h9) rfl d_RRef_heads_23 ?_
        refine lv_bipush (v := 32) hx hb d_RRef_heads_26 (by decide) ?_
        refine lv_iload_n hx hb d_RRef_heads_28 rfl (lv_at hl 2 rfl) ?_
        refine lv_imul hx hb d_RRef_heads_29 ?_
        refine lv_iconst (v := 4) hx hb d_RRef_heads_30 (by decide) ?_
        refine lv_iadd hx hb d_RRef_heads_31 ?_
        refine lv_iconst (v := 4) hx hb d_RRef_heads_32 (by decide) ?_
        obtain ⟨q10, hq10, hm⟩ := ob hm
        refine inv_rS (As := [.ref (ad 1), .int ((32 * v2) + 4), .int 4]) (rest := []) (v := .long q10) X (c_RRef_number l D ca (ad 1) _ (g_Rmedium g) ((32 * v2) + 4) 4 q10 hq10) g_RRef_85 yo_RRef_number ⟨Nat.le_of_ble_eq_true rfl, Nat.le_of_ble_eq_true rfl⟩ hl hP hD [1] rfl rfl hS hA rfl rfl (Nat.le_of_ble_eq_true rfl) ⟨Nat.zero_le _, Nat.zero_le _⟩ d_RRef_heads_33 (fun H locs hP hS => ?_)
        refine lv_l2i (v := ((q10).toInt32)) hx hb d_RRef_heads_36 rfl ?_
        refine lv_goto (tgt := 41) hx hb d_RRef_heads_37 (by decide) ?_
        refine lv_istore_n (lv' := [(3, .int ((q10).toInt32)), (0, .ref (ad 0)), (1, .int v1), (2, .int v2)]) hx hb d_RRef_heads_41 rfl hl (by decide) rfl (fun ls hl => ?_)
        refine lv_iload_n hx hb d_RRef_heads_42 rfl (lv_at hl 0 rfl) ?_
        refine lv_aload_n hx hb d_RRef_heads_43 rfl (lv_at hl 1 rfl) ?_
        refine va_get (D := D) (ci := 6) (v := .int (g_Rserial g)) (C := R_RRef) (T := F_RRef) (N := 29) hx hb hts i_RRef hown hK hP 0 rfl rfl 22 (by decide) (hts _ wf_RRef_137) (fun _ h9 => h9) rfl d_RRef_heads_44 ?_
        refine lv_icmp_le (tgt := 57) hx hb d_RRef_heads_47 (by decide) (fun c11 => ?_) (fun c11 => ?_)
        · replace hm := ip c11 hm
          refine lv_iinc (v := (v2 + 1)) (lv' := [(2, .int (v2 + 1)), (3, .int ((q10).toInt32)), (0, .ref (ad 0)), (1, .int v1)]) hx hb d_RRef_heads_57 hl (k := 3) rfl rfl (by decide) rfl (fun ls hl => ?_)
          refine lv_goto (tgt := 9) hx hb d_RRef_heads_60 (by decide) ?_
          exact ih g v1 (v2 + 1) _ hm _ _ hP hD hS ls (lv_sub hl [2, 3, 0] rfl)
        · replace hm := ineg c11 hm
          refine lv_aload_n hx hb d_RRef_heads_50 rfl (lv_at hl 1 rfl) ?_
          refine lv_iload_n hx hb d_RRef_heads_51 rfl (lv_at hl 0 rfl) ?_
          refine va_put (D := D) (ci := 6) (v := .int ((q10).toInt32)) (ty := .int) (C := R_RRef) (T := F_RRef) (N := 29) hx hb hts i_RRef t_RRef t_RRef_ok n_RRef hown hK hP hD hS 0 rfl rfl 22 (by decide) (hts _ wf_RRef_137) (fun _ h9 => h9) rfl (by decide +kernel) rfl rfl (Nat.le_of_ble_eq_true rfl) d_RRef_heads_52 (fun H locs hP hD hS => ?_)
          replace hP : va_P D classes (wl_Ref ca ad (s_Rserial g ((q10).toInt32))) H := hP
          replace hD : va_D A (wl_Ref ca ad (s_Rserial g ((q10).toInt32))) := hD
          refine lv_iload_n hx hb d_RRef_heads_55 rfl (lv_at hl 3 rfl) ?_
          refine lv_istore_n (lv' := [(1, .int v2), (3, .int ((q10).toInt32)), (0, .ref (ad 0)), (2, .int v2)]) hx hb d_RRef_heads_56 rfl hl (by decide) rfl (fun ls hl => ?_)
          refine lv_iinc (v := (v2 + 1)) (lv' := [(2, .int (v2 + 1)), (1, .int v2), (3, .int ((q10).toInt32)), (0, .ref (ad 0))]) hx hb d_RRef_heads_57 hl (k := 3) rfl rfl (by decide) rfl (fun ls hl => ?_)
          refine lv_goto (tgt := 9) hx hb d_RRef_heads_60 (by decide) ?_
          exact ih (s_Rserial g ((q10).toInt32)) v2 (v2 + 1) _ hm _ _ hP hD hS ls (lv_sub hl [3, 1, 0] rfl)
set_option maxHeartbeats 4000000 in
set_option maxRecDepth 100000 in
theorem c_RRef_heads (l : Launch) (D : va_G) (ca : Nat → ClassId) (ad : Nat → Nat) (sz : Nat) (g : St_Ref)  (res : St_Ref) (hm : m_RRef_heads g = some res) : Met l y_RRef_heads (cws y_RRef_heads b_RRef_heads 4 none) (RM 3 71) (PreW D ca (wl_Ref ca ad g) [.ref (ad 0)] sz) (QRm D none (wl_Ref ca ad res) (va_A (wl_Ref ca ad g) sz)) 0 0 (va_A (wl_Ref ca ad g) sz) := by
  refine met_ofM (own := R_RRef) (by decide) rfl (Nat.le_of_ble_eq_true rfl) ?_
  intro p e s m below meth c A X hA hP hD ls hl
  obtain ⟨hx, hb, hml, hr, hown, hts, hK, hlocks⟩ := id X
  have hS : va_S A s.heap s.heap [] := va_S.rf
  have hl : lv_has ls 4 [(0, .ref (ad 0))] := hl
  unfold m_RRef_heads at hm
  refine lv_iconst (v := (-1)) hx hb d_RRef_heads_0 (by decide) ?_
  refine lv_istore_n (lv' := [(1, .int (-1)), (0, .ref (ad 0))]) hx hb d_RRef_heads_1 rfl hl (by decide) rfl (fun ls hl => ?_)
  refine lv_aload_n hx hb d_RRef_heads_2 rfl (lv_at hl 1 rfl) ?_
  refine lv_iconst (v := 0) hx hb d_RRef_heads_3 (by decide) ?_
  refine va_put (D := D) (ci := 6) (v := .int 0) (ty := .int) (C := R_RRef) (T := F_RRef) (N := 29) hx hb hts i_RRef t_RRef t_RRef_ok n_RRef hown hK hP hD hS 0 rfl rfl 22 (by decide) (hts _ wf_RRef_137) (fun _ h9 => h9) rfl (by decide +kernel) rfl rfl (Nat.le_of_ble_eq_true rfl) d_RRef_heads_4 (fun H locs hP hD hS => ?_)
  replace hP : va_P D classes (wl_Ref ca ad (s_Rserial g 0)) H := hP
  replace hD : va_D A (wl_Ref ca ad (s_Rserial g 0)) := hD
  refine lv_iconst (v := 0) hx hb d_RRef_heads_7 (by decide) ?_
  refine lv_istore_n (lv' := [(2, .int 0), (1, .int (-1)), (0, .ref (ad 0))]) hx hb d_RRef_heads_8 rfl hl (by decide) rfl (fun ls hl => ?_)
  exact k_m_RRef_heads_L9 X hA FU (s_Rserial g 0) (-1) 0 _ hm _ _ hP hD hS ls (lv_sub hl [2, 1, 0] rfl)
set_option maxHeartbeats 4000000 in
set_option maxRecDepth 100000 in
theorem c_RRef_bodies (l : Launch) (D : va_G) (ca : Nat → ClassId)  (sz : Nat)  (p0 : Int32) (res : Int32) (hm : m_RRef_bodies p0 = some res) : Met l y_RRef_bodies (cws y_RRef_bodies b_RRef_bodies 1 (some .int)) (RM 0 0) (PreW D ca ([]) [.int p0] sz) (QRr (.int res) (va_A [] sz)) 0 0 (va_A [] sz) := by
  refine met_ofR (own := R_RRef) (by decide) rfl (Nat.le_of_ble_eq_true rfl) ?_
  intro p e s m below meth c A X hA hP hD ls hl
  obtain ⟨hx, hb, hml, hr, hown, hts, hK, hlocks⟩ := id X
  have hS : va_S A s.heap s.heap [] := va_S.rf
  have hl : lv_has ls 1 [(0, .int p0)] := hl
  unfold m_RRef_bodies at hm
  refine lv_iload_n hx hb d_RRef_bodies_0 rfl (lv_at hl 0 rfl) ?_
  refine lv_bipush (v := 30) hx hb d_RRef_bodies_1 (by decide) ?_
  refine lv_iadd hx hb d_RRef_bodies_3 ?_
  refine lv_bipush (v := 31) hx hb d_RRef_bodies_4 (by decide) ?_
  refine lv_idiv hx hb d_RRef_bodies_6 (by decide) ?_
  cases hm
  exact ret_ri X hS d_RRef_bodies_7
set_option maxHeartbeats 4000000 in
set_option maxRecDepth 100000 in
theorem c_RRef_partAt (l : Launch) (D : va_G) (ca : Nat → ClassId) (ad : Nat → Nat) (sz : Nat) (g : St_Ref) (p1 : Int32) (res : Int32) (hm : m_RRef_partAt g p1 = some res) : Met l y_RRef_partAt (cws y_RRef_partAt b_RRef_partAt 8 (some .int)) (RM 2 48) (PreW D ca (wl_Ref ca ad g) [.ref (ad 0), .int p1] sz) (QRr (.int res) (va_A [] sz)) 0 0 (va_A [] sz) := by
  refine met_ofR (own := R_RRef) (by decide) rfl (Nat.le_of_ble_eq_true rfl) ?_
  intro p e s m below meth c A X hA hP hD ls hl
  obtain ⟨hx, hb, hml, hr, hown, hts, hK, hlocks⟩ := id X
  have hS : va_S A s.heap s.heap [] := va_S.rf
  have hl : lv_has ls 8 [(0, .ref (ad 0)), (1, .int p1)] := hl
  unfold m_RRef_partAt at hm
  refine lv_bipush (v := 32) hx hb d_RRef_partAt_0 (by decide) ?_
  refine lv_iload_n hx hb d_RRef_partAt_2 rfl (lv_at hl 1 rfl) ?_
  refine lv_imul hx hb d_RRef_partAt_3 ?_
  refine lv_istore_n (lv' := [(2, .int (32 * p1)), (0, .ref (ad 0)), (1, .int p1)]) hx hb d_RRef_partAt_4 rfl hl (by decide) rfl (fun ls hl => ?_)
  refine lv_aload_n hx hb d_RRef_partAt_5 rfl (lv_at hl 1 rfl) ?_
  refine va_get (D := D) (ci := 6) (v := .ref (ad 1)) (C := R_RRef) (T := F_RRef) (N := 29) hx hb hts i_RRef hown hK hP 0 rfl rfl 0 (by decide) (hts _ wf_RRef_7) (fun _ h9 => h9) rfl d_RRef_partAt_6 ?_
  refine lv_iload_n hx hb d_RRef_partAt_9 rfl (lv_at hl 0 rfl) ?_
  refine lv_iconst (v := 4) hx hb d_RRef_partAt_10 (by decide) ?_
  refine lv_iadd hx hb d_RRef_partAt_11 ?_
  refine lv_iconst (v := 4) hx hb d_RRef_partAt_12 (by decide) ?_
  obtain ⟨q1, hq1, hm⟩ := ob hm
  refine inv_rS (As := [.ref (ad 1), .int ((32 * p1) + 4), .int 4]) (rest := []) (v := .long q1) X (c_RRef_number l D ca (ad 1) _ (g_Rmedium g) ((32 * p1) + 4) 4 q1 hq1) g_RRef_85 yo_RRef_number ⟨Nat.le_of_ble_eq_true rfl, Nat.le_of_ble_eq_true rfl⟩ hl hP hD [1] rfl rfl hS hA rfl rfl (Nat.le_of_ble_eq_true rfl) ⟨Nat.zero_le _, Nat.zero_le _⟩ d_RRef_partAt_13 (fun H locs hP hS => ?_)
  refine lv_lstore_n (lv' := [(3, .long q1), (2, .int (32 * p1)), (0, .ref (ad 0)), (1, .int p1)]) hx hb d_RRef_partAt_16 rfl hl (by decide) rfl (fun ls hl => ?_)
  refine lv_aload_n hx hb d_RRef_partAt_17 rfl (lv_at hl 2 rfl) ?_
  refine va_get (D := D) (ci := 6) (v := .ref (ad 1)) (C := R_RRef) (T := F_RRef) (N := 29) hx hb hts i_RRef hown hK hP 0 rfl rfl 0 (by decide) (hts _ wf_RRef_7) (fun _ h9 => h9) rfl d_RRef_partAt_18 ?_
  refine lv_iload_n hx hb d_RRef_partAt_21 rfl (lv_at hl 1 rfl) ?_
  refine lv_iconst (v := 2) hx hb d_RRef_partAt_22 (by decide) ?_
  refine lv_iadd hx hb d_RRef_partAt_23 ?_
  refine lv_iconst (v := 2) hx hb d_RRef_partAt_24 (by decide) ?_
  obtain ⟨q2, hq2, hm⟩ := ob hm
  refine inv_rS (As := [.ref (ad 1), .int ((32 * p1) + 2), .int 2]) (rest := []) (v := .long q2) X (c_RRef_number l D ca (ad 1) _ (g_Rmedium g) ((32 * p1) + 2) 2 q2 hq2) g_RRef_85 yo_RRef_number ⟨Nat.le_of_ble_eq_true rfl, Nat.le_of_ble_eq_true rfl⟩ hl hP hD [1] rfl rfl hS hA rfl rfl (Nat.le_of_ble_eq_true rfl) ⟨Nat.zero_le _, Nat.zero_le _⟩ d_RRef_partAt_25 (fun H locs hP hS => ?_)
  refine lv_l2i (v := ((q2).toInt32)) hx hb d_RRef_partAt_28 rfl ?_
  refine lv_istore (lv' := [(5, .int ((q2).toInt32)), (3, .long q1), (2, .int (32 * p1)), (0, .ref (ad 0)), (1, .int p1)]) hx hb d_RRef_partAt_29 hl (by decide) rfl (fun ls hl => ?_)
  refine lv_aload_n hx hb d_RRef_partAt_31 rfl (lv_at hl 3 rfl) ?_
  refine lv_iload_n hx hb d_RRef_partAt_32 rfl (lv_at hl 4 rfl) ?_
  obtain ⟨q3, hq3, hm⟩ := ob hm
  refine inv_rVa (C := R_RRef) (As := [.int p1]) (rest := []) (v := .int q3) X (c_RRef_kind l D ca ad _ g p1 q3 hq3) g_RRef_119 yo_RRef_kind ⟨Nat.le_of_ble_eq_true rfl, Nat.le_of_ble_eq_true rfl⟩ hl hP hD (ci := 6) rfl rfl hS hA rfl rfl (Nat.le_of_ble_eq_true rfl) ⟨Nat.zero_le _, Nat.zero_le _⟩ d_RRef_partAt_33 (fun H locs hP hS => ?_)
  refine lv_iconst (v := 1) hx hb d_RRef_partAt_36 (by decide) ?_
  refine lv_icmp_ne (tgt := 91) hx hb d_RRef_partAt_37 (by decide) (fun c4 => ?_) (fun c4 => ?_)
  · replace hm := ineg c4 hm
    refine lv_iconst (v := 0) hx hb d_RRef_partAt_91 (by decide) ?_
    refine lv_istore (lv' := [(6, .int 0), (5, .int ((q2).toInt32)), (3, .long q1), (2, .int (32 * p1)), (0, .ref (ad 0)), (1, .int p1)]) hx hb d_RRef_partAt_92 hl (by decide) rfl (fun ls hl => ?_)
    refine lv_iconst (v := 1) hx hb d_RRef_partAt_94 (by decide) ?_
    refine lv_iload hx hb d_RRef_partAt_95 (lv_at hl 1 rfl) ?_
    obtain ⟨q5, hq5, hm⟩ := ob hm
    refine inv_rS (As := [.int ((q2).toInt32)]) (rest := [.int 1]) (v := .int q5) X (c_RRef_bodies l D ca  _ ((q2).toInt32) q5 hq5) g_RRef_112 yo_RRef_bodies ⟨Nat.le_of_ble_eq_true rfl, Nat.le_of_ble_eq_true rfl⟩ hl hP hD [] rfl rfl hS hA rfl rfl (Nat.le_of_ble_eq_true rfl) ⟨Nat.zero_le _, Nat.zero_le _⟩ d_RRef_partAt_97 (fun H locs hP hS => ?_)
    refine lv_iadd hx hb d_RRef_partAt_100 ?_
    refine lv_istore (lv' := [(7, .int (1 + q5)), (6, .int 0), (5, .int ((q2).toInt32)), (3, .long q1), (2, .int (32 * p1)), (0, .ref (ad 0)), (1, .int p1)]) hx hb d_RRef_partAt_101 hl (by decide) rfl (fun ls hl => ?_)
    refine lv_iload hx hb d_RRef_partAt_103 (lv_at hl 1 rfl) ?_
    refine lv_if_eq (tgt := 124) hx hb d_RRef_partAt_105 (by decide) (fun _ => ?_) (fun h9 => absurd h9 (by decide))
    refine lv_iconst (v := 0) hx hb d_RRef_partAt_124 (by decide) ?_
    cases hm
    exact ret_ri X hS d_RRef_partAt_125
  · replace hm := ip c4 hm
    refine lv_aload_n hx hb d_RRef_partAt_40 rfl (lv_at hl 3 rfl) ?_
    refine lv_iload_n hx hb d_RRef_partAt_41 rfl (lv_at hl 4 rfl) ?_
    obtain ⟨q6, hq6, hm⟩ := ob hm
    refine inv_rVa (C := R_RRef) (As := [.int p1]) (rest := []) (v := .int q6) X (c_RRef_isSummed l D ca ad _ g p1 q6 hq6) g_RRef_122 yo_RRef_isSummed ⟨Nat.le_of_ble_eq_true rfl, Nat.le_of_ble_eq_true rfl⟩ hl hP hD (ci := 6) rfl rfl hS hA rfl rfl (Nat.le_of_ble_eq_true rfl) ⟨Nat.zero_le _, Nat.zero_le _⟩ d_RRef_partAt_42 (fun H locs hP hS => ?_)
    refine lv_if_eq (tgt := 91) hx hb d_RRef_partAt_45 (by decide) (fun c7 => ?_) (fun c7 => ?_)
    · replace hm := ip c7 hm
      refine lv_iconst (v := 0) hx hb d_RRef_partAt_91 (by decide) ?_
      refine lv_istore (lv' := [(6, .int 0), (5, .int ((q2).toInt32)), (3, .long q1), (2, .int (32 * p1)), (0, .ref (ad 0)), (1, .int p1)]) hx hb d_RRef_partAt_92 hl (by decide) rfl (fun ls hl => ?_)
      refine lv_iconst (v := 1) hx hb d_RRef_partAt_94 (by decide) ?_
      refine lv_iload hx hb d_RRef_partAt_95 (lv_at hl 1 rfl) ?_
      obtain ⟨q8, hq8, hm⟩ := ob hm
      refine inv_rS (As := [.int ((q2).toInt32)]) (rest := [.int 1]) (v := .int q8) X (c_RRef_bodies l D ca  _ ((q2).toInt32) q8 hq8) g_RRef_112 yo_RRef_bodies ⟨Nat.le_of_ble_eq_true rfl, Nat.le_of_ble_eq_true rfl⟩ hl hP hD [] rfl rfl hS hA rfl rfl (Nat.le_of_ble_eq_true rfl) ⟨Nat.zero_le _, Nat.zero_le _⟩ d_RRef_partAt_97 (fun H locs hP hS => ?_)
      refine lv_iadd hx hb d_RRef_partAt_100 ?_
      refine lv_istore (lv' := [(7, .int (1 + q8)), (6, .int 0), (5, .int ((q2).toInt32)), (3, .long q1), (2, .int (32 * p1)), (0, .ref (ad 0)), (1, .int p1)]) hx hb d_RRef_partAt_101 hl (by decide) rfl (fun ls hl => ?_)
      refine lv_iload hx hb d_RRef_partAt_103 (lv_at hl 1 rfl) ?_
      refine lv_if_eq (tgt := 124) hx hb d_RRef_partAt_105 (by decide) (fun _ => ?_) (fun h9 => absurd h9 (by decide))
      refine lv_iconst (v := 0) hx hb d_RRef_partAt_124 (by decide) ?_
      cases hm
      exact ret_ri X hS d_RRef_partAt_125
    · replace hm := ineg c7 hm
      refine lv_aload_n hx hb d_RRef_partAt_48 rfl (lv_at hl 3 rfl) ?_
      refine va_get (D := D) (ci := 6) (v := .ref (ad 1)) (C := R_RRef) (T := F_RRef) (N := 29) hx hb hts i_RRef hown hK hP 0 rfl rfl 0 (by decide) (hts _ wf_RRef_7) (fun _ h9 => h9) rfl d_RRef_partAt_49 ?_
      refine lv_iload_n hx hb d_RRef_partAt_52 rfl (lv_at hl 2 rfl) ?_
      refine lv_iconst (v := 1) hx hb d_RRef_partAt_53 (by decide) ?_
      refine lv_iadd hx hb d_RRef_partAt_54 ?_
      obtain ⟨b9, hm⟩ := on hm
      refine va_bald hx hb hK hP 1 0 rfl rfl b9 d_RRef_partAt_55 ?_
      refine lv_sipush (v := 255) hx hb d_RRef_partAt_56 (by decide) ?_
      refine lv_iand hx hb d_RRef_partAt_59 ?_
      refine lv_bipush (v := 8) hx hb d_RRef_partAt_60 (by decide) ?_
      refine lv_icmp_ge (tgt := 91) hx hb d_RRef_partAt_62 (by decide) (fun c10 => ?_) (fun c10 => ?_)
      · replace hm := ip c10 hm
        refine lv_iconst (v := 0) hx hb d_RRef_partAt_91 (by decide) ?_
        refine lv_istore (lv' := [(6, .int 0), (5, .int ((q2).toInt32)), (3, .long q1), (2, .int (32 * p1)), (0, .ref (ad 0)), (1, .int p1)]) hx hb d_RRef_partAt_92 hl (by decide) rfl (fun ls hl => ?_)
        refine lv_iconst (v := 1) hx hb d_RRef_partAt_94 (by decide) ?_
        refine lv_iload hx hb d_RRef_partAt_95 (lv_at hl 1 rfl) ?_
        obtain ⟨q11, hq11, hm⟩ := ob hm
        refine inv_rS (As := [.int ((q2).toInt32)]) (rest := [.int 1]) (v := .int q11) X (c_RRef_bodies l D ca  _ ((q2).toInt32) q11 hq11) g_RRef_112 yo_RRef_bodies ⟨Nat.le_of_ble_eq_true rfl, Nat.le_of_ble_eq_true rfl⟩ hl hP hD [] rfl rfl hS hA rfl rfl (Nat.le_of_ble_eq_true rfl) ⟨Nat.zero_le _, Nat.zero_le _⟩ d_RRef_partAt_97 (fun H locs hP hS => ?_)
        refine lv_iadd hx hb d_RRef_partAt_100 ?_
        refine lv_istore (lv' := [(7, .int (1 + q11)), (6, .int 0), (5, .int ((q2).toInt32)), (3, .long q1), (2, .int (32 * p1)), (0, .ref (ad 0)), (1, .int p1)]) hx hb d_RRef_partAt_101 hl (by decide) rfl (fun ls hl => ?_)
        refine lv_iload hx hb d_RRef_partAt_103 (lv_at hl 1 rfl) ?_
        refine lv_if_eq (tgt := 124) hx hb d_RRef_partAt_105 (by decide) (fun _ => ?_) (fun h9 => absurd h9 (by decide))
        refine lv_iconst (v := 0) hx hb d_RRef_partAt_124 (by decide) ?_
        cases hm
        exact ret_ri X hS d_RRef_partAt_125
      · replace hm := ineg c10 hm
        refine lv_iload hx hb d_RRef_partAt_65 (lv_at hl 0 rfl) ?_
        refine lv_sipush (v := 155) hx hb d_RRef_partAt_67 (by decide) ?_
        refine lv_icmp_gt (tgt := 91) hx hb d_RRef_partAt_70 (by decide) (fun c12 => ?_) (fun c12 => ?_)
        · replace hm := ip c12 hm
          refine lv_iconst (v := 0) hx hb d_RRef_partAt_91 (by decide) ?_
          refine lv_istore (lv' := [(6, .int 0), (5, .int ((q2).toInt32)), (3, .long q1), (2, .int (32 * p1)), (0, .ref (ad 0)), (1, .int p1)]) hx hb d_RRef_partAt_92 hl (by decide) rfl (fun ls hl => ?_)
          refine lv_iconst (v := 1) hx hb d_RRef_partAt_94 (by decide) ?_
          refine lv_iload hx hb d_RRef_partAt_95 (lv_at hl 1 rfl) ?_
          obtain ⟨q13, hq13, hm⟩ := ob hm
          refine inv_rS (As := [.int ((q2).toInt32)]) (rest := [.int 1]) (v := .int q13) X (c_RRef_bodies l D ca  _ ((q2).toInt32) q13 hq13) g_RRef_112 yo_RRef_bodies ⟨Nat.le_of_ble_eq_true rfl, Nat.le_of_ble_eq_true rfl⟩ hl hP hD [] rfl rfl hS hA rfl rfl (Nat.le_of_ble_eq_true rfl) ⟨Nat.zero_le _, Nat.zero_le _⟩ d_RRef_partAt_97 (fun H locs hP hS => ?_)
          refine lv_iadd hx hb d_RRef_partAt_100 ?_
          refine lv_istore (lv' := [(7, .int (1 + q13)), (6, .int 0), (5, .int ((q2).toInt32)), (3, .long q1), (2, .int (32 * p1)), (0, .ref (ad 0)), (1, .int p1)]) hx hb d_RRef_partAt_101 hl (by decide) rfl (fun ls hl => ?_)
          refine lv_iload hx hb d_RRef_partAt_103 (lv_at hl 1 rfl) ?_
          refine lv_if_eq (tgt := 124) hx hb d_RRef_partAt_105 (by decide) (fun _ => ?_) (fun h9 => absurd h9 (by decide))
          refine lv_iconst (v := 0) hx hb d_RRef_partAt_124 (by decide) ?_
          cases hm
          exact ret_ri X hS d_RRef_partAt_125
        · replace hm := ineg c12 hm
          refine lv_lload_n hx hb d_RRef_partAt_73 rfl (lv_at hl 1 rfl) ?_
          refine lv_lconst (v := 1) hx hb d_RRef_partAt_74 (by decide) ?_
          refine W.lcmp hx hb d_RRef_partAt_75 ?_
          refine lv_if_lt (tgt := 91) hx hb d_RRef_partAt_76 (by decide) (fun c14 => ?_) (fun c14 => ?_)
          · replace hm := ip c14 hm
            refine lv_iconst (v := 0) hx hb d_RRef_partAt_91 (by decide) ?_
            refine lv_istore (lv' := [(6, .int 0), (5, .int ((q2).toInt32)), (3, .long q1), (2, .int (32 * p1)), (0, .ref (ad 0)), (1, .int p1)]) hx hb d_RRef_partAt_92 hl (by decide) rfl (fun ls hl => ?_)
            refine lv_iconst (v := 1) hx hb d_RRef_partAt_94 (by decide) ?_
            refine lv_iload hx hb d_RRef_partAt_95 (lv_at hl 1 rfl) ?_
            obtain ⟨q15, hq15, hm⟩ := ob hm
            refine inv_rS (As := [.int ((q2).toInt32)]) (rest := [.int 1]) (v := .int q15) X (c_RRef_bodies l D ca  _ ((q2).toInt32) q15 hq15) g_RRef_112 yo_RRef_bodies ⟨Nat.le_of_ble_eq_true rfl, Nat.le_of_ble_eq_true rfl⟩ hl hP hD [] rfl rfl hS hA rfl rfl (Nat.le_of_ble_eq_true rfl) ⟨Nat.zero_le _, Nat.zero_le _⟩ d_RRef_partAt_97 (fun H locs hP hS => ?_)
            refine lv_iadd hx hb d_RRef_partAt_100 ?_
            refine lv_istore (lv' := [(7, .int (1 + q15)), (6, .int 0), (5, .int ((q2).toInt32)), (3, .long q1), (2, .int (32 * p1)), (0, .ref (ad 0)), (1, .int p1)]) hx hb d_RRef_partAt_101 hl (by decide) rfl (fun ls hl => ?_)
            refine lv_iload hx hb d_RRef_partAt_103 (lv_at hl 1 rfl) ?_
            refine lv_if_eq (tgt := 124) hx hb d_RRef_partAt_105 (by decide) (fun _ => ?_) (fun h9 => absurd h9 (by decide))
            refine lv_iconst (v := 0) hx hb d_RRef_partAt_124 (by decide) ?_
            cases hm
            exact ret_ri X hS d_RRef_partAt_125
          · replace hm := ineg c14 hm
            refine lv_lload_n hx hb d_RRef_partAt_79 rfl (lv_at hl 1 rfl) ?_
            refine lv_ldc2 hx hb hown (hts _ wc_RRef_135) d_RRef_partAt_80 ?_
            refine W.lcmp hx hb d_RRef_partAt_83 ?_
            refine lv_if_gt (tgt := 91) hx hb d_RRef_partAt_84 (by decide) (fun c16 => ?_) (fun c16 => ?_)
            · replace hm := ip c16 hm
              refine lv_iconst (v := 0) hx hb d_RRef_partAt_91 (by decide) ?_
              refine lv_istore (lv' := [(6, .int 0), (5, .int ((q2).toInt32)), (3, .long q1), (2, .int (32 * p1)), (0, .ref (ad 0)), (1, .int p1)]) hx hb d_RRef_partAt_92 hl (by decide) rfl (fun ls hl => ?_)
              refine lv_iconst (v := 1) hx hb d_RRef_partAt_94 (by decide) ?_
              refine lv_iload hx hb d_RRef_partAt_95 (lv_at hl 1 rfl) ?_
              obtain ⟨q17, hq17, hm⟩ := ob hm
              refine inv_rS (As := [.int ((q2).toInt32)]) (rest := [.int 1]) (v := .int q17) X (c_RRef_bodies l D ca  _ ((q2).toInt32) q17 hq17) g_RRef_112 yo_RRef_bodies ⟨Nat.le_of_ble_eq_true rfl, Nat.le_of_ble_eq_true rfl⟩ hl hP hD [] rfl rfl hS hA rfl rfl (Nat.le_of_ble_eq_true rfl) ⟨Nat.zero_le _, Nat.zero_le _⟩ d_RRef_partAt_97 (fun H locs hP hS => ?_)
              refine lv_iadd hx hb d_RRef_partAt_100 ?_
              refine lv_istore (lv' := [(7, .int (1 + q17)), (6, .int 0), (5, .int ((q2).toInt32)), (3, .long q1), (2, .int (32 * p1)), (0, .ref (ad 0)), (1, .int p1)]) hx hb d_RRef_partAt_101 hl (by decide) rfl (fun ls hl => ?_)
              refine lv_iload hx hb d_RRef_partAt_103 (lv_at hl 1 rfl) ?_
              refine lv_if_eq (tgt := 124) hx hb d_RRef_partAt_105 (by decide) (fun _ => ?_) (fun h9 => absurd h9 (by decide))
              refine lv_iconst (v := 0) hx hb d_RRef_partAt_124 (by decide) ?_
              cases hm
              exact ret_ri X hS d_RRef_partAt_125
            · replace hm := ineg c16 hm
              refine lv_iconst (v := 1) hx hb d_RRef_partAt_87 (by decide) ?_
              refine lv_goto (tgt := 92) hx hb d_RRef_partAt_88 (by decide) ?_
              refine lv_istore (lv' := [(6, .int 1), (5, .int ((q2).toInt32)), (3, .long q1), (2, .int (32 * p1)), (0, .ref (ad 0)), (1, .int p1)]) hx hb d_RRef_partAt_92 hl (by decide) rfl (fun ls hl => ?_)
              refine lv_iconst (v := 1) hx hb d_RRef_partAt_94 (by decide) ?_
              refine lv_iload hx hb d_RRef_partAt_95 (lv_at hl 1 rfl) ?_
              obtain ⟨q18, hq18, hm⟩ := ob hm
              refine inv_rS (As := [.int ((q2).toInt32)]) (rest := [.int 1]) (v := .int q18) X (c_RRef_bodies l D ca  _ ((q2).toInt32) q18 hq18) g_RRef_112 yo_RRef_bodies ⟨Nat.le_of_ble_eq_true rfl, Nat.le_of_ble_eq_true rfl⟩ hl hP hD [] rfl rfl hS hA rfl rfl (Nat.le_of_ble_eq_true rfl) ⟨Nat.zero_le _, Nat.zero_le _⟩ d_RRef_partAt_97 (fun H locs hP hS => ?_)
              refine lv_iadd hx hb d_RRef_partAt_100 ?_
              refine lv_istore (lv' := [(7, .int (1 + q18)), (6, .int 1), (5, .int ((q2).toInt32)), (3, .long q1), (2, .int (32 * p1)), (0, .ref (ad 0)), (1, .int p1)]) hx hb d_RRef_partAt_101 hl (by decide) rfl (fun ls hl => ?_)
              refine lv_iload hx hb d_RRef_partAt_103 (lv_at hl 1 rfl) ?_
              refine lv_if_eq (tgt := 124) hx hb d_RRef_partAt_105 (by decide) (fun h9 => absurd h9 (by decide)) (fun _ => ?_)
              refine lv_iload_n hx hb d_RRef_partAt_108 rfl (lv_at hl 6 rfl) ?_
              refine lv_iload hx hb d_RRef_partAt_109 (lv_at hl 0 rfl) ?_
              refine lv_iadd hx hb d_RRef_partAt_111 ?_
              refine lv_aload_n hx hb d_RRef_partAt_112 rfl (lv_at hl 5 rfl) ?_
              refine va_get (D := D) (ci := 6) (v := .int (g_Rrows g)) (C := R_RRef) (T := F_RRef) (N := 29) hx hb hts i_RRef hown hK hP 0 rfl rfl 1 (by decide) (hts _ wf_RRef_78) (fun _ h9 => h9) rfl d_RRef_partAt_113 ?_
              refine lv_icmp_gt (tgt := 124) hx hb d_RRef_partAt_116 (by decide) (fun c19 => ?_) (fun c19 => ?_)
              · replace hm := ip c19 hm
                refine lv_iconst (v := 0) hx hb d_RRef_partAt_124 (by decide) ?_
                cases hm
                exact ret_ri X hS d_RRef_partAt_125
              · replace hm := ineg c19 hm
                refine lv_iload hx hb d_RRef_partAt_119 (lv_at hl 0 rfl) ?_
                refine lv_goto (tgt := 125) hx hb d_RRef_partAt_121 (by decide) ?_
                cases hm
                exact ret_ri X hS d_RRef_partAt_125
set_option maxHeartbeats 4000000 in
set_option maxRecDepth 100000 in
theorem k_m_RRef_findPart_L2 {p : Program} {l : Launch} {e : Env} {s : State} {m : MethodId} {args : Array Value} {below : List Frame} {meth : Method} {c : Code} {D : va_G} {ca : Nat → ClassId} {ad : Nat → Nat} {A : Nat → Prop} (X : Cx p s m args meth c R_RRef b_RRef_findPart 3 (some .int) D ca) (hA : ∀ q, s.heap.size ≤ q → A q) {g : St_Ref} : ∀ (n : Nat) (v1 : Int32) (v2 : Int32) (res : Int32), m_RRef_findPart_L2 g n v1 v2 = some res → ∀ (H : Heap) (locs : List Loc), va_P D classes (wl_Ref ca ad g) H → va_D (fun _ => True) (wl_Ref ca ad g) → va_S A s.heap H locs → ∀ ls : Array Slot, lv_has ls 3 [(0, .ref (ad 0)), (1, .int v1), (2, .int v2)] → W p l e (RM 0 0) s m args below meth c H locs 0 0 (MQ below (QRr (.int res) A) args s 0 0 A) (F0 m 2 ls []) := by
  obtain ⟨hx, hb, hml, hr, hown, hts, hK, hlocks⟩ := id X
  intro n
  induction n with
  | zero =>
    intro v1 v2 res hm
    rw [m_RRef_findPart_L2] at hm
    cases hm
  | succ n ih =>
    intro v1 v2 res hm H locs hP hD hS ls hl
    rw [m_RRef_findPart_L2] at hm
    refine lv_iload_n hx hb d_RRef_findPart_2 rfl (lv_at hl 2 rfl) ?_
    refine lv_aload_n hx hb d_RRef_findPart_3 rfl (lv_at hl 0 rfl) ?_
    refine va_get (D := D) (ci := 6) (v := .int (g_Rparts g)) (C := R_RRef) (T := F_RRef) (N := 29) hx hb hts i_RRef hown hK hP 0 rfl rfl 12 (by decide) (hts _ wf_RRef_106) (fun _ h9 => h9) rfl d_RRef_findPart_4 ?_
    refine lv_icmp_ge (tgt := 28) hx hb d_RRef_findPart_7 (by decide) (fun c1 => ?_) (fun c1 => ?_)
    · replace hm := ip c1 hm
      refine lv_iconst (v := (-1)) hx hb d_RRef_findPart_28 (by decide) ?_
      cases hm
      exact ret_ri X hS d_RRef_findPart_29
    · replace hm := ineg c1 hm
      refine lv_aload_n hx hb d_RRef_findPart_10 rfl (lv_at hl 0 rfl) ?_
      refine va_get (D := D) (ci := 6) (v := .ref (ad 3)) (C := R_RRef) (T := F_RRef) (N := 29) hx hb hts i_RRef hown hK hP 0 rfl rfl 7 (by decide) (hts _ wf_RRef_24) (fun _ h9 => h9) rfl d_RRef_findPart_11 ?_
      refine lv_iload_n hx hb d_RRef_findPart_14 rfl (lv_at hl 2 rfl) ?_
      obtain ⟨b2, hm⟩ := on hm
      refine va_iald hx hb hK hP 3 2 rfl rfl b2 d_RRef_findPart_15 ?_
      refine lv_iload_n hx hb d_RRef_findPart_16 rfl (lv_at hl 1 rfl) ?_
      refine lv_icmp_ne (tgt := 22) hx hb d_RRef_findPart_17 (by decide) (fun c3 => ?_) (fun c3 => ?_)
      · replace hm := ineg c3 hm
        refine lv_iinc (v := (v2 + 1)) (lv' := [(2, .int (v2 + 1)), (0, .ref (ad 0)), (1, .int v1)]) hx hb d_RRef_findPart_22 hl (k := 2) rfl rfl (by decide) rfl (fun ls hl => ?_)
        refine lv_goto (tgt := 2) hx hb d_RRef_findPart_25 (by decide) ?_
        exact ih  v1 (v2 + 1) _ hm _ _ hP hD hS ls (lv_sub hl [1, 2, 0] rfl)
      · replace hm := ip c3 hm
        refine lv_iload_n hx hb d_RRef_findPart_20 rfl (lv_at hl 2 rfl) ?_
        cases hm
        exact ret_ri X hS d_RRef_findPart_21
set_option maxHeartbeats 4000000 in
set_option maxRecDepth 100000 in
theorem c_RRef_findPart (l : Launch) (D : va_G) (ca : Nat → ClassId) (ad : Nat → Nat) (sz : Nat) (g : St_Ref) (p1 : Int32) (res : Int32) (hm : m_RRef_findPart g p1 = some res) : Met l y_RRef_findPart (cws y_RRef_findPart b_RRef_findPart 3 (some .int)) (RM 0 0) (PreW D ca (wl_Ref ca ad g) [.ref (ad 0), .int p1] sz) (QRr (.int res) (va_A [] sz)) 0 0 (va_A [] sz) := by
  refine met_ofR (own := R_RRef) (by decide) rfl (Nat.le_of_ble_eq_true rfl) ?_
  intro p e s m below meth c A X hA hP hD ls hl
  obtain ⟨hx, hb, hml, hr, hown, hts, hK, hlocks⟩ := id X
  have hS : va_S A s.heap s.heap [] := va_S.rf
  have hl : lv_has ls 3 [(0, .ref (ad 0)), (1, .int p1)] := hl
  unfold m_RRef_findPart at hm
  refine lv_iconst (v := 0) hx hb d_RRef_findPart_0 (by decide) ?_
  refine lv_istore_n (lv' := [(2, .int 0), (0, .ref (ad 0)), (1, .int p1)]) hx hb d_RRef_findPart_1 rfl hl (by decide) rfl (fun ls hl => ?_)
  exact k_m_RRef_findPart_L2 X hA FU  p1 0 _ hm _ _ hP hD hS ls (lv_sub hl [1, 2, 0] rfl)
set_option maxHeartbeats 4000000 in
set_option maxRecDepth 100000 in
theorem c_RRef_learnPart (l : Launch) (D : va_G) (ca : Nat → ClassId) (ad : Nat → Nat) (sz : Nat) (g : St_Ref) (p1 : Int32) (res : St_Ref) (hm : m_RRef_learnPart g p1 = some res) : Met l y_RRef_learnPart (cws y_RRef_learnPart b_RRef_learnPart 4 none) (RM 1 25) (PreW D ca (wl_Ref ca ad g) [.ref (ad 0), .int p1] sz) (QRm D none (wl_Ref ca ad res) (va_A (wl_Ref ca ad g) sz)) 0 0 (va_A (wl_Ref ca ad g) sz) := by
  refine met_ofM (own := R_RRef) (by decide) rfl (Nat.le_of_ble_eq_true rfl) ?_
  intro p e s m below meth c A X hA hP hD ls hl
  obtain ⟨hx, hb, hml, hr, hown, hts, hK, hlocks⟩ := id X
  have hS : va_S A s.heap s.heap [] := va_S.rf
  have hl : lv_has ls 4 [(0, .ref (ad 0)), (1, .int p1)] := hl
  unfold m_RRef_learnPart at hm
  refine lv_bipush (v := 32) hx hb d_RRef_learnPart_0 (by decide) ?_
  refine lv_iload_n hx hb d_RRef_learnPart_2 rfl (lv_at hl 1 rfl) ?_
  refine lv_imul hx hb d_RRef_learnPart_3 ?_
  refine lv_istore_n (lv' := [(2, .int (32 * p1)), (0, .ref (ad 0)), (1, .int p1)]) hx hb d_RRef_learnPart_4 rfl hl (by decide) rfl (fun ls hl => ?_)
  refine lv_aload_n hx hb d_RRef_learnPart_5 rfl (lv_at hl 1 rfl) ?_
  refine va_get (D := D) (ci := 6) (v := .ref (ad 1)) (C := R_RRef) (T := F_RRef) (N := 29) hx hb hts i_RRef hown hK hP 0 rfl rfl 0 (by decide) (hts _ wf_RRef_7) (fun _ h9 => h9) rfl d_RRef_learnPart_6 ?_
  refine lv_iload_n hx hb d_RRef_learnPart_9 rfl (lv_at hl 0 rfl) ?_
  refine lv_iconst (v := 4) hx hb d_RRef_learnPart_10 (by decide) ?_
  refine lv_iadd hx hb d_RRef_learnPart_11 ?_
  refine lv_iconst (v := 4) hx hb d_RRef_learnPart_12 (by decide) ?_
  obtain ⟨q1, hq1, hm⟩ := ob hm
  refine inv_rS (As := [.ref (ad 1), .int ((32 * p1) + 4), .int 4]) (rest := []) (v := .long q1) X (c_RRef_number l D ca (ad 1) _ (g_Rmedium g) ((32 * p1) + 4) 4 q1 hq1) g_RRef_85 yo_RRef_number ⟨Nat.le_of_ble_eq_true rfl, Nat.le_of_ble_eq_true rfl⟩ hl hP hD [1] rfl rfl hS hA rfl rfl (Nat.le_of_ble_eq_true rfl) ⟨Nat.zero_le _, Nat.zero_le _⟩ d_RRef_learnPart_13 (fun H locs hP hS => ?_)
  refine lv_l2i (v := ((q1).toInt32)) hx hb d_RRef_learnPart_16 rfl ?_
  refine lv_istore_n (lv' := [(3, .int ((q1).toInt32)), (2, .int (32 * p1)), (0, .ref (ad 0)), (1, .int p1)]) hx hb d_RRef_learnPart_17 rfl hl (by decide) rfl (fun ls hl => ?_)
  refine lv_aload_n hx hb d_RRef_learnPart_18 rfl (lv_at hl 2 rfl) ?_
  refine lv_iload_n hx hb d_RRef_learnPart_19 rfl (lv_at hl 0 rfl) ?_
  obtain ⟨q2, hq2, hm⟩ := ob hm
  refine inv_rVa (C := R_RRef) (As := [.int ((q1).toInt32)]) (rest := []) (v := .int q2) X (c_RRef_findPart l D ca ad _ g ((q1).toInt32) q2 hq2) g_RRef_129 yo_RRef_findPart ⟨Nat.le_of_ble_eq_true rfl, Nat.le_of_ble_eq_true rfl⟩ hl hP hD (ci := 6) rfl rfl hS hA rfl rfl (Nat.le_of_ble_eq_true rfl) ⟨Nat.zero_le _, Nat.zero_le _⟩ d_RRef_learnPart_20 (fun H locs hP hS => ?_)
  refine lv_iconst (v := (-1)) hx hb d_RRef_learnPart_23 (by decide) ?_
  refine lv_icmp_ne (tgt := 141) hx hb d_RRef_learnPart_24 (by decide) (fun c3 => ?_) (fun c3 => ?_)
  · replace hm := ineg c3 hm
    cases hm
    exact ret_mv X hP hS d_RRef_learnPart_141
  · replace hm := ip c3 hm
    refine lv_aload_n hx hb d_RRef_learnPart_27 rfl (lv_at hl 2 rfl) ?_
    refine va_get (D := D) (ci := 6) (v := .ref (ad 3)) (C := R_RRef) (T := F_RRef) (N := 29) hx hb hts i_RRef hown hK hP 0 rfl rfl 7 (by decide) (hts _ wf_RRef_24) (fun _ h9 => h9) rfl d_RRef_learnPart_28 ?_
    refine lv_aload_n hx hb d_RRef_learnPart_31 rfl (lv_at hl 2 rfl) ?_
    refine va_get (D := D) (ci := 6) (v := .int (g_Rparts g)) (C := R_RRef) (T := F_RRef) (N := 29) hx hb hts i_RRef hown hK hP 0 rfl rfl 12 (by decide) (hts _ wf_RRef_106) (fun _ h9 => h9) rfl d_RRef_learnPart_32 ?_
    refine lv_iload_n hx hb d_RRef_learnPart_35 rfl (lv_at hl 0 rfl) ?_
    obtain ⟨b4, hm⟩ := on hm
    refine va_iast hx hb hK hP hD hS 3 2 rfl rfl b4 d_RRef_learnPart_36 (fun H locs hP hD hS => ?_)
    replace hP : va_P D classes (wl_Ref ca ad (s_RpNumber g ((g_RpNumber g).1, upd (g_RpNumber g).2 ((g_Rparts g)).toNatClampNeg ((q1).toInt32)))) H := hP
    replace hD : va_D A (wl_Ref ca ad (s_RpNumber g ((g_RpNumber g).1, upd (g_RpNumber g).2 ((g_Rparts g)).toNatClampNeg ((q1).toInt32)))) := hD
    refine lv_aload_n hx hb d_RRef_learnPart_37 rfl (lv_at hl 2 rfl) ?_
    refine va_get (D := D) (ci := 6) (v := .ref (ad 4)) (C := R_RRef) (T := F_RRef) (N := 29) hx hb hts i_RRef hown hK hP 0 rfl rfl 8 (by decide) (hts _ wf_RRef_28) (fun _ h9 => h9) rfl d_RRef_learnPart_38 ?_
    refine lv_aload_n hx hb d_RRef_learnPart_41 rfl (lv_at hl 2 rfl) ?_
    refine va_get (D := D) (ci := 6) (v := .int (g_Rparts g)) (C := R_RRef) (T := F_RRef) (N := 29) hx hb hts i_RRef hown hK hP 0 rfl rfl 12 (by decide) (hts _ wf_RRef_106) (fun _ h9 => h9) rfl d_RRef_learnPart_42 ?_
    refine lv_aload_n hx hb d_RRef_learnPart_45 rfl (lv_at hl 2 rfl) ?_
    refine va_get (D := D) (ci := 6) (v := .ref (ad 1)) (C := R_RRef) (T := F_RRef) (N := 29) hx hb hts i_RRef hown hK hP 0 rfl rfl 0 (by decide) (hts _ wf_RRef_7) (fun _ h9 => h9) rfl d_RRef_learnPart_46 ?_
    refine lv_iload_n hx hb d_RRef_learnPart_49 rfl (lv_at hl 1 rfl) ?_
    refine lv_iconst (v := 1) hx hb d_RRef_learnPart_50 (by decide) ?_
    refine lv_iadd hx hb d_RRef_learnPart_51 ?_
    obtain ⟨b5, hm⟩ := on hm
    refine va_bald hx hb hK hP 1 0 rfl rfl b5 d_RRef_learnPart_52 ?_
    refine lv_sipush (v := 255) hx hb d_RRef_learnPart_53 (by decide) ?_
    refine lv_iand hx hb d_RRef_learnPart_56 ?_
    obtain ⟨b6, hm⟩ := on hm
    refine va_iast hx hb hK hP hD hS 4 2 rfl rfl b6 d_RRef_learnPart_57 (fun H locs hP hD hS => ?_)
    replace hP : va_P D classes (wl_Ref ca ad (s_RpGroup (s_RpNumber g ((g_RpNumber g).1, upd (g_RpNumber g).2 ((g_Rparts g)).toNatClampNeg ((q1).toInt32))) ((g_RpGroup g).1, upd (g_RpGroup g).2 ((g_Rparts g)).toNatClampNeg (((g_Rmedium g).2 (((32 * p1) + 1)).toNatClampNeg) &&& 255)))) H := hP
    replace hD : va_D A (wl_Ref ca ad (s_RpGroup (s_RpNumber g ((g_RpNumber g).1, upd (g_RpNumber g).2 ((g_Rparts g)).toNatClampNeg ((q1).toInt32))) ((g_RpGroup g).1, upd (g_RpGroup g).2 ((g_Rparts g)).toNatClampNeg (((g_Rmedium g).2 (((32 * p1) + 1)).toNatClampNeg) &&& 255)))) := hD
    refine lv_aload_n hx hb d_RRef_learnPart_58 rfl (lv_at hl 2 rfl) ?_
    refine va_get (D := D) (ci := 6) (v := .ref (ad 5)) (C := R_RRef) (T := F_RRef) (N := 29) hx hb hts i_RRef hown hK hP 0 rfl rfl 9 (by decide) (hts _ wf_RRef_31) (fun _ h9 => h9) rfl d_RRef_learnPart_59 ?_
    refine lv_aload_n hx hb d_RRef_learnPart_62 rfl (lv_at hl 2 rfl) ?_
    refine va_get (D := D) (ci := 6) (v := .int (g_Rparts g)) (C := R_RRef) (T := F_RRef) (N := 29) hx hb hts i_RRef hown hK hP 0 rfl rfl 12 (by decide) (hts _ wf_RRef_106) (fun _ h9 => h9) rfl d_RRef_learnPart_63 ?_
    refine lv_aload_n hx hb d_RRef_learnPart_66 rfl (lv_at hl 2 rfl) ?_
    refine va_get (D := D) (ci := 6) (v := .ref (ad 1)) (C := R_RRef) (T := F_RRef) (N := 29) hx hb hts i_RRef hown hK hP 0 rfl rfl 0 (by decide) (hts _ wf_RRef_7) (fun _ h9 => h9) rfl d_RRef_learnPart_67 ?_
    refine lv_iload_n hx hb d_RRef_learnPart_70 rfl (lv_at hl 1 rfl) ?_
    refine lv_bipush (v := 8) hx hb d_RRef_learnPart_71 (by decide) ?_
    refine lv_iadd hx hb d_RRef_learnPart_73 ?_
    refine lv_bipush (v := 8) hx hb d_RRef_learnPart_74 (by decide) ?_
    obtain ⟨q7, hq7, hm⟩ := ob hm
    refine inv_rS (As := [.ref (ad 1), .int ((32 * p1) + 8), .int 8]) (rest := [.int (g_Rparts g), .ref (ad 5)]) (v := .long q7) X (c_RRef_number l D ca (ad 1) _ (g_Rmedium g) ((32 * p1) + 8) 8 q7 hq7) g_RRef_85 yo_RRef_number ⟨Nat.le_of_ble_eq_true rfl, Nat.le_of_ble_eq_true rfl⟩ hl hP hD [1] rfl rfl hS hA rfl rfl (Nat.le_of_ble_eq_true rfl) ⟨Nat.zero_le _, Nat.zero_le _⟩ d_RRef_learnPart_76 (fun H locs hP hS => ?_)
    obtain ⟨b8, hm⟩ := on hm
    refine va_last hx hb hK hP hD hS 5 3 rfl rfl b8 d_RRef_learnPart_79 (fun H locs hP hD hS => ?_)
    replace hP : va_P D classes (wl_Ref ca ad (s_RpPosition (s_RpGroup (s_RpNumber g ((g_RpNumber g).1, upd (g_RpNumber g).2 ((g_Rparts g)).toNatClampNeg ((q1).toInt32))) ((g_RpGroup g).1, upd (g_RpGroup g).2 ((g_Rparts g)).toNatClampNeg (((g_Rmedium g).2 (((32 * p1) + 1)).toNatClampNeg) &&& 255))) ((g_RpPosition g).1, vp_updL (g_RpPosition g).2 ((g_Rparts g)).toNatClampNeg q7))) H := hP
    replace hD : va_D A (wl_Ref ca ad (s_RpPosition (s_RpGroup (s_RpNumber g ((g_RpNumber g).1, upd (g_RpNumber g).2 ((g_Rparts g)).toNatClampNeg ((q1).toInt32))) ((g_RpGroup g).1, upd (g_RpGroup g).2 ((g_Rparts g)).toNatClampNeg (((g_Rmedium g).2 (((32 * p1) + 1)).toNatClampNeg) &&& 255))) ((g_RpPosition g).1, vp_updL (g_RpPosition g).2 ((g_Rparts g)).toNatClampNeg q7))) := hD
    refine lv_aload_n hx hb d_RRef_learnPart_80 rfl (lv_at hl 2 rfl) ?_
    refine va_get (D := D) (ci := 6) (v := .ref (ad 6)) (C := R_RRef) (T := F_RRef) (N := 29) hx hb hts i_RRef hown hK hP 0 rfl rfl 10 (by decide) (hts _ wf_RRef_35) (fun _ h9 => h9) rfl d_RRef_learnPart_81 ?_
    refine lv_aload_n hx hb d_RRef_learnPart_84 rfl (lv_at hl 2 rfl) ?_
    refine va_get (D := D) (ci := 6) (v := .int (g_Rparts g)) (C := R_RRef) (T := F_RRef) (N := 29) hx hb hts i_RRef hown hK hP 0 rfl rfl 12 (by decide) (hts _ wf_RRef_106) (fun _ h9 => h9) rfl d_RRef_learnPart_85 ?_
    refine lv_aload_n hx hb d_RRef_learnPart_88 rfl (lv_at hl 2 rfl) ?_
    refine va_get (D := D) (ci := 6) (v := .ref (ad 1)) (C := R_RRef) (T := F_RRef) (N := 29) hx hb hts i_RRef hown hK hP 0 rfl rfl 0 (by decide) (hts _ wf_RRef_7) (fun _ h9 => h9) rfl d_RRef_learnPart_89 ?_
    refine lv_iload_n hx hb d_RRef_learnPart_92 rfl (lv_at hl 1 rfl) ?_
    refine lv_iconst (v := 2) hx hb d_RRef_learnPart_93 (by decide) ?_
    refine lv_iadd hx hb d_RRef_learnPart_94 ?_
    refine lv_iconst (v := 2) hx hb d_RRef_learnPart_95 (by decide) ?_
    obtain ⟨q9, hq9, hm⟩ := ob hm
    refine inv_rS (As := [.ref (ad 1), .int ((32 * p1) + 2), .int 2]) (rest := [.int (g_Rparts g), .ref (ad 6)]) (v := .long q9) X (c_RRef_number l D ca (ad 1) _ (g_Rmedium g) ((32 * p1) + 2) 2 q9 hq9) g_RRef_85 yo_RRef_number ⟨Nat.le_of_ble_eq_true rfl, Nat.le_of_ble_eq_true rfl⟩ hl hP hD [1] rfl rfl hS hA rfl rfl (Nat.le_of_ble_eq_true rfl) ⟨Nat.zero_le _, Nat.zero_le _⟩ d_RRef_learnPart_96 (fun H locs hP hS => ?_)
    refine lv_l2i (v := ((q9).toInt32)) hx hb d_RRef_learnPart_99 rfl ?_
    obtain ⟨b10, hm⟩ := on hm
    refine va_iast hx hb hK hP hD hS 6 2 rfl rfl b10 d_RRef_learnPart_100 (fun H locs hP hD hS => ?_)
    replace hP : va_P D classes (wl_Ref ca ad (s_RpLength (s_RpPosition (s_RpGroup (s_RpNumber g ((g_RpNumber g).1, upd (g_RpNumber g).2 ((g_Rparts g)).toNatClampNeg ((q1).toInt32))) ((g_RpGroup g).1, upd (g_RpGroup g).2 ((g_Rparts g)).toNatClampNeg (((g_Rmedium g).2 (((32 * p1) + 1)).toNatClampNeg) &&& 255))) ((g_RpPosition g).1, vp_updL (g_RpPosition g).2 ((g_Rparts g)).toNatClampNeg q7)) ((g_RpLength g).1, upd (g_RpLength g).2 ((g_Rparts g)).toNatClampNeg ((q9).toInt32)))) H := hP
    replace hD : va_D A (wl_Ref ca ad (s_RpLength (s_RpPosition (s_RpGroup (s_RpNumber g ((g_RpNumber g).1, upd (g_RpNumber g).2 ((g_Rparts g)).toNatClampNeg ((q1).toInt32))) ((g_RpGroup g).1, upd (g_RpGroup g).2 ((g_Rparts g)).toNatClampNeg (((g_Rmedium g).2 (((32 * p1) + 1)).toNatClampNeg) &&& 255))) ((g_RpPosition g).1, vp_updL (g_RpPosition g).2 ((g_Rparts g)).toNatClampNeg q7)) ((g_RpLength g).1, upd (g_RpLength g).2 ((g_Rparts g)).toNatClampNeg ((q9).toInt32)))) := hD
    refine lv_aload_n hx hb d_RRef_learnPart_101 rfl (lv_at hl 2 rfl) ?_
    refine va_get (D := D) (ci := 6) (v := .ref (ad 7)) (C := R_RRef) (T := F_RRef) (N := 29) hx hb hts i_RRef hown hK hP 0 rfl rfl 11 (by decide) (hts _ wf_RRef_38) (fun _ h9 => h9) rfl d_RRef_learnPart_102 ?_
    refine lv_aload_n hx hb d_RRef_learnPart_105 rfl (lv_at hl 2 rfl) ?_
    refine va_get (D := D) (ci := 6) (v := .int (g_Rparts g)) (C := R_RRef) (T := F_RRef) (N := 29) hx hb hts i_RRef hown hK hP 0 rfl rfl 12 (by decide) (hts _ wf_RRef_106) (fun _ h9 => h9) rfl d_RRef_learnPart_106 ?_
    refine lv_iload_n hx hb d_RRef_learnPart_109 rfl (lv_at hl 3 rfl) ?_
    obtain ⟨b11, hm⟩ := on hm
    refine va_iast hx hb hK hP hD hS 7 2 rfl rfl b11 d_RRef_learnPart_110 (fun H locs hP hD hS => ?_)
    replace hP : va_P D classes (wl_Ref ca ad (s_RpRow (s_RpLength (s_RpPosition (s_RpGroup (s_RpNumber g ((g_RpNumber g).1, upd (g_RpNumber g).2 ((g_Rparts g)).toNatClampNeg ((q1).toInt32))) ((g_RpGroup g).1, upd (g_RpGroup g).2 ((g_Rparts g)).toNatClampNeg (((g_Rmedium g).2 (((32 * p1) + 1)).toNatClampNeg) &&& 255))) ((g_RpPosition g).1, vp_updL (g_RpPosition g).2 ((g_Rparts g)).toNatClampNeg q7)) ((g_RpLength g).1, upd (g_RpLength g).2 ((g_Rparts g)).toNatClampNeg ((q9).toInt32))) ((g_RpRow g).1, upd (g_RpRow g).2 ((g_Rparts g)).toNatClampNeg p1))) H := hP
    replace hD : va_D A (wl_Ref ca ad (s_RpRow (s_RpLength (s_RpPosition (s_RpGroup (s_RpNumber g ((g_RpNumber g).1, upd (g_RpNumber g).2 ((g_Rparts g)).toNatClampNeg ((q1).toInt32))) ((g_RpGroup g).1, upd (g_RpGroup g).2 ((g_Rparts g)).toNatClampNeg (((g_Rmedium g).2 (((32 * p1) + 1)).toNatClampNeg) &&& 255))) ((g_RpPosition g).1, vp_updL (g_RpPosition g).2 ((g_Rparts g)).toNatClampNeg q7)) ((g_RpLength g).1, upd (g_RpLength g).2 ((g_Rparts g)).toNatClampNeg ((q9).toInt32))) ((g_RpRow g).1, upd (g_RpRow g).2 ((g_Rparts g)).toNatClampNeg p1))) := hD
    refine lv_aload_n hx hb d_RRef_learnPart_111 rfl (lv_at hl 2 rfl) ?_
    refine lv_dup hx hb d_RRef_learnPart_112 rfl ?_
    refine va_get (D := D) (ci := 6) (v := .int (g_Rparts g)) (C := R_RRef) (T := F_RRef) (N := 29) hx hb hts i_RRef hown hK hP 0 rfl rfl 12 (by decide) (hts _ wf_RRef_106) (fun _ h9 => h9) rfl d_RRef_learnPart_113 ?_
    refine lv_iconst (v := 1) hx hb d_RRef_learnPart_116 (by decide) ?_
    refine lv_iadd hx hb d_RRef_learnPart_117 ?_
    refine va_put (D := D) (ci := 6) (v := .int ((g_Rparts g) + 1)) (ty := .int) (C := R_RRef) (T := F_RRef) (N := 29) hx hb hts i_RRef t_RRef t_RRef_ok n_RRef hown hK hP hD hS 0 rfl rfl 12 (by decide) (hts _ wf_RRef_106) (fun _ h9 => h9) rfl (by decide +kernel) rfl rfl (Nat.le_of_ble_eq_true rfl) d_RRef_learnPart_118 (fun H locs hP hD hS => ?_)
    replace hP : va_P D classes (wl_Ref ca ad (s_Rparts (s_RpRow (s_RpLength (s_RpPosition (s_RpGroup (s_RpNumber g ((g_RpNumber g).1, upd (g_RpNumber g).2 ((g_Rparts g)).toNatClampNeg ((q1).toInt32))) ((g_RpGroup g).1, upd (g_RpGroup g).2 ((g_Rparts g)).toNatClampNeg (((g_Rmedium g).2 (((32 * p1) + 1)).toNatClampNeg) &&& 255))) ((g_RpPosition g).1, vp_updL (g_RpPosition g).2 ((g_Rparts g)).toNatClampNeg q7)) ((g_RpLength g).1, upd (g_RpLength g).2 ((g_Rparts g)).toNatClampNeg ((q9).toInt32))) ((g_RpRow g).1, upd (g_RpRow g).2 ((g_Rparts g)).toNatClampNeg p1)) ((g_Rparts g) + 1))) H := hP
    replace hD : va_D A (wl_Ref ca ad (s_Rparts (s_RpRow (s_RpLength (s_RpPosition (s_RpGroup (s_RpNumber g ((g_RpNumber g).1, upd (g_RpNumber g).2 ((g_Rparts g)).toNatClampNeg ((q1).toInt32))) ((g_RpGroup g).1, upd (g_RpGroup g).2 ((g_Rparts g)).toNatClampNeg (((g_Rmedium g).2 (((32 * p1) + 1)).toNatClampNeg) &&& 255))) ((g_RpPosition g).1, vp_updL (g_RpPosition g).2 ((g_Rparts g)).toNatClampNeg q7)) ((g_RpLength g).1, upd (g_RpLength g).2 ((g_Rparts g)).toNatClampNeg ((q9).toInt32))) ((g_RpRow g).1, upd (g_RpRow g).2 ((g_Rparts g)).toNatClampNeg p1)) ((g_Rparts g) + 1))) := hD
    refine lv_aload_n hx hb d_RRef_learnPart_121 rfl (lv_at hl 2 rfl) ?_
    refine lv_iload_n hx hb d_RRef_learnPart_122 rfl (lv_at hl 0 rfl) ?_
    refine lv_aload_n hx hb d_RRef_learnPart_123 rfl (lv_at hl 2 rfl) ?_
    refine va_get (D := D) (ci := 6) (v := .int (g_RlastPart g)) (C := R_RRef) (T := F_RRef) (N := 29) hx hb hts i_RRef hown hK hP 0 rfl rfl 23 (by decide) (hts _ wf_RRef_147) (fun _ h9 => h9) rfl d_RRef_learnPart_124 ?_
    refine lv_icmp_le (tgt := 134) hx hb d_RRef_learnPart_127 (by decide) (fun c12 => ?_) (fun c12 => ?_)
    · replace hm := ip c12 hm
      refine lv_aload_n hx hb d_RRef_learnPart_134 rfl (lv_at hl 2 rfl) ?_
      refine va_get (D := D) (ci := 6) (v := .int (g_RlastPart g)) (C := R_RRef) (T := F_RRef) (N := 29) hx hb hts i_RRef hown hK hP 0 rfl rfl 23 (by decide) (hts _ wf_RRef_147) (fun _ h9 => h9) rfl d_RRef_learnPart_135 ?_
      refine va_put (D := D) (ci := 6) (v := .int (g_RlastPart g)) (ty := .int) (C := R_RRef) (T := F_RRef) (N := 29) hx hb hts i_RRef t_RRef t_RRef_ok n_RRef hown hK hP hD hS 0 rfl rfl 23 (by decide) (hts _ wf_RRef_147) (fun _ h9 => h9) rfl (by decide +kernel) rfl rfl (Nat.le_of_ble_eq_true rfl) d_RRef_learnPart_138 (fun H locs hP hD hS => ?_)
      replace hP : va_P D classes (wl_Ref ca ad (s_RlastPart (s_Rparts (s_RpRow (s_RpLength (s_RpPosition (s_RpGroup (s_RpNumber g ((g_RpNumber g).1, upd (g_RpNumber g).2 ((g_Rparts g)).toNatClampNeg ((q1).toInt32))) ((g_RpGroup g).1, upd (g_RpGroup g).2 ((g_Rparts g)).toNatClampNeg (((g_Rmedium g).2 (((32 * p1) + 1)).toNatClampNeg) &&& 255))) ((g_RpPosition g).1, vp_updL (g_RpPosition g).2 ((g_Rparts g)).toNatClampNeg q7)) ((g_RpLength g).1, upd (g_RpLength g).2 ((g_Rparts g)).toNatClampNeg ((q9).toInt32))) ((g_RpRow g).1, upd (g_RpRow g).2 ((g_Rparts g)).toNatClampNeg p1)) ((g_Rparts g) + 1)) (g_RlastPart g))) H := hP
      replace hD : va_D A (wl_Ref ca ad (s_RlastPart (s_Rparts (s_RpRow (s_RpLength (s_RpPosition (s_RpGroup (s_RpNumber g ((g_RpNumber g).1, upd (g_RpNumber g).2 ((g_Rparts g)).toNatClampNeg ((q1).toInt32))) ((g_RpGroup g).1, upd (g_RpGroup g).2 ((g_Rparts g)).toNatClampNeg (((g_Rmedium g).2 (((32 * p1) + 1)).toNatClampNeg) &&& 255))) ((g_RpPosition g).1, vp_updL (g_RpPosition g).2 ((g_Rparts g)).toNatClampNeg q7)) ((g_RpLength g).1, upd (g_RpLength g).2 ((g_Rparts g)).toNatClampNeg ((q9).toInt32))) ((g_RpRow g).1, upd (g_RpRow g).2 ((g_Rparts g)).toNatClampNeg p1)) ((g_Rparts g) + 1)) (g_RlastPart g))) := hD
      cases hm
      exact ret_mv X hP hS d_RRef_learnPart_141
    · replace hm := ineg c12 hm
      refine lv_iload_n hx hb d_RRef_learnPart_130 rfl (lv_at hl 0 rfl) ?_
      refine lv_goto (tgt := 138) hx hb d_RRef_learnPart_131 (by decide) ?_
      refine va_put (D := D) (ci := 6) (v := .int ((q1).toInt32)) (ty := .int) (C := R_RRef) (T := F_RRef) (N := 29) hx hb hts i_RRef t_RRef t_RRef_ok n_RRef hown hK hP hD hS 0 rfl rfl 23 (by decide) (hts _ wf_RRef_147) (fun _ h9 => h9) rfl (by decide +kernel) rfl rfl (Nat.le_of_ble_eq_true rfl) d_RRef_learnPart_138 (fun H locs hP hD hS => ?_)
      replace hP : va_P D classes (wl_Ref ca ad (s_RlastPart (s_Rparts (s_RpRow (s_RpLength (s_RpPosition (s_RpGroup (s_RpNumber g ((g_RpNumber g).1, upd (g_RpNumber g).2 ((g_Rparts g)).toNatClampNeg ((q1).toInt32))) ((g_RpGroup g).1, upd (g_RpGroup g).2 ((g_Rparts g)).toNatClampNeg (((g_Rmedium g).2 (((32 * p1) + 1)).toNatClampNeg) &&& 255))) ((g_RpPosition g).1, vp_updL (g_RpPosition g).2 ((g_Rparts g)).toNatClampNeg q7)) ((g_RpLength g).1, upd (g_RpLength g).2 ((g_Rparts g)).toNatClampNeg ((q9).toInt32))) ((g_RpRow g).1, upd (g_RpRow g).2 ((g_Rparts g)).toNatClampNeg p1)) ((g_Rparts g) + 1)) ((q1).toInt32))) H := hP
      replace hD : va_D A (wl_Ref ca ad (s_RlastPart (s_Rparts (s_RpRow (s_RpLength (s_RpPosition (s_RpGroup (s_RpNumber g ((g_RpNumber g).1, upd (g_RpNumber g).2 ((g_Rparts g)).toNatClampNeg ((q1).toInt32))) ((g_RpGroup g).1, upd (g_RpGroup g).2 ((g_Rparts g)).toNatClampNeg (((g_Rmedium g).2 (((32 * p1) + 1)).toNatClampNeg) &&& 255))) ((g_RpPosition g).1, vp_updL (g_RpPosition g).2 ((g_Rparts g)).toNatClampNeg q7)) ((g_RpLength g).1, upd (g_RpLength g).2 ((g_Rparts g)).toNatClampNeg ((q9).toInt32))) ((g_RpRow g).1, upd (g_RpRow g).2 ((g_Rparts g)).toNatClampNeg p1)) ((g_Rparts g) + 1)) ((q1).toInt32))) := hD
      cases hm
      exact ret_mv X hP hS d_RRef_learnPart_141
set_option maxHeartbeats 4000000 in
set_option maxRecDepth 100000 in
theorem c_RRef_entries (l : Launch) (D : va_G) (ca : Nat → ClassId)  (sz : Nat)  (p0 : Int32) (res : Int32) (hm : m_RRef_entries p0 = some res) : Met l y_RRef_entries (cws y_RRef_entries b_RRef_entries 1 (some .int)) (RM 0 0) (PreW D ca ([]) [.int p0] sz) (QRr (.int res) (va_A [] sz)) 0 0 (va_A [] sz) := by
  refine met_ofR (own := R_RRef) (by decide) rfl (Nat.le_of_ble_eq_true rfl) ?_
  intro p e s m below meth c A X hA hP hD ls hl
  obtain ⟨hx, hb, hml, hr, hown, hts, hK, hlocks⟩ := id X
  have hS : va_S A s.heap s.heap [] := va_S.rf
  have hl : lv_has ls 1 [(0, .int p0)] := hl
  unfold m_RRef_entries at hm
  refine lv_iload_n hx hb d_RRef_entries_0 rfl (lv_at hl 0 rfl) ?_
  refine lv_iconst (v := 1) hx hb d_RRef_entries_1 (by decide) ?_
  refine lv_iadd hx hb d_RRef_entries_2 ?_
  refine lv_iconst (v := 2) hx hb d_RRef_entries_3 (by decide) ?_
  refine lv_idiv hx hb d_RRef_entries_4 (by decide) ?_
  cases hm
  exact ret_ri X hS d_RRef_entries_5
set_option maxHeartbeats 4000000 in
set_option maxRecDepth 100000 in
theorem c_RRef_entryAt (l : Launch) (D : va_G) (ca : Nat → ClassId)  (sz : Nat)  (p0 : Int32) (p1 : Int32) (res : Int32) (hm : m_RRef_entryAt p0 p1 = some res) : Met l y_RRef_entryAt (cws y_RRef_entryAt b_RRef_entryAt 2 (some .int)) (RM 0 0) (PreW D ca ([]) [.int p0, .int p1] sz) (QRr (.int res) (va_A [] sz)) 0 0 (va_A [] sz) := by
  refine met_ofR (own := R_RRef) (by decide) rfl (Nat.le_of_ble_eq_true rfl) ?_
  intro p e s m below meth c A X hA hP hD ls hl
  obtain ⟨hx, hb, hml, hr, hown, hts, hK, hlocks⟩ := id X
  have hS : va_S A s.heap s.heap [] := va_S.rf
  have hl : lv_has ls 2 [(0, .int p0), (1, .int p1)] := hl
  unfold m_RRef_entryAt at hm
  refine lv_bipush (v := 32) hx hb d_RRef_entryAt_0 (by decide) ?_
  refine lv_iload_n hx hb d_RRef_entryAt_2 rfl (lv_at hl 0 rfl) ?_
  refine lv_iconst (v := 1) hx hb d_RRef_entryAt_3 (by decide) ?_
  refine lv_iadd hx hb d_RRef_entryAt_4 ?_
  refine lv_iload_n hx hb d_RRef_entryAt_5 rfl (lv_at hl 1 rfl) ?_
  refine lv_iconst (v := 2) hx hb d_RRef_entryAt_6 (by decide) ?_
  refine lv_idiv hx hb d_RRef_entryAt_7 (by decide) ?_
  refine lv_iadd hx hb d_RRef_entryAt_8 ?_
  refine lv_imul hx hb d_RRef_entryAt_9 ?_
  refine lv_iconst (v := 1) hx hb d_RRef_entryAt_10 (by decide) ?_
  refine lv_iadd hx hb d_RRef_entryAt_11 ?_
  refine lv_bipush (v := 14) hx hb d_RRef_entryAt_12 (by decide) ?_
  refine lv_iload_n hx hb d_RRef_entryAt_14 rfl (lv_at hl 1 rfl) ?_
  refine lv_iconst (v := 2) hx hb d_RRef_entryAt_15 (by decide) ?_
  refine lv_irem hx hb d_RRef_entryAt_16 (by decide) ?_
  refine lv_imul hx hb d_RRef_entryAt_17 ?_
  refine lv_iadd hx hb d_RRef_entryAt_18 ?_
  cases hm
  exact ret_ri X hS d_RRef_entryAt_19
set_option maxHeartbeats 4000000 in
set_option maxRecDepth 100000 in
theorem k_m_RRef_markAt_L156 {p : Program} {l : Launch} {e : Env} {s : State} {m : MethodId} {args : Array Value} {below : List Frame} {meth : Method} {c : Code} {D : va_G} {ca : Nat → ClassId} {ad : Nat → Nat} {A : Nat → Prop} (X : Cx p s m args meth c R_RRef b_RRef_markAt 13 (some .int) D ca) (hA : ∀ q, s.heap.size ≤ q → A q) {g : St_Ref} : ∀ (n : Nat) (v1 : Int32) (v5 : Int32) (v6 : Int32) (v7 : Int32) (v8 : Int64) (v10 : Int32) (res : Int32), m_RRef_markAt_L156 g n v1 v5 v6 v7 v8 v10 = some res → ∀ (H : Heap) (locs : List Loc), va_P D classes (wl_Ref ca ad g) H → va_D (fun _ => True) (wl_Ref ca ad g) → va_S A s.heap H locs → ∀ ls : Array Slot, lv_has ls 13 [(0, .ref (ad 0)), (1, .int v1), (5, .int v5), (6, .int v6), (7, .int v7), (8, .long v8), (10, .int v10)] → W p l e (RM 2 48) s m args below meth c H locs 0 0 (MQ below (QRr (.int res) A) args s 0 0 A) (F0 m 156 ls []) := by
  obtain ⟨hx, hb, hml, hr, hown, hts, hK, hlocks⟩ := id X
  intro n
  induction n with
  | zero =>
    intro v1 v5 v6 v7 v8 v10 res hm
    rw [m_RRef_markAt_L156] at hm
    cases hm
  | succ n ih =>
    intro v1 v5 v6 v7 v8 v10 res hm H locs hP hD hS ls hl
    rw [m_RRef_markAt_L156] at hm
    refine lv_iload hx hb d_RRef_markAt_156 (lv_at hl 6 rfl) ?_
    refine lv_iload hx hb d_RRef_markAt_158 (lv_at hl 2 rfl) ?_
    refine lv_icmp_ge (tgt := 218) hx hb d_RRef_markAt_160 (by decide) (fun c6 => ?_) (fun c6 => ?_)
    · replace hm := ip c6 hm
      refine lv_iload hx hb d_RRef_markAt_218 (lv_at hl 4 rfl) ?_
      refine lv_if_eq (tgt := 228) hx hb d_RRef_markAt_220 (by decide) (fun c7 => ?_) (fun c7 => ?_)
      · replace hm := ip c7 hm
        refine lv_iconst (v := 0) hx hb d_RRef_markAt_228 (by decide) ?_
        cases hm
        exact ret_ri X hS d_RRef_markAt_229
      · replace hm := ineg c7 hm
        refine lv_iload hx hb d_RRef_markAt_223 (lv_at hl 3 rfl) ?_
        refine lv_goto (tgt := 229) hx hb d_RRef_markAt_225 (by decide) ?_
        cases hm
        exact ret_ri X hS d_RRef_markAt_229
    · replace hm := ineg c6 hm
      refine lv_iload hx hb d_RRef_markAt_163 (lv_at hl 4 rfl) ?_
      refine lv_if_eq (tgt := 218) hx hb d_RRef_markAt_165 (by decide) (fun c8 => ?_) (fun c8 => ?_)
      · replace hm := ip c8 hm
        refine lv_iload hx hb d_RRef_markAt_218 (lv_at hl 4 rfl) ?_
        refine lv_if_eq (tgt := 228) hx hb d_RRef_markAt_220 (by decide) (fun c9 => ?_) (fun c9 => ?_)
        · replace hm := ip c9 hm
          refine lv_iconst (v := 0) hx hb d_RRef_markAt_228 (by decide) ?_
          cases hm
          exact ret_ri X hS d_RRef_markAt_229
        · replace hm := ineg c9 hm
          refine lv_iload hx hb d_RRef_markAt_223 (lv_at hl 3 rfl) ?_
          refine lv_goto (tgt := 229) hx hb d_RRef_markAt_225 (by decide) ?_
          cases hm
          exact ret_ri X hS d_RRef_markAt_229
      · replace hm := ineg c8 hm
        refine lv_aload_n hx hb d_RRef_markAt_168 rfl (lv_at hl 0 rfl) ?_
        refine va_get (D := D) (ci := 6) (v := .ref (ad 1)) (C := R_RRef) (T := F_RRef) (N := 29) hx hb hts i_RRef hown hK hP 0 rfl rfl 0 (by decide) (hts _ wf_RRef_7) (fun _ h9 => h9) rfl d_RRef_markAt_169 ?_
        refine lv_iload_n hx hb d_RRef_markAt_172 rfl (lv_at hl 1 rfl) ?_
        refine lv_iload hx hb d_RRef_markAt_173 (lv_at hl 6 rfl) ?_
        obtain ⟨q10, hq10, hm⟩ := ob hm
        refine inv_rS (As := [.int v1, .int v10]) (rest := [.ref (ad 1)]) (v := .int q10) X (c_RRef_entryAt l D ca  _ v1 v10 q10 hq10) g_RRef_143 yo_RRef_entryAt ⟨Nat.le_of_ble_eq_true rfl, Nat.le_of_ble_eq_true rfl⟩ hl hP hD [] rfl rfl hS hA rfl rfl (Nat.le_of_ble_eq_true rfl) ⟨Nat.zero_le _, Nat.zero_le _⟩ d_RRef_markAt_175 (fun H locs hP hS => ?_)
        refine lv_iconst (v := 4) hx hb d_RRef_markAt_178 (by decide) ?_
        obtain ⟨q11, hq11, hm⟩ := ob hm
        refine inv_rS (As := [.ref (ad 1), .int q10, .int 4]) (rest := []) (v := .long q11) X (c_RRef_number l D ca (ad 1) _ (g_Rmedium g) q10 4 q11 hq11) g_RRef_85 yo_RRef_number ⟨Nat.le_of_ble_eq_true rfl, Nat.le_of_ble_eq_true rfl⟩ hl hP hD [1] rfl rfl hS hA rfl rfl (Nat.le_of_ble_eq_true rfl) ⟨Nat.zero_le _, Nat.zero_le _⟩ d_RRef_markAt_179 (fun H locs hP hS => ?_)
        refine lv_lstore (lv' := [(11, .long q11), (0, .ref (ad 0)), (1, .int v1), (5, .int v5), (6, .int v6), (7, .int v7), (8, .long v8), (10, .int v10)]) hx hb d_RRef_markAt_182 hl (by decide) rfl (fun ls hl => ?_)
        refine lv_lload hx hb d_RRef_markAt_184 (lv_at hl 0 rfl) ?_
        refine lv_lload hx hb d_RRef_markAt_186 (lv_at hl 6 rfl) ?_
        refine W.lcmp hx hb d_RRef_markAt_188 ?_
        refine lv_if_le (tgt := 205) hx hb d_RRef_markAt_189 (by decide) (fun c12 => ?_) (fun c12 => ?_)
        · replace hm := ip c12 hm
          refine lv_iconst (v := 0) hx hb d_RRef_markAt_205 (by decide) ?_
          refine lv_istore (lv' := [(7, .int 0), (11, .long q11), (0, .ref (ad 0)), (1, .int v1), (5, .int v5), (6, .int v6), (8, .long v8), (10, .int v10)]) hx hb d_RRef_markAt_206 hl (by decide) rfl (fun ls hl => ?_)
          refine lv_lload hx hb d_RRef_markAt_208 (lv_at hl 1 rfl) ?_
          refine lv_lstore (lv' := [(8, .long q11), (7, .int 0), (11, .long q11), (0, .ref (ad 0)), (1, .int v1), (5, .int v5), (6, .int v6), (10, .int v10)]) hx hb d_RRef_markAt_210 hl (by decide) rfl (fun ls hl => ?_)
          refine lv_iinc (v := (v10 + 1)) (lv' := [(10, .int (v10 + 1)), (8, .long q11), (7, .int 0), (11, .long q11), (0, .ref (ad 0)), (1, .int v1), (5, .int v5), (6, .int v6)]) hx hb d_RRef_markAt_212 hl (k := 7) rfl rfl (by decide) rfl (fun ls hl => ?_)
          refine lv_goto (tgt := 156) hx hb d_RRef_markAt_215 (by decide) ?_
          exact ih  v1 v5 v6 0 q11 (v10 + 1) _ hm _ _ hP hD hS ls (lv_sub hl [4, 5, 6, 7, 2, 1, 0] rfl)
        · replace hm := ineg c12 hm
          refine lv_lload hx hb d_RRef_markAt_192 (lv_at hl 0 rfl) ?_
          refine lv_ldc2 hx hb hown (hts _ wc_RRef_135) d_RRef_markAt_194 ?_
          refine W.lcmp hx hb d_RRef_markAt_197 ?_
          refine lv_if_gt (tgt := 205) hx hb d_RRef_markAt_198 (by decide) (fun c13 => ?_) (fun c13 => ?_)
          · replace hm := ip c13 hm
            refine lv_iconst (v := 0) hx hb d_RRef_markAt_205 (by decide) ?_
            refine lv_istore (lv' := [(7, .int 0), (11, .long q11), (0, .ref (ad 0)), (1, .int v1), (5, .int v5), (6, .int v6), (8, .long v8), (10, .int v10)]) hx hb d_RRef_markAt_206 hl (by decide) rfl (fun ls hl => ?_)
            refine lv_lload hx hb d_RRef_markAt_208 (lv_at hl 1 rfl) ?_
            refine lv_lstore (lv' := [(8, .long q11), (7, .int 0), (11, .long q11), (0, .ref (ad 0)), (1, .int v1), (5, .int v5), (6, .int v6), (10, .int v10)]) hx hb d_RRef_markAt_210 hl (by decide) rfl (fun ls hl => ?_)
            refine lv_iinc (v := (v10 + 1)) (lv' := [(10, .int (v10 + 1)), (8, .long q11), (7, .int 0), (11, .long q11), (0, .ref (ad 0)), (1, .int v1), (5, .int v5), (6, .int v6)]) hx hb d_RRef_markAt_212 hl (k := 7) rfl rfl (by decide) rfl (fun ls hl => ?_)
            refine lv_goto (tgt := 156) hx hb d_RRef_markAt_215 (by decide) ?_
            exact ih  v1 v5 v6 0 q11 (v10 + 1) _ hm _ _ hP hD hS ls (lv_sub hl [4, 5, 6, 7, 2, 1, 0] rfl)
          · replace hm := ineg c13 hm
            refine lv_iconst (v := 1) hx hb d_RRef_markAt_201 (by decide) ?_
            refine lv_goto (tgt := 206) hx hb d_RRef_markAt_202 (by decide) ?_
            refine lv_istore (lv' := [(7, .int 1), (11, .long q11), (0, .ref (ad 0)), (1, .int v1), (5, .int v5), (6, .int v6), (8, .long v8), (10, .int v10)]) hx hb d_RRef_markAt_206 hl (by decide) rfl (fun ls hl => ?_)
            refine lv_lload hx hb d_RRef_markAt_208 (lv_at hl 1 rfl) ?_
            refine lv_lstore (lv' := [(8, .long q11), (7, .int 1), (11, .long q11), (0, .ref (ad 0)), (1, .int v1), (5, .int v5), (6, .int v6), (10, .int v10)]) hx hb d_RRef_markAt_210 hl (by decide) rfl (fun ls hl => ?_)
            refine lv_iinc (v := (v10 + 1)) (lv' := [(10, .int (v10 + 1)), (8, .long q11), (7, .int 1), (11, .long q11), (0, .ref (ad 0)), (1, .int v1), (5, .int v5), (6, .int v6)]) hx hb d_RRef_markAt_212 hl (k := 7) rfl rfl (by decide) rfl (fun ls hl => ?_)
            refine lv_goto (tgt := 156) hx hb d_RRef_markAt_215 (by decide) ?_
            exact ih  v1 v5 v6 1 q11 (v10 + 1) _ hm _ _ hP hD hS ls (lv_sub hl [4, 5, 6, 7, 2, 1, 0] rfl)
set_option maxHeartbeats 4000000 in
set_option maxRecDepth 100000 in
theorem c_RRef_markAt (l : Launch) (D : va_G) (ca : Nat → ClassId) (ad : Nat → Nat) (sz : Nat) (g : St_Ref) (p1 : Int32) (res : Int32) (hm : m_RRef_markAt g p1 = some res) : Met l y_RRef_markAt (cws y_RRef_markAt b_RRef_markAt 13 (some .int)) (RM 2 48) (PreW D ca (wl_Ref ca ad g) [.ref (ad 0), .int p1] sz) (QRr (.int res) (va_A [] sz)) 0 0 (va_A [] sz) := by
  refine met_ofR (own := R_RRef) (by decide) rfl (Nat.le_of_ble_eq_true rfl) ?_
  intro p e s m below meth c A X hA hP hD ls hl
  obtain ⟨hx, hb, hml, hr, hown, hts, hK, hlocks⟩ := id X
  have hS : va_S A s.heap s.heap [] := va_S.rf
  have hl : lv_has ls 13 [(0, .ref (ad 0)), (1, .int p1)] := hl
  unfold m_RRef_markAt at hm
  refine lv_bipush (v := 32) hx hb d_RRef_markAt_0 (by decide) ?_
  refine lv_iload_n hx hb d_RRef_markAt_2 rfl (lv_at hl 1 rfl) ?_
  refine lv_imul hx hb d_RRef_markAt_3 ?_
  refine lv_istore_n (lv' := [(2, .int (32 * p1)), (0, .ref (ad 0)), (1, .int p1)]) hx hb d_RRef_markAt_4 rfl hl (by decide) rfl (fun ls hl => ?_)
  refine lv_aload_n hx hb d_RRef_markAt_5 rfl (lv_at hl 1 rfl) ?_
  refine va_get (D := D) (ci := 6) (v := .ref (ad 1)) (C := R_RRef) (T := F_RRef) (N := 29) hx hb hts i_RRef hown hK hP 0 rfl rfl 0 (by decide) (hts _ wf_RRef_7) (fun _ h9 => h9) rfl d_RRef_markAt_6 ?_
  refine lv_iload_n hx hb d_RRef_markAt_9 rfl (lv_at hl 0 rfl) ?_
  refine lv_iconst (v := 4) hx hb d_RRef_markAt_10 (by decide) ?_
  refine lv_iadd hx hb d_RRef_markAt_11 ?_
  refine lv_iconst (v := 4) hx hb d_RRef_markAt_12 (by decide) ?_
  obtain ⟨q1, hq1, hm⟩ := ob hm
  refine inv_rS (As := [.ref (ad 1), .int ((32 * p1) + 4), .int 4]) (rest := []) (v := .long q1) X (c_RRef_number l D ca (ad 1) _ (g_Rmedium g) ((32 * p1) + 4) 4 q1 hq1) g_RRef_85 yo_RRef_number ⟨Nat.le_of_ble_eq_true rfl, Nat.le_of_ble_eq_true rfl⟩ hl hP hD [1] rfl rfl hS hA rfl rfl (Nat.le_of_ble_eq_true rfl) ⟨Nat.zero_le _, Nat.zero_le _⟩ d_RRef_markAt_13 (fun H locs hP hS => ?_)
  refine lv_lstore_n (lv' := [(3, .long q1), (2, .int (32 * p1)), (0, .ref (ad 0)), (1, .int p1)]) hx hb d_RRef_markAt_16 rfl hl (by decide) rfl (fun ls hl => ?_)
  refine lv_aload_n hx hb d_RRef_markAt_17 rfl (lv_at hl 2 rfl) ?_
  refine va_get (D := D) (ci := 6) (v := .ref (ad 1)) (C := R_RRef) (T := F_RRef) (N := 29) hx hb hts i_RRef hown hK hP 0 rfl rfl 0 (by decide) (hts _ wf_RRef_7) (fun _ h9 => h9) rfl d_RRef_markAt_18 ?_
  refine lv_iload_n hx hb d_RRef_markAt_21 rfl (lv_at hl 1 rfl) ?_
  refine lv_iconst (v := 1) hx hb d_RRef_markAt_22 (by decide) ?_
  refine lv_iadd hx hb d_RRef_markAt_23 ?_
  obtain ⟨b2, hm⟩ := on hm
  refine va_bald hx hb hK hP 1 0 rfl rfl b2 d_RRef_markAt_24 ?_
  refine lv_sipush (v := 255) hx hb d_RRef_markAt_25 (by decide) ?_
  refine lv_iand hx hb d_RRef_markAt_28 ?_
  refine lv_istore (lv' := [(5, .int (((g_Rmedium g).2 (((32 * p1) + 1)).toNatClampNeg) &&& 255)), (3, .long q1), (2, .int (32 * p1)), (0, .ref (ad 0)), (1, .int p1)]) hx hb d_RRef_markAt_29 hl (by decide) rfl (fun ls hl => ?_)
  refine lv_iconst (v := 1) hx hb d_RRef_markAt_31 (by decide) ?_
  refine lv_iload hx hb d_RRef_markAt_32 (lv_at hl 0 rfl) ?_
  obtain ⟨q3, hq3, hm⟩ := ob hm
  refine inv_rS (As := [.int (((g_Rmedium g).2 (((32 * p1) + 1)).toNatClampNeg) &&& 255)]) (rest := [.int 1]) (v := .int q3) X (c_RRef_entries l D ca  _ (((g_Rmedium g).2 (((32 * p1) + 1)).toNatClampNeg) &&& 255) q3 hq3) g_RRef_116 yo_RRef_entries ⟨Nat.le_of_ble_eq_true rfl, Nat.le_of_ble_eq_true rfl⟩ hl hP hD [] rfl rfl hS hA rfl rfl (Nat.le_of_ble_eq_true rfl) ⟨Nat.zero_le _, Nat.zero_le _⟩ d_RRef_markAt_34 (fun H locs hP hS => ?_)
  refine lv_iadd hx hb d_RRef_markAt_37 ?_
  refine lv_istore (lv' := [(6, .int (1 + q3)), (5, .int (((g_Rmedium g).2 (((32 * p1) + 1)).toNatClampNeg) &&& 255)), (3, .long q1), (2, .int (32 * p1)), (0, .ref (ad 0)), (1, .int p1)]) hx hb d_RRef_markAt_38 hl (by decide) rfl (fun ls hl => ?_)
  refine lv_aload_n hx hb d_RRef_markAt_40 rfl (lv_at hl 4 rfl) ?_
  refine lv_iload_n hx hb d_RRef_markAt_41 rfl (lv_at hl 5 rfl) ?_
  obtain ⟨q4, hq4, hm⟩ := ob hm
  refine inv_rVa (C := R_RRef) (As := [.int p1]) (rest := []) (v := .int q4) X (c_RRef_kind l D ca ad _ g p1 q4 hq4) g_RRef_119 yo_RRef_kind ⟨Nat.le_of_ble_eq_true rfl, Nat.le_of_ble_eq_true rfl⟩ hl hP hD (ci := 6) rfl rfl hS hA rfl rfl (Nat.le_of_ble_eq_true rfl) ⟨Nat.zero_le _, Nat.zero_le _⟩ d_RRef_markAt_42 (fun H locs hP hS => ?_)
  refine lv_iconst (v := 2) hx hb d_RRef_markAt_45 (by decide) ?_
  refine lv_icmp_ne (tgt := 99) hx hb d_RRef_markAt_46 (by decide) (fun c5 => ?_) (fun c5 => ?_)
  · replace hm := ineg c5 hm
    refine lv_iconst (v := 0) hx hb d_RRef_markAt_99 (by decide) ?_
    refine lv_istore (lv' := [(7, .int 0), (6, .int (1 + q3)), (5, .int (((g_Rmedium g).2 (((32 * p1) + 1)).toNatClampNeg) &&& 255)), (3, .long q1), (2, .int (32 * p1)), (0, .ref (ad 0)), (1, .int p1)]) hx hb d_RRef_markAt_100 hl (by decide) rfl (fun ls hl => ?_)
    refine lv_iload hx hb d_RRef_markAt_102 (lv_at hl 0 rfl) ?_
    refine lv_if_eq (tgt := 147) hx hb d_RRef_markAt_104 (by decide) (fun _ => ?_) (fun h9 => absurd h9 (by decide))
    refine lv_iconst (v := 0) hx hb d_RRef_markAt_147 (by decide) ?_
    refine lv_istore (lv' := [(7, .int 0), (6, .int (1 + q3)), (5, .int (((g_Rmedium g).2 (((32 * p1) + 1)).toNatClampNeg) &&& 255)), (3, .long q1), (2, .int (32 * p1)), (0, .ref (ad 0)), (1, .int p1)]) hx hb d_RRef_markAt_148 hl (by decide) rfl (fun ls hl => ?_)
    refine lv_lconst (v := 0) hx hb d_RRef_markAt_150 (by decide) ?_
    refine lv_lstore (lv' := [(8, .long 0), (7, .int 0), (6, .int (1 + q3)), (5, .int (((g_Rmedium g).2 (((32 * p1) + 1)).toNatClampNeg) &&& 255)), (3, .long q1), (2, .int (32 * p1)), (0, .ref (ad 0)), (1, .int p1)]) hx hb d_RRef_markAt_151 hl (by decide) rfl (fun ls hl => ?_)
    refine lv_iconst (v := 0) hx hb d_RRef_markAt_153 (by decide) ?_
    refine lv_istore (lv' := [(10, .int 0), (8, .long 0), (7, .int 0), (6, .int (1 + q3)), (5, .int (((g_Rmedium g).2 (((32 * p1) + 1)).toNatClampNeg) &&& 255)), (3, .long q1), (2, .int (32 * p1)), (0, .ref (ad 0)), (1, .int p1)]) hx hb d_RRef_markAt_154 hl (by decide) rfl (fun ls hl => ?_)
    exact k_m_RRef_markAt_L156 X hA FU  p1 (((g_Rmedium g).2 (((32 * p1) + 1)).toNatClampNeg) &&& 255) (1 + q3) 0 0 0 _ hm _ _ hP hD hS ls (lv_sub hl [7, 8, 4, 3, 2, 1, 0] rfl)
  · replace hm := ip c5 hm
    refine lv_aload_n hx hb d_RRef_markAt_49 rfl (lv_at hl 4 rfl) ?_
    refine lv_iload_n hx hb d_RRef_markAt_50 rfl (lv_at hl 5 rfl) ?_
    obtain ⟨q14, hq14, hm⟩ := ob hm
    refine inv_rVa (C := R_RRef) (As := [.int p1]) (rest := []) (v := .int q14) X (c_RRef_isSummed l D ca ad _ g p1 q14 hq14) g_RRef_122 yo_RRef_isSummed ⟨Nat.le_of_ble_eq_true rfl, Nat.le_of_ble_eq_true rfl⟩ hl hP hD (ci := 6) rfl rfl hS hA rfl rfl (Nat.le_of_ble_eq_true rfl) ⟨Nat.zero_le _, Nat.zero_le _⟩ d_RRef_markAt_51 (fun H locs hP hS => ?_)
    refine lv_if_eq (tgt := 99) hx hb d_RRef_markAt_54 (by decide) (fun c15 => ?_) (fun c15 => ?_)
    · replace hm := ip c15 hm
      refine lv_iconst (v := 0) hx hb d_RRef_markAt_99 (by decide) ?_
      refine lv_istore (lv' := [(7, .int 0), (6, .int (1 + q3)), (5, .int (((g_Rmedium g).2 (((32 * p1) + 1)).toNatClampNeg) &&& 255)), (3, .long q1), (2, .int (32 * p1)), (0, .ref (ad 0)), (1, .int p1)]) hx hb d_RRef_markAt_100 hl (by decide) rfl (fun ls hl => ?_)
      refine lv_iload hx hb d_RRef_markAt_102 (lv_at hl 0 rfl) ?_
      refine lv_if_eq (tgt := 147) hx hb d_RRef_markAt_104 (by decide) (fun _ => ?_) (fun h9 => absurd h9 (by decide))
      refine lv_iconst (v := 0) hx hb d_RRef_markAt_147 (by decide) ?_
      refine lv_istore (lv' := [(7, .int 0), (6, .int (1 + q3)), (5, .int (((g_Rmedium g).2 (((32 * p1) + 1)).toNatClampNeg) &&& 255)), (3, .long q1), (2, .int (32 * p1)), (0, .ref (ad 0)), (1, .int p1)]) hx hb d_RRef_markAt_148 hl (by decide) rfl (fun ls hl => ?_)
      refine lv_lconst (v := 0) hx hb d_RRef_markAt_150 (by decide) ?_
      refine lv_lstore (lv' := [(8, .long 0), (7, .int 0), (6, .int (1 + q3)), (5, .int (((g_Rmedium g).2 (((32 * p1) + 1)).toNatClampNeg) &&& 255)), (3, .long q1), (2, .int (32 * p1)), (0, .ref (ad 0)), (1, .int p1)]) hx hb d_RRef_markAt_151 hl (by decide) rfl (fun ls hl => ?_)
      refine lv_iconst (v := 0) hx hb d_RRef_markAt_153 (by decide) ?_
      refine lv_istore (lv' := [(10, .int 0), (8, .long 0), (7, .int 0), (6, .int (1 + q3)), (5, .int (((g_Rmedium g).2 (((32 * p1) + 1)).toNatClampNeg) &&& 255)), (3, .long q1), (2, .int (32 * p1)), (0, .ref (ad 0)), (1, .int p1)]) hx hb d_RRef_markAt_154 hl (by decide) rfl (fun ls hl => ?_)
      exact k_m_RRef_markAt_L156 X hA FU  p1 (((g_Rmedium g).2 (((32 * p1) + 1)).toNatClampNeg) &&& 255) (1 + q3) 0 0 0 _ hm _ _ hP hD hS ls (lv_sub hl [7, 8, 4, 3, 2, 1, 0] rfl)
    · replace hm := ineg c15 hm
      refine lv_iload hx hb d_RRef_markAt_57 (lv_at hl 1 rfl) ?_
      refine lv_iconst (v := 1) hx hb d_RRef_markAt_59 (by decide) ?_
      refine lv_icmp_lt (tgt := 99) hx hb d_RRef_markAt_60 (by decide) (fun c16 => ?_) (fun c16 => ?_)
      · replace hm := ip c16 hm
        refine lv_iconst (v := 0) hx hb d_RRef_markAt_99 (by decide) ?_
        refine lv_istore (lv' := [(7, .int 0), (6, .int (1 + q3)), (5, .int (((g_Rmedium g).2 (((32 * p1) + 1)).toNatClampNeg) &&& 255)), (3, .long q1), (2, .int (32 * p1)), (0, .ref (ad 0)), (1, .int p1)]) hx hb d_RRef_markAt_100 hl (by decide) rfl (fun ls hl => ?_)
        refine lv_iload hx hb d_RRef_markAt_102 (lv_at hl 0 rfl) ?_
        refine lv_if_eq (tgt := 147) hx hb d_RRef_markAt_104 (by decide) (fun _ => ?_) (fun h9 => absurd h9 (by decide))
        refine lv_iconst (v := 0) hx hb d_RRef_markAt_147 (by decide) ?_
        refine lv_istore (lv' := [(7, .int 0), (6, .int (1 + q3)), (5, .int (((g_Rmedium g).2 (((32 * p1) + 1)).toNatClampNeg) &&& 255)), (3, .long q1), (2, .int (32 * p1)), (0, .ref (ad 0)), (1, .int p1)]) hx hb d_RRef_markAt_148 hl (by decide) rfl (fun ls hl => ?_)
        refine lv_lconst (v := 0) hx hb d_RRef_markAt_150 (by decide) ?_
        refine lv_lstore (lv' := [(8, .long 0), (7, .int 0), (6, .int (1 + q3)), (5, .int (((g_Rmedium g).2 (((32 * p1) + 1)).toNatClampNeg) &&& 255)), (3, .long q1), (2, .int (32 * p1)), (0, .ref (ad 0)), (1, .int p1)]) hx hb d_RRef_markAt_151 hl (by decide) rfl (fun ls hl => ?_)
        refine lv_iconst (v := 0) hx hb d_RRef_markAt_153 (by decide) ?_
        refine lv_istore (lv' := [(10, .int 0), (8, .long 0), (7, .int 0), (6, .int (1 + q3)), (5, .int (((g_Rmedium g).2 (((32 * p1) + 1)).toNatClampNeg) &&& 255)), (3, .long q1), (2, .int (32 * p1)), (0, .ref (ad 0)), (1, .int p1)]) hx hb d_RRef_markAt_154 hl (by decide) rfl (fun ls hl => ?_)
        exact k_m_RRef_markAt_L156 X hA FU  p1 (((g_Rmedium g).2 (((32 * p1) + 1)).toNatClampNeg) &&& 255) (1 + q3) 0 0 0 _ hm _ _ hP hD hS ls (lv_sub hl [7, 8, 4, 3, 2, 1, 0] rfl)
      · replace hm := ineg c16 hm
        refine lv_iload hx hb d_RRef_markAt_63 (lv_at hl 1 rfl) ?_
        refine lv_bipush (v := 12) hx hb d_RRef_markAt_65 (by decide) ?_
        refine lv_icmp_gt (tgt := 99) hx hb d_RRef_markAt_67 (by decide) (fun c17 => ?_) (fun c17 => ?_)
        · replace hm := ip c17 hm
          refine lv_iconst (v := 0) hx hb d_RRef_markAt_99 (by decide) ?_
          refine lv_istore (lv' := [(7, .int 0), (6, .int (1 + q3)), (5, .int (((g_Rmedium g).2 (((32 * p1) + 1)).toNatClampNeg) &&& 255)), (3, .long q1), (2, .int (32 * p1)), (0, .ref (ad 0)), (1, .int p1)]) hx hb d_RRef_markAt_100 hl (by decide) rfl (fun ls hl => ?_)
          refine lv_iload hx hb d_RRef_markAt_102 (lv_at hl 0 rfl) ?_
          refine lv_if_eq (tgt := 147) hx hb d_RRef_markAt_104 (by decide) (fun _ => ?_) (fun h9 => absurd h9 (by decide))
          refine lv_iconst (v := 0) hx hb d_RRef_markAt_147 (by decide) ?_
          refine lv_istore (lv' := [(7, .int 0), (6, .int (1 + q3)), (5, .int (((g_Rmedium g).2 (((32 * p1) + 1)).toNatClampNeg) &&& 255)), (3, .long q1), (2, .int (32 * p1)), (0, .ref (ad 0)), (1, .int p1)]) hx hb d_RRef_markAt_148 hl (by decide) rfl (fun ls hl => ?_)
          refine lv_lconst (v := 0) hx hb d_RRef_markAt_150 (by decide) ?_
          refine lv_lstore (lv' := [(8, .long 0), (7, .int 0), (6, .int (1 + q3)), (5, .int (((g_Rmedium g).2 (((32 * p1) + 1)).toNatClampNeg) &&& 255)), (3, .long q1), (2, .int (32 * p1)), (0, .ref (ad 0)), (1, .int p1)]) hx hb d_RRef_markAt_151 hl (by decide) rfl (fun ls hl => ?_)
          refine lv_iconst (v := 0) hx hb d_RRef_markAt_153 (by decide) ?_
          refine lv_istore (lv' := [(10, .int 0), (8, .long 0), (7, .int 0), (6, .int (1 + q3)), (5, .int (((g_Rmedium g).2 (((32 * p1) + 1)).toNatClampNeg) &&& 255)), (3, .long q1), (2, .int (32 * p1)), (0, .ref (ad 0)), (1, .int p1)]) hx hb d_RRef_markAt_154 hl (by decide) rfl (fun ls hl => ?_)
          exact k_m_RRef_markAt_L156 X hA FU  p1 (((g_Rmedium g).2 (((32 * p1) + 1)).toNatClampNeg) &&& 255) (1 + q3) 0 0 0 _ hm _ _ hP hD hS ls (lv_sub hl [7, 8, 4, 3, 2, 1, 0] rfl)
        · replace hm := ineg c17 hm
          refine lv_lload_n hx hb d_RRef_markAt_70 rfl (lv_at hl 2 rfl) ?_
          refine lv_lconst (v := 1) hx hb d_RRef_markAt_71 (by decide) ?_
          refine W.lcmp hx hb d_RRef_markAt_72 ?_
          refine lv_if_lt (tgt := 99) hx hb d_RRef_markAt_73 (by decide) (fun c18 => ?_) (fun c18 => ?_)
          · replace hm := ip c18 hm
            refine lv_iconst (v := 0) hx hb d_RRef_markAt_99 (by decide) ?_
            refine lv_istore (lv' := [(7, .int 0), (6, .int (1 + q3)), (5, .int (((g_Rmedium g).2 (((32 * p1) + 1)).toNatClampNeg) &&& 255)), (3, .long q1), (2, .int (32 * p1)), (0, .ref (ad 0)), (1, .int p1)]) hx hb d_RRef_markAt_100 hl (by decide) rfl (fun ls hl => ?_)
            refine lv_iload hx hb d_RRef_markAt_102 (lv_at hl 0 rfl) ?_
            refine lv_if_eq (tgt := 147) hx hb d_RRef_markAt_104 (by decide) (fun _ => ?_) (fun h9 => absurd h9 (by decide))
            refine lv_iconst (v := 0) hx hb d_RRef_markAt_147 (by decide) ?_
            refine lv_istore (lv' := [(7, .int 0), (6, .int (1 + q3)), (5, .int (((g_Rmedium g).2 (((32 * p1) + 1)).toNatClampNeg) &&& 255)), (3, .long q1), (2, .int (32 * p1)), (0, .ref (ad 0)), (1, .int p1)]) hx hb d_RRef_markAt_148 hl (by decide) rfl (fun ls hl => ?_)
            refine lv_lconst (v := 0) hx hb d_RRef_markAt_150 (by decide) ?_
            refine lv_lstore (lv' := [(8, .long 0), (7, .int 0), (6, .int (1 + q3)), (5, .int (((g_Rmedium g).2 (((32 * p1) + 1)).toNatClampNeg) &&& 255)), (3, .long q1), (2, .int (32 * p1)), (0, .ref (ad 0)), (1, .int p1)]) hx hb d_RRef_markAt_151 hl (by decide) rfl (fun ls hl => ?_)
            refine lv_iconst (v := 0) hx hb d_RRef_markAt_153 (by decide) ?_
            refine lv_istore (lv' := [(10, .int 0), (8, .long 0), (7, .int 0), (6, .int (1 + q3)), (5, .int (((g_Rmedium g).2 (((32 * p1) + 1)).toNatClampNeg) &&& 255)), (3, .long q1), (2, .int (32 * p1)), (0, .ref (ad 0)), (1, .int p1)]) hx hb d_RRef_markAt_154 hl (by decide) rfl (fun ls hl => ?_)
            exact k_m_RRef_markAt_L156 X hA FU  p1 (((g_Rmedium g).2 (((32 * p1) + 1)).toNatClampNeg) &&& 255) (1 + q3) 0 0 0 _ hm _ _ hP hD hS ls (lv_sub hl [7, 8, 4, 3, 2, 1, 0] rfl)
          · replace hm := ineg c18 hm
            refine lv_lload_n hx hb d_RRef_markAt_76 rfl (lv_at hl 2 rfl) ?_
            refine lv_ldc2 hx hb hown (hts _ wc_RRef_135) d_RRef_markAt_77 ?_
            refine W.lcmp hx hb d_RRef_markAt_80 ?_
            refine lv_if_gt (tgt := 99) hx hb d_RRef_markAt_81 (by decide) (fun c19 => ?_) (fun c19 => ?_)
            · replace hm := ip c19 hm
              refine lv_iconst (v := 0) hx hb d_RRef_markAt_99 (by decide) ?_
              refine lv_istore (lv' := [(7, .int 0), (6, .int (1 + q3)), (5, .int (((g_Rmedium g).2 (((32 * p1) + 1)).toNatClampNeg) &&& 255)), (3, .long q1), (2, .int (32 * p1)), (0, .ref (ad 0)), (1, .int p1)]) hx hb d_RRef_markAt_100 hl (by decide) rfl (fun ls hl => ?_)
              refine lv_iload hx hb d_RRef_markAt_102 (lv_at hl 0 rfl) ?_
              refine lv_if_eq (tgt := 147) hx hb d_RRef_markAt_104 (by decide) (fun _ => ?_) (fun h9 => absurd h9 (by decide))
              refine lv_iconst (v := 0) hx hb d_RRef_markAt_147 (by decide) ?_
              refine lv_istore (lv' := [(7, .int 0), (6, .int (1 + q3)), (5, .int (((g_Rmedium g).2 (((32 * p1) + 1)).toNatClampNeg) &&& 255)), (3, .long q1), (2, .int (32 * p1)), (0, .ref (ad 0)), (1, .int p1)]) hx hb d_RRef_markAt_148 hl (by decide) rfl (fun ls hl => ?_)
              refine lv_lconst (v := 0) hx hb d_RRef_markAt_150 (by decide) ?_
              refine lv_lstore (lv' := [(8, .long 0), (7, .int 0), (6, .int (1 + q3)), (5, .int (((g_Rmedium g).2 (((32 * p1) + 1)).toNatClampNeg) &&& 255)), (3, .long q1), (2, .int (32 * p1)), (0, .ref (ad 0)), (1, .int p1)]) hx hb d_RRef_markAt_151 hl (by decide) rfl (fun ls hl => ?_)
              refine lv_iconst (v := 0) hx hb d_RRef_markAt_153 (by decide) ?_
              refine lv_istore (lv' := [(10, .int 0), (8, .long 0), (7, .int 0), (6, .int (1 + q3)), (5, .int (((g_Rmedium g).2 (((32 * p1) + 1)).toNatClampNeg) &&& 255)), (3, .long q1), (2, .int (32 * p1)), (0, .ref (ad 0)), (1, .int p1)]) hx hb d_RRef_markAt_154 hl (by decide) rfl (fun ls hl => ?_)
              exact k_m_RRef_markAt_L156 X hA FU  p1 (((g_Rmedium g).2 (((32 * p1) + 1)).toNatClampNeg) &&& 255) (1 + q3) 0 0 0 _ hm _ _ hP hD hS ls (lv_sub hl [7, 8, 4, 3, 2, 1, 0] rfl)
            · replace hm := ineg c19 hm
              refine lv_iload_n hx hb d_RRef_markAt_84 rfl (lv_at hl 5 rfl) ?_
              refine lv_iload hx hb d_RRef_markAt_85 (lv_at hl 0 rfl) ?_
              refine lv_iadd hx hb d_RRef_markAt_87 ?_
              refine lv_aload_n hx hb d_RRef_markAt_88 rfl (lv_at hl 4 rfl) ?_
              refine va_get (D := D) (ci := 6) (v := .int (g_Rrows g)) (C := R_RRef) (T := F_RRef) (N := 29) hx hb hts i_RRef hown hK hP 0 rfl rfl 1 (by decide) (hts _ wf_RRef_78) (fun _ h9 => h9) rfl d_RRef_markAt_89 ?_
              refine lv_icmp_gt (tgt := 99) hx hb d_RRef_markAt_92 (by decide) (fun c20 => ?_) (fun c20 => ?_)
              · replace hm := ip c20 hm
                refine lv_iconst (v := 0) hx hb d_RRef_markAt_99 (by decide) ?_
                refine lv_istore (lv' := [(7, .int 0), (6, .int (1 + q3)), (5, .int (((g_Rmedium g).2 (((32 * p1) + 1)).toNatClampNeg) &&& 255)), (3, .long q1), (2, .int (32 * p1)), (0, .ref (ad 0)), (1, .int p1)]) hx hb d_RRef_markAt_100 hl (by decide) rfl (fun ls hl => ?_)
                refine lv_iload hx hb d_RRef_markAt_102 (lv_at hl 0 rfl) ?_
                refine lv_if_eq (tgt := 147) hx hb d_RRef_markAt_104 (by decide) (fun _ => ?_) (fun h9 => absurd h9 (by decide))
                refine lv_iconst (v := 0) hx hb d_RRef_markAt_147 (by decide) ?_
                refine lv_istore (lv' := [(7, .int 0), (6, .int (1 + q3)), (5, .int (((g_Rmedium g).2 (((32 * p1) + 1)).toNatClampNeg) &&& 255)), (3, .long q1), (2, .int (32 * p1)), (0, .ref (ad 0)), (1, .int p1)]) hx hb d_RRef_markAt_148 hl (by decide) rfl (fun ls hl => ?_)
                refine lv_lconst (v := 0) hx hb d_RRef_markAt_150 (by decide) ?_
                refine lv_lstore (lv' := [(8, .long 0), (7, .int 0), (6, .int (1 + q3)), (5, .int (((g_Rmedium g).2 (((32 * p1) + 1)).toNatClampNeg) &&& 255)), (3, .long q1), (2, .int (32 * p1)), (0, .ref (ad 0)), (1, .int p1)]) hx hb d_RRef_markAt_151 hl (by decide) rfl (fun ls hl => ?_)
                refine lv_iconst (v := 0) hx hb d_RRef_markAt_153 (by decide) ?_
                refine lv_istore (lv' := [(10, .int 0), (8, .long 0), (7, .int 0), (6, .int (1 + q3)), (5, .int (((g_Rmedium g).2 (((32 * p1) + 1)).toNatClampNeg) &&& 255)), (3, .long q1), (2, .int (32 * p1)), (0, .ref (ad 0)), (1, .int p1)]) hx hb d_RRef_markAt_154 hl (by decide) rfl (fun ls hl => ?_)
                exact k_m_RRef_markAt_L156 X hA FU  p1 (((g_Rmedium g).2 (((32 * p1) + 1)).toNatClampNeg) &&& 255) (1 + q3) 0 0 0 _ hm _ _ hP hD hS ls (lv_sub hl [7, 8, 4, 3, 2, 1, 0] rfl)
              · replace hm := ineg c20 hm
                refine lv_iconst (v := 1) hx hb d_RRef_markAt_95 (by decide) ?_
                refine lv_goto (tgt := 100) hx hb d_RRef_markAt_96 (by decide) ?_
                refine lv_istore (lv' := [(7, .int 1), (6, .int (1 + q3)), (5, .int (((g_Rmedium g).2 (((32 * p1) + 1)).toNatClampNeg) &&& 255)), (3, .long q1), (2, .int (32 * p1)), (0, .ref (ad 0)), (1, .int p1)]) hx hb d_RRef_markAt_100 hl (by decide) rfl (fun ls hl => ?_)
                refine lv_iload hx hb d_RRef_markAt_102 (lv_at hl 0 rfl) ?_
                refine lv_if_eq (tgt := 147) hx hb d_RRef_markAt_104 (by decide) (fun h9 => absurd h9 (by decide)) (fun _ => ?_)
                refine lv_aload_n hx hb d_RRef_markAt_107 rfl (lv_at hl 5 rfl) ?_
                refine va_get (D := D) (ci := 6) (v := .ref (ad 1)) (C := R_RRef) (T := F_RRef) (N := 29) hx hb hts i_RRef hown hK hP 0 rfl rfl 0 (by decide) (hts _ wf_RRef_7) (fun _ h9 => h9) rfl d_RRef_markAt_108 ?_
                refine lv_iload_n hx hb d_RRef_markAt_111 rfl (lv_at hl 4 rfl) ?_
                refine lv_bipush (v := 8) hx hb d_RRef_markAt_112 (by decide) ?_
                refine lv_iadd hx hb d_RRef_markAt_114 ?_
                refine lv_bipush (v := 8) hx hb d_RRef_markAt_115 (by decide) ?_
                obtain ⟨q21, hq21, hm⟩ := ob hm
                refine inv_rS (As := [.ref (ad 1), .int ((32 * p1) + 8), .int 8]) (rest := []) (v := .long q21) X (c_RRef_number l D ca (ad 1) _ (g_Rmedium g) ((32 * p1) + 8) 8 q21 hq21) g_RRef_85 yo_RRef_number ⟨Nat.le_of_ble_eq_true rfl, Nat.le_of_ble_eq_true rfl⟩ hl hP hD [1] rfl rfl hS hA rfl rfl (Nat.le_of_ble_eq_true rfl) ⟨Nat.zero_le _, Nat.zero_le _⟩ d_RRef_markAt_117 (fun H locs hP hS => ?_)
                refine lv_aload_n hx hb d_RRef_markAt_120 rfl (lv_at hl 5 rfl) ?_
                refine va_get (D := D) (ci := 6) (v := .ref (ad 1)) (C := R_RRef) (T := F_RRef) (N := 29) hx hb hts i_RRef hown hK hP 0 rfl rfl 0 (by decide) (hts _ wf_RRef_7) (fun _ h9 => h9) rfl d_RRef_markAt_121 ?_
                refine lv_iload_n hx hb d_RRef_markAt_124 rfl (lv_at hl 4 rfl) ?_
                refine lv_bipush (v := 32) hx hb d_RRef_markAt_125 (by decide) ?_
                refine lv_iadd hx hb d_RRef_markAt_127 ?_
                refine lv_bipush (v := 32) hx hb d_RRef_markAt_128 (by decide) ?_
                refine lv_iload hx hb d_RRef_markAt_130 (lv_at hl 2 rfl) ?_
                obtain ⟨q22, hq22, hm⟩ := ob hm
                refine inv_rS (As := [.int (((g_Rmedium g).2 (((32 * p1) + 1)).toNatClampNeg) &&& 255)]) (rest := [.int 32, .int ((32 * p1) + 32), .ref (ad 1), .long q21]) (v := .int q22) X (c_RRef_entries l D ca  _ (((g_Rmedium g).2 (((32 * p1) + 1)).toNatClampNeg) &&& 255) q22 hq22) g_RRef_116 yo_RRef_entries ⟨Nat.le_of_ble_eq_true rfl, Nat.le_of_ble_eq_true rfl⟩ hl hP hD [] rfl rfl hS hA rfl rfl (Nat.le_of_ble_eq_true rfl) ⟨Nat.zero_le _, Nat.zero_le _⟩ d_RRef_markAt_132 (fun H locs hP hS => ?_)
                refine lv_imul hx hb d_RRef_markAt_135 ?_
                obtain ⟨q23, hq23, hm⟩ := ob hm
                refine inv_rS (As := [.ref (ad 1), .int ((32 * p1) + 32), .int (32 * q22)]) (rest := [.long q21]) (v := .long q23) X (c_RRef_digest l D ca (ad 1) _ (g_Rmedium g) ((32 * p1) + 32) (32 * q22) q23 hq23) g_RRef_89 yo_RRef_digest ⟨Nat.le_of_ble_eq_true rfl, Nat.le_of_ble_eq_true rfl⟩ hl hP hD [1] rfl rfl hS hA rfl rfl (Nat.le_of_ble_eq_true rfl) ⟨Nat.zero_le _, Nat.zero_le _⟩ d_RRef_markAt_136 (fun H locs hP hS => ?_)
                refine W.lcmp hx hb d_RRef_markAt_139 ?_
                refine lv_if_ne (tgt := 147) hx hb d_RRef_markAt_140 (by decide) (fun c24 => ?_) (fun c24 => ?_)
                · replace hm := ineg c24 hm
                  refine lv_iconst (v := 0) hx hb d_RRef_markAt_147 (by decide) ?_
                  refine lv_istore (lv' := [(7, .int 0), (6, .int (1 + q3)), (5, .int (((g_Rmedium g).2 (((32 * p1) + 1)).toNatClampNeg) &&& 255)), (3, .long q1), (2, .int (32 * p1)), (0, .ref (ad 0)), (1, .int p1)]) hx hb d_RRef_markAt_148 hl (by decide) rfl (fun ls hl => ?_)
                  refine lv_lconst (v := 0) hx hb d_RRef_markAt_150 (by decide) ?_
                  refine lv_lstore (lv' := [(8, .long 0), (7, .int 0), (6, .int (1 + q3)), (5, .int (((g_Rmedium g).2 (((32 * p1) + 1)).toNatClampNeg) &&& 255)), (3, .long q1), (2, .int (32 * p1)), (0, .ref (ad 0)), (1, .int p1)]) hx hb d_RRef_markAt_151 hl (by decide) rfl (fun ls hl => ?_)
                  refine lv_iconst (v := 0) hx hb d_RRef_markAt_153 (by decide) ?_
                  refine lv_istore (lv' := [(10, .int 0), (8, .long 0), (7, .int 0), (6, .int (1 + q3)), (5, .int (((g_Rmedium g).2 (((32 * p1) + 1)).toNatClampNeg) &&& 255)), (3, .long q1), (2, .int (32 * p1)), (0, .ref (ad 0)), (1, .int p1)]) hx hb d_RRef_markAt_154 hl (by decide) rfl (fun ls hl => ?_)
                  exact k_m_RRef_markAt_L156 X hA FU  p1 (((g_Rmedium g).2 (((32 * p1) + 1)).toNatClampNeg) &&& 255) (1 + q3) 0 0 0 _ hm _ _ hP hD hS ls (lv_sub hl [7, 8, 4, 3, 2, 1, 0] rfl)
                · replace hm := ip c24 hm
                  refine lv_iconst (v := 1) hx hb d_RRef_markAt_143 (by decide) ?_
                  refine lv_goto (tgt := 148) hx hb d_RRef_markAt_144 (by decide) ?_
                  refine lv_istore (lv' := [(7, .int 1), (6, .int (1 + q3)), (5, .int (((g_Rmedium g).2 (((32 * p1) + 1)).toNatClampNeg) &&& 255)), (3, .long q1), (2, .int (32 * p1)), (0, .ref (ad 0)), (1, .int p1)]) hx hb d_RRef_markAt_148 hl (by decide) rfl (fun ls hl => ?_)
                  refine lv_lconst (v := 0) hx hb d_RRef_markAt_150 (by decide) ?_
                  refine lv_lstore (lv' := [(8, .long 0), (7, .int 1), (6, .int (1 + q3)), (5, .int (((g_Rmedium g).2 (((32 * p1) + 1)).toNatClampNeg) &&& 255)), (3, .long q1), (2, .int (32 * p1)), (0, .ref (ad 0)), (1, .int p1)]) hx hb d_RRef_markAt_151 hl (by decide) rfl (fun ls hl => ?_)
                  refine lv_iconst (v := 0) hx hb d_RRef_markAt_153 (by decide) ?_
                  refine lv_istore (lv' := [(10, .int 0), (8, .long 0), (7, .int 1), (6, .int (1 + q3)), (5, .int (((g_Rmedium g).2 (((32 * p1) + 1)).toNatClampNeg) &&& 255)), (3, .long q1), (2, .int (32 * p1)), (0, .ref (ad 0)), (1, .int p1)]) hx hb d_RRef_markAt_154 hl (by decide) rfl (fun ls hl => ?_)
                  exact k_m_RRef_markAt_L156 X hA FU  p1 (((g_Rmedium g).2 (((32 * p1) + 1)).toNatClampNeg) &&& 255) (1 + q3) 1 0 0 _ hm _ _ hP hD hS ls (lv_sub hl [7, 8, 4, 3, 2, 1, 0] rfl)
set_option maxHeartbeats 4000000 in
set_option maxRecDepth 100000 in
theorem k_m_RRef_findMark_L2 {p : Program} {l : Launch} {e : Env} {s : State} {m : MethodId} {args : Array Value} {below : List Frame} {meth : Method} {c : Code} {D : va_G} {ca : Nat → ClassId} {ad : Nat → Nat} {A : Nat → Prop} (X : Cx p s m args meth c R_RRef b_RRef_findMark 3 (some .int) D ca) (hA : ∀ q, s.heap.size ≤ q → A q) {g : St_Ref} : ∀ (n : Nat) (v1 : Int32) (v2 : Int32) (res : Int32), m_RRef_findMark_L2 g n v1 v2 = some res → ∀ (H : Heap) (locs : List Loc), va_P D classes (wl_Ref ca ad g) H → va_D (fun _ => True) (wl_Ref ca ad g) → va_S A s.heap H locs → ∀ ls : Array Slot, lv_has ls 3 [(0, .ref (ad 0)), (1, .int v1), (2, .int v2)] → W p l e (RM 0 0) s m args below meth c H locs 0 0 (MQ below (QRr (.int res) A) args s 0 0 A) (F0 m 2 ls []) := by
  obtain ⟨hx, hb, hml, hr, hown, hts, hK, hlocks⟩ := id X
  intro n
  induction n with
  | zero =>
    intro v1 v2 res hm
    rw [m_RRef_findMark_L2] at hm
    cases hm
  | succ n ih =>
    intro v1 v2 res hm H locs hP hD hS ls hl
    rw [m_RRef_findMark_L2] at hm
    refine lv_iload_n hx hb d_RRef_findMark_2 rfl (lv_at hl 2 rfl) ?_
    refine lv_aload_n hx hb d_RRef_findMark_3 rfl (lv_at hl 0 rfl) ?_
    refine va_get (D := D) (ci := 6) (v := .int (g_Rmarks g)) (C := R_RRef) (T := F_RRef) (N := 29) hx hb hts i_RRef hown hK hP 0 rfl rfl 20 (by decide) (hts _ wf_RRef_109) (fun _ h9 => h9) rfl d_RRef_findMark_4 ?_
    refine lv_icmp_ge (tgt := 28) hx hb d_RRef_findMark_7 (by decide) (fun c1 => ?_) (fun c1 => ?_)
    · replace hm := ip c1 hm
      refine lv_iconst (v := (-1)) hx hb d_RRef_findMark_28 (by decide) ?_
      cases hm
      exact ret_ri X hS d_RRef_findMark_29
    · replace hm := ineg c1 hm
      refine lv_aload_n hx hb d_RRef_findMark_10 rfl (lv_at hl 0 rfl) ?_
      refine va_get (D := D) (ci := 6) (v := .ref (ad 8)) (C := R_RRef) (T := F_RRef) (N := 29) hx hb hts i_RRef hown hK hP 0 rfl rfl 13 (by decide) (hts _ wf_RRef_41) (fun _ h9 => h9) rfl d_RRef_findMark_11 ?_
      refine lv_iload_n hx hb d_RRef_findMark_14 rfl (lv_at hl 2 rfl) ?_
      obtain ⟨b2, hm⟩ := on hm
      refine va_iald hx hb hK hP 8 2 rfl rfl b2 d_RRef_findMark_15 ?_
      refine lv_iload_n hx hb d_RRef_findMark_16 rfl (lv_at hl 1 rfl) ?_
      refine lv_icmp_ne (tgt := 22) hx hb d_RRef_findMark_17 (by decide) (fun c3 => ?_) (fun c3 => ?_)
      · replace hm := ineg c3 hm
        refine lv_iinc (v := (v2 + 1)) (lv' := [(2, .int (v2 + 1)), (0, .ref (ad 0)), (1, .int v1)]) hx hb d_RRef_findMark_22 hl (k := 2) rfl rfl (by decide) rfl (fun ls hl => ?_)
        refine lv_goto (tgt := 2) hx hb d_RRef_findMark_25 (by decide) ?_
        exact ih  v1 (v2 + 1) _ hm _ _ hP hD hS ls (lv_sub hl [1, 2, 0] rfl)
      · replace hm := ip c3 hm
        refine lv_iload_n hx hb d_RRef_findMark_20 rfl (lv_at hl 2 rfl) ?_
        cases hm
        exact ret_ri X hS d_RRef_findMark_21
set_option maxHeartbeats 4000000 in
set_option maxRecDepth 100000 in
theorem c_RRef_findMark (l : Launch) (D : va_G) (ca : Nat → ClassId) (ad : Nat → Nat) (sz : Nat) (g : St_Ref) (p1 : Int32) (res : Int32) (hm : m_RRef_findMark g p1 = some res) : Met l y_RRef_findMark (cws y_RRef_findMark b_RRef_findMark 3 (some .int)) (RM 0 0) (PreW D ca (wl_Ref ca ad g) [.ref (ad 0), .int p1] sz) (QRr (.int res) (va_A [] sz)) 0 0 (va_A [] sz) := by
  refine met_ofR (own := R_RRef) (by decide) rfl (Nat.le_of_ble_eq_true rfl) ?_
  intro p e s m below meth c A X hA hP hD ls hl
  obtain ⟨hx, hb, hml, hr, hown, hts, hK, hlocks⟩ := id X
  have hS : va_S A s.heap s.heap [] := va_S.rf
  have hl : lv_has ls 3 [(0, .ref (ad 0)), (1, .int p1)] := hl
  unfold m_RRef_findMark at hm
  refine lv_iconst (v := 0) hx hb d_RRef_findMark_0 (by decide) ?_
  refine lv_istore_n (lv' := [(2, .int 0), (0, .ref (ad 0)), (1, .int p1)]) hx hb d_RRef_findMark_1 rfl hl (by decide) rfl (fun ls hl => ?_)
  exact k_m_RRef_findMark_L2 X hA FU  p1 0 _ hm _ _ hP hD hS ls (lv_sub hl [1, 2, 0] rfl)
set_option maxHeartbeats 4000000 in
set_option maxRecDepth 100000 in
theorem k_m_RRef_learnMark_L94 {p : Program} {l : Launch} {e : Env} {s : State} {m : MethodId} {args : Array Value} {below : List Frame} {meth : Method} {c : Code} {D : va_G} {ca : Nat → ClassId} {ad : Nat → Nat} {A : Nat → Prop} (X : Cx p s m args meth c R_RRef b_RRef_learnMark 7 none D ca) (hA : ∀ q, s.heap.size ≤ q → A q)  : ∀ (n : Nat) (g : St_Ref) (v1 : Int32) (v3 : Int32) (v4 : Int32) (res : St_Ref), m_RRef_learnMark_L94  n g v1 v3 v4 = some res → ∀ (H : Heap) (locs : List Loc), va_P D classes (wl_Ref ca ad g) H → va_D A (wl_Ref ca ad g) → va_S A s.heap H locs → ∀ ls : Array Slot, lv_has ls 7 [(0, .ref (ad 0)), (1, .int v1), (3, .int v3), (4, .int v4)] → W p l e (RM 1 25) s m args below meth c H locs 0 0 (MQ below (QRm D none (wl_Ref ca ad res) A) args s 0 0 A) (F0 m 94 ls []) := by
  obtain ⟨hx, hb, hml, hr, hown, hts, hK, hlocks⟩ := id X
  intro n
  induction n with
  | zero =>
    intro g v1 v3 v4 res hm
    rw [m_RRef_learnMark_L94] at hm
    cases hm
  | succ n ih =>
    intro g v1 v3 v4 res hm H locs hP hD hS ls hl
    rw [m_RRef_learnMark_L94] at hm
    refine lv_iload hx hb d_RRef_learnMark_94 (lv_at hl 3 rfl) ?_
    refine lv_aload_n hx hb d_RRef_learnMark_96 rfl (lv_at hl 0 rfl) ?_
    refine va_get (D := D) (ci := 6) (v := .ref (ad 10)) (C := R_RRef) (T := F_RRef) (N := 29) hx hb hts i_RRef hown hK hP 0 rfl rfl 15 (by decide) (hts _ wf_RRef_47) (fun _ h9 => h9) rfl d_RRef_learnMark_97 ?_
    refine lv_aload_n hx hb d_RRef_learnMark_100 rfl (lv_at hl 0 rfl) ?_
    refine va_get (D := D) (ci := 6) (v := .int (g_Rmarks g)) (C := R_RRef) (T := F_RRef) (N := 29) hx hb hts i_RRef hown hK hP 0 rfl rfl 20 (by decide) (hts _ wf_RRef_109) (fun _ h9 => h9) rfl d_RRef_learnMark_101 ?_
    obtain ⟨b10, hm⟩ := on hm
    refine va_iald hx hb hK hP 10 2 rfl rfl b10 d_RRef_learnMark_104 ?_
    refine lv_icmp_ge (tgt := 231) hx hb d_RRef_learnMark_105 (by decide) (fun c11 => ?_) (fun c11 => ?_)
    · replace hm := ip c11 hm
      refine lv_aload_n hx hb d_RRef_learnMark_231 rfl (lv_at hl 0 rfl) ?_
      refine lv_dup hx hb d_RRef_learnMark_232 rfl ?_
      refine va_get (D := D) (ci := 6) (v := .int (g_Rmarks g)) (C := R_RRef) (T := F_RRef) (N := 29) hx hb hts i_RRef hown hK hP 0 rfl rfl 20 (by decide) (hts _ wf_RRef_109) (fun _ h9 => h9) rfl d_RRef_learnMark_233 ?_
      refine lv_iconst (v := 1) hx hb d_RRef_learnMark_236 (by decide) ?_
      refine lv_iadd hx hb d_RRef_learnMark_237 ?_
      refine va_put (D := D) (ci := 6) (v := .int ((g_Rmarks g) + 1)) (ty := .int) (C := R_RRef) (T := F_RRef) (N := 29) hx hb hts i_RRef t_RRef t_RRef_ok n_RRef hown hK hP hD hS 0 rfl rfl 20 (by decide) (hts _ wf_RRef_109) (fun _ h9 => h9) rfl (by decide +kernel) rfl rfl (Nat.le_of_ble_eq_true rfl) d_RRef_learnMark_238 (fun H locs hP hD hS => ?_)
      replace hP : va_P D classes (wl_Ref ca ad (s_Rmarks g ((g_Rmarks g) + 1))) H := hP
      replace hD : va_D A (wl_Ref ca ad (s_Rmarks g ((g_Rmarks g) + 1))) := hD
      refine lv_aload_n hx hb d_RRef_learnMark_241 rfl (lv_at hl 0 rfl) ?_
      refine lv_iload_n hx hb d_RRef_learnMark_242 rfl (lv_at hl 2 rfl) ?_
      refine lv_aload_n hx hb d_RRef_learnMark_243 rfl (lv_at hl 0 rfl) ?_
      refine va_get (D := D) (ci := 6) (v := .int (g_RlastMark g)) (C := R_RRef) (T := F_RRef) (N := 29) hx hb hts i_RRef hown hK hP 0 rfl rfl 24 (by decide) (hts _ wf_RRef_153) (fun _ h9 => h9) rfl d_RRef_learnMark_244 ?_
      refine lv_icmp_le (tgt := 254) hx hb d_RRef_learnMark_247 (by decide) (fun c12 => ?_) (fun c12 => ?_)
      · replace hm := ip c12 hm
        refine lv_aload_n hx hb d_RRef_learnMark_254 rfl (lv_at hl 0 rfl) ?_
        refine va_get (D := D) (ci := 6) (v := .int (g_RlastMark g)) (C := R_RRef) (T := F_RRef) (N := 29) hx hb hts i_RRef hown hK hP 0 rfl rfl 24 (by decide) (hts _ wf_RRef_153) (fun _ h9 => h9) rfl d_RRef_learnMark_255 ?_
        refine va_put (D := D) (ci := 6) (v := .int (g_RlastMark g)) (ty := .int) (C := R_RRef) (T := F_RRef) (N := 29) hx hb hts i_RRef t_RRef t_RRef_ok n_RRef hown hK hP hD hS 0 rfl rfl 24 (by decide) (hts _ wf_RRef_153) (fun _ h9 => h9) rfl (by decide +kernel) rfl rfl (Nat.le_of_ble_eq_true rfl) d_RRef_learnMark_258 (fun H locs hP hD hS => ?_)
        replace hP : va_P D classes (wl_Ref ca ad (s_RlastMark (s_Rmarks g ((g_Rmarks g) + 1)) (g_RlastMark g))) H := hP
        replace hD : va_D A (wl_Ref ca ad (s_RlastMark (s_Rmarks g ((g_Rmarks g) + 1)) (g_RlastMark g))) := hD
        cases hm
        exact ret_mv X hP hS d_RRef_learnMark_261
      · replace hm := ineg c12 hm
        refine lv_iload_n hx hb d_RRef_learnMark_250 rfl (lv_at hl 2 rfl) ?_
        refine lv_goto (tgt := 258) hx hb d_RRef_learnMark_251 (by decide) ?_
        refine va_put (D := D) (ci := 6) (v := .int v3) (ty := .int) (C := R_RRef) (T := F_RRef) (N := 29) hx hb hts i_RRef t_RRef t_RRef_ok n_RRef hown hK hP hD hS 0 rfl rfl 24 (by decide) (hts _ wf_RRef_153) (fun _ h9 => h9) rfl (by decide +kernel) rfl rfl (Nat.le_of_ble_eq_true rfl) d_RRef_learnMark_258 (fun H locs hP hD hS => ?_)
        replace hP : va_P D classes (wl_Ref ca ad (s_RlastMark (s_Rmarks g ((g_Rmarks g) + 1)) v3)) H := hP
        replace hD : va_D A (wl_Ref ca ad (s_RlastMark (s_Rmarks g ((g_Rmarks g) + 1)) v3)) := hD
        cases hm
        exact ret_mv X hP hS d_RRef_learnMark_261
    · replace hm := ineg c11 hm
      refine lv_iload_n hx hb d_RRef_learnMark_108 rfl (lv_at hl 1 rfl) ?_
      refine lv_iload hx hb d_RRef_learnMark_109 (lv_at hl 3 rfl) ?_
      obtain ⟨q13, hq13, hm⟩ := ob hm
      refine inv_rS (As := [.int v1, .int v4]) (rest := []) (v := .int q13) X (c_RRef_entryAt l D ca  _ v1 v4 q13 hq13) g_RRef_143 yo_RRef_entryAt ⟨Nat.le_of_ble_eq_true rfl, Nat.le_of_ble_eq_true rfl⟩ hl hP hD [] rfl rfl hS hA rfl rfl (Nat.le_of_ble_eq_true rfl) ⟨Nat.zero_le _, Nat.zero_le _⟩ d_RRef_learnMark_111 (fun H locs hP hS => ?_)
      refine lv_istore (lv' := [(5, .int q13), (0, .ref (ad 0)), (1, .int v1), (3, .int v3), (4, .int v4)]) hx hb d_RRef_learnMark_114 hl (by decide) rfl (fun ls hl => ?_)
      refine lv_aload_n hx hb d_RRef_learnMark_116 rfl (lv_at hl 1 rfl) ?_
      refine va_get (D := D) (ci := 6) (v := .ref (ad 1)) (C := R_RRef) (T := F_RRef) (N := 29) hx hb hts i_RRef hown hK hP 0 rfl rfl 0 (by decide) (hts _ wf_RRef_7) (fun _ h9 => h9) rfl d_RRef_learnMark_117 ?_
      refine lv_iload hx hb d_RRef_learnMark_120 (lv_at hl 0 rfl) ?_
      refine lv_iconst (v := 4) hx hb d_RRef_learnMark_122 (by decide) ?_
      obtain ⟨q14, hq14, hm⟩ := ob hm
      refine inv_rS (As := [.ref (ad 1), .int q13, .int 4]) (rest := []) (v := .long q14) X (c_RRef_number l D ca (ad 1) _ (g_Rmedium g) q13 4 q14 hq14) g_RRef_85 yo_RRef_number ⟨Nat.le_of_ble_eq_true rfl, Nat.le_of_ble_eq_true rfl⟩ hl hP hD [1] rfl rfl hS hA rfl rfl (Nat.le_of_ble_eq_true rfl) ⟨Nat.zero_le _, Nat.zero_le _⟩ d_RRef_learnMark_123 (fun H locs hP hS => ?_)
      refine lv_l2i (v := ((q14).toInt32)) hx hb d_RRef_learnMark_126 rfl ?_
      refine lv_istore (lv' := [(6, .int ((q14).toInt32)), (5, .int q13), (0, .ref (ad 0)), (1, .int v1), (3, .int v3), (4, .int v4)]) hx hb d_RRef_learnMark_127 hl (by decide) rfl (fun ls hl => ?_)
      refine lv_aload_n hx hb d_RRef_learnMark_129 rfl (lv_at hl 2 rfl) ?_
      refine va_get (D := D) (ci := 6) (v := .ref (ad 12)) (C := R_RRef) (T := F_RRef) (N := 29) hx hb hts i_RRef hown hK hP 0 rfl rfl 17 (by decide) (hts _ wf_RRef_53) (fun _ h9 => h9) rfl d_RRef_learnMark_130 ?_
      refine lv_bipush (v := 12) hx hb d_RRef_learnMark_133 (by decide) ?_
      refine lv_aload_n hx hb d_RRef_learnMark_135 rfl (lv_at hl 2 rfl) ?_
      refine va_get (D := D) (ci := 6) (v := .int (g_Rmarks g)) (C := R_RRef) (T := F_RRef) (N := 29) hx hb hts i_RRef hown hK hP 0 rfl rfl 20 (by decide) (hts _ wf_RRef_109) (fun _ h9 => h9) rfl d_RRef_learnMark_136 ?_
      refine lv_imul hx hb d_RRef_learnMark_139 ?_
      refine lv_iload hx hb d_RRef_learnMark_140 (lv_at hl 5 rfl) ?_
      refine lv_iadd hx hb d_RRef_learnMark_142 ?_
      refine lv_iload hx hb d_RRef_learnMark_143 (lv_at hl 0 rfl) ?_
      obtain ⟨b15, hm⟩ := on hm
      refine va_iast hx hb hK hP hD hS 12 2 rfl rfl b15 d_RRef_learnMark_145 (fun H locs hP hD hS => ?_)
      replace hP : va_P D classes (wl_Ref ca ad (s_RmPart g ((g_RmPart g).1, upd (g_RmPart g).2 (((12 * (g_Rmarks g)) + v4)).toNatClampNeg ((q14).toInt32)))) H := hP
      replace hD : va_D A (wl_Ref ca ad (s_RmPart g ((g_RmPart g).1, upd (g_RmPart g).2 (((12 * (g_Rmarks g)) + v4)).toNatClampNeg ((q14).toInt32)))) := hD
      refine lv_aload_n hx hb d_RRef_learnMark_146 rfl (lv_at hl 2 rfl) ?_
      refine va_get (D := D) (ci := 6) (v := .ref (ad 13)) (C := R_RRef) (T := F_RRef) (N := 29) hx hb hts i_RRef hown hK hP 0 rfl rfl 18 (by decide) (hts _ wf_RRef_56) (fun _ h9 => h9) rfl d_RRef_learnMark_147 ?_
      refine lv_bipush (v := 12) hx hb d_RRef_learnMark_150 (by decide) ?_
      refine lv_aload_n hx hb d_RRef_learnMark_152 rfl (lv_at hl 2 rfl) ?_
      refine va_get (D := D) (ci := 6) (v := .int (g_Rmarks g)) (C := R_RRef) (T := F_RRef) (N := 29) hx hb hts i_RRef hown hK hP 0 rfl rfl 20 (by decide) (hts _ wf_RRef_109) (fun _ h9 => h9) rfl d_RRef_learnMark_153 ?_
      refine lv_imul hx hb d_RRef_learnMark_156 ?_
      refine lv_iload hx hb d_RRef_learnMark_157 (lv_at hl 5 rfl) ?_
      refine lv_iadd hx hb d_RRef_learnMark_159 ?_
      refine lv_aload_n hx hb d_RRef_learnMark_160 rfl (lv_at hl 2 rfl) ?_
      refine va_get (D := D) (ci := 6) (v := .ref (ad 1)) (C := R_RRef) (T := F_RRef) (N := 29) hx hb hts i_RRef hown hK hP 0 rfl rfl 0 (by decide) (hts _ wf_RRef_7) (fun _ h9 => h9) rfl d_RRef_learnMark_161 ?_
      refine lv_iload hx hb d_RRef_learnMark_164 (lv_at hl 1 rfl) ?_
      refine lv_iconst (v := 4) hx hb d_RRef_learnMark_166 (by decide) ?_
      refine lv_iadd hx hb d_RRef_learnMark_167 ?_
      refine lv_iconst (v := 2) hx hb d_RRef_learnMark_168 (by decide) ?_
      obtain ⟨q16, hq16, hm⟩ := ob hm
      refine inv_rS (As := [.ref (ad 1), .int (q13 + 4), .int 2]) (rest := [.int ((12 * (g_Rmarks g)) + v4), .ref (ad 13)]) (v := .long q16) X (c_RRef_number l D ca (ad 1) _ (g_Rmedium g) (q13 + 4) 2 q16 hq16) g_RRef_85 yo_RRef_number ⟨Nat.le_of_ble_eq_true rfl, Nat.le_of_ble_eq_true rfl⟩ hl hP hD [1] rfl rfl hS hA rfl rfl (Nat.le_of_ble_eq_true rfl) ⟨Nat.zero_le _, Nat.zero_le _⟩ d_RRef_learnMark_169 (fun H locs hP hS => ?_)
      refine lv_l2i (v := ((q16).toInt32)) hx hb d_RRef_learnMark_172 rfl ?_
      obtain ⟨b17, hm⟩ := on hm
      refine va_iast hx hb hK hP hD hS 13 2 rfl rfl b17 d_RRef_learnMark_173 (fun H locs hP hD hS => ?_)
      replace hP : va_P D classes (wl_Ref ca ad (s_RmPartRow (s_RmPart g ((g_RmPart g).1, upd (g_RmPart g).2 (((12 * (g_Rmarks g)) + v4)).toNatClampNeg ((q14).toInt32))) ((g_RmPartRow g).1, upd (g_RmPartRow g).2 (((12 * (g_Rmarks g)) + v4)).toNatClampNeg ((q16).toInt32)))) H := hP
      replace hD : va_D A (wl_Ref ca ad (s_RmPartRow (s_RmPart g ((g_RmPart g).1, upd (g_RmPart g).2 (((12 * (g_Rmarks g)) + v4)).toNatClampNeg ((q14).toInt32))) ((g_RmPartRow g).1, upd (g_RmPartRow g).2 (((12 * (g_Rmarks g)) + v4)).toNatClampNeg ((q16).toInt32)))) := hD
      refine lv_aload_n hx hb d_RRef_learnMark_174 rfl (lv_at hl 2 rfl) ?_
      refine va_get (D := D) (ci := 6) (v := .ref (ad 14)) (C := R_RRef) (T := F_RRef) (N := 29) hx hb hts i_RRef hown hK hP 0 rfl rfl 19 (by decide) (hts _ wf_RRef_59) (fun _ h9 => h9) rfl d_RRef_learnMark_175 ?_
      refine lv_bipush (v := 12) hx hb d_RRef_learnMark_178 (by decide) ?_
      refine lv_aload_n hx hb d_RRef_learnMark_180 rfl (lv_at hl 2 rfl) ?_
      refine va_get (D := D) (ci := 6) (v := .int (g_Rmarks g)) (C := R_RRef) (T := F_RRef) (N := 29) hx hb hts i_RRef hown hK hP 0 rfl rfl 20 (by decide) (hts _ wf_RRef_109) (fun _ h9 => h9) rfl d_RRef_learnMark_181 ?_
      refine lv_imul hx hb d_RRef_learnMark_184 ?_
      refine lv_iload hx hb d_RRef_learnMark_185 (lv_at hl 5 rfl) ?_
      refine lv_iadd hx hb d_RRef_learnMark_187 ?_
      refine lv_aload_n hx hb d_RRef_learnMark_188 rfl (lv_at hl 2 rfl) ?_
      refine va_get (D := D) (ci := 6) (v := .ref (ad 1)) (C := R_RRef) (T := F_RRef) (N := 29) hx hb hts i_RRef hown hK hP 0 rfl rfl 0 (by decide) (hts _ wf_RRef_7) (fun _ h9 => h9) rfl d_RRef_learnMark_189 ?_
      refine lv_iload hx hb d_RRef_learnMark_192 (lv_at hl 1 rfl) ?_
      refine lv_bipush (v := 6) hx hb d_RRef_learnMark_194 (by decide) ?_
      refine lv_iadd hx hb d_RRef_learnMark_196 ?_
      refine lv_bipush (v := 8) hx hb d_RRef_learnMark_197 (by decide) ?_
      obtain ⟨q18, hq18, hm⟩ := ob hm
      refine inv_rS (As := [.ref (ad 1), .int (q13 + 6), .int 8]) (rest := [.int ((12 * (g_Rmarks g)) + v4), .ref (ad 14)]) (v := .long q18) X (c_RRef_number l D ca (ad 1) _ (g_Rmedium g) (q13 + 6) 8 q18 hq18) g_RRef_85 yo_RRef_number ⟨Nat.le_of_ble_eq_true rfl, Nat.le_of_ble_eq_true rfl⟩ hl hP hD [1] rfl rfl hS hA rfl rfl (Nat.le_of_ble_eq_true rfl) ⟨Nat.zero_le _, Nat.zero_le _⟩ d_RRef_learnMark_199 (fun H locs hP hS => ?_)
      obtain ⟨b19, hm⟩ := on hm
      refine va_last hx hb hK hP hD hS 14 3 rfl rfl b19 d_RRef_learnMark_202 (fun H locs hP hD hS => ?_)
      replace hP : va_P D classes (wl_Ref ca ad (s_RmPartDigest (s_RmPartRow (s_RmPart g ((g_RmPart g).1, upd (g_RmPart g).2 (((12 * (g_Rmarks g)) + v4)).toNatClampNeg ((q14).toInt32))) ((g_RmPartRow g).1, upd (g_RmPartRow g).2 (((12 * (g_Rmarks g)) + v4)).toNatClampNeg ((q16).toInt32))) ((g_RmPartDigest g).1, vp_updL (g_RmPartDigest g).2 (((12 * (g_Rmarks g)) + v4)).toNatClampNeg q18))) H := hP
      replace hD : va_D A (wl_Ref ca ad (s_RmPartDigest (s_RmPartRow (s_RmPart g ((g_RmPart g).1, upd (g_RmPart g).2 (((12 * (g_Rmarks g)) + v4)).toNatClampNeg ((q14).toInt32))) ((g_RmPartRow g).1, upd (g_RmPartRow g).2 (((12 * (g_Rmarks g)) + v4)).toNatClampNeg ((q16).toInt32))) ((g_RmPartDigest g).1, vp_updL (g_RmPartDigest g).2 (((12 * (g_Rmarks g)) + v4)).toNatClampNeg q18))) := hD
      refine lv_aload_n hx hb d_RRef_learnMark_203 rfl (lv_at hl 2 rfl) ?_
      refine lv_iload hx hb d_RRef_learnMark_204 (lv_at hl 0 rfl) ?_
      refine lv_aload_n hx hb d_RRef_learnMark_206 rfl (lv_at hl 2 rfl) ?_
      refine va_get (D := D) (ci := 6) (v := .int (g_RlastPart g)) (C := R_RRef) (T := F_RRef) (N := 29) hx hb hts i_RRef hown hK hP 0 rfl rfl 23 (by decide) (hts _ wf_RRef_147) (fun _ h9 => h9) rfl d_RRef_learnMark_207 ?_
      refine lv_icmp_le (tgt := 218) hx hb d_RRef_learnMark_210 (by decide) (fun c20 => ?_) (fun c20 => ?_)
      · replace hm := ip c20 hm
        refine lv_aload_n hx hb d_RRef_learnMark_218 rfl (lv_at hl 2 rfl) ?_
        refine va_get (D := D) (ci := 6) (v := .int (g_RlastPart g)) (C := R_RRef) (T := F_RRef) (N := 29) hx hb hts i_RRef hown hK hP 0 rfl rfl 23 (by decide) (hts _ wf_RRef_147) (fun _ h9 => h9) rfl d_RRef_learnMark_219 ?_
        refine va_put (D := D) (ci := 6) (v := .int (g_RlastPart g)) (ty := .int) (C := R_RRef) (T := F_RRef) (N := 29) hx hb hts i_RRef t_RRef t_RRef_ok n_RRef hown hK hP hD hS 0 rfl rfl 23 (by decide) (hts _ wf_RRef_147) (fun _ h9 => h9) rfl (by decide +kernel) rfl rfl (Nat.le_of_ble_eq_true rfl) d_RRef_learnMark_222 (fun H locs hP hD hS => ?_)
        replace hP : va_P D classes (wl_Ref ca ad (s_RlastPart (s_RmPartDigest (s_RmPartRow (s_RmPart g ((g_RmPart g).1, upd (g_RmPart g).2 (((12 * (g_Rmarks g)) + v4)).toNatClampNeg ((q14).toInt32))) ((g_RmPartRow g).1, upd (g_RmPartRow g).2 (((12 * (g_Rmarks g)) + v4)).toNatClampNeg ((q16).toInt32))) ((g_RmPartDigest g).1, vp_updL (g_RmPartDigest g).2 (((12 * (g_Rmarks g)) + v4)).toNatClampNeg q18)) (g_RlastPart g))) H := hP
        replace hD : va_D A (wl_Ref ca ad (s_RlastPart (s_RmPartDigest (s_RmPartRow (s_RmPart g ((g_RmPart g).1, upd (g_RmPart g).2 (((12 * (g_Rmarks g)) + v4)).toNatClampNeg ((q14).toInt32))) ((g_RmPartRow g).1, upd (g_RmPartRow g).2 (((12 * (g_Rmarks g)) + v4)).toNatClampNeg ((q16).toInt32))) ((g_RmPartDigest g).1, vp_updL (g_RmPartDigest g).2 (((12 * (g_Rmarks g)) + v4)).toNatClampNeg q18)) (g_RlastPart g))) := hD
        refine lv_iinc (v := (v4 + 1)) (lv' := [(4, .int (v4 + 1)), (6, .int ((q14).toInt32)), (5, .int q13), (0, .ref (ad 0)), (1, .int v1), (3, .int v3)]) hx hb d_RRef_learnMark_225 hl (k := 5) rfl rfl (by decide) rfl (fun ls hl => ?_)
        refine lv_goto (tgt := 94) hx hb d_RRef_learnMark_228 (by decide) ?_
        exact ih (s_RlastPart (s_RmPartDigest (s_RmPartRow (s_RmPart g ((g_RmPart g).1, upd (g_RmPart g).2 (((12 * (g_Rmarks g)) + v4)).toNatClampNeg ((q14).toInt32))) ((g_RmPartRow g).1, upd (g_RmPartRow g).2 (((12 * (g_Rmarks g)) + v4)).toNatClampNeg ((q16).toInt32))) ((g_RmPartDigest g).1, vp_updL (g_RmPartDigest g).2 (((12 * (g_Rmarks g)) + v4)).toNatClampNeg q18)) (g_RlastPart g)) v1 v3 (v4 + 1) _ hm _ _ hP hD hS ls (lv_sub hl [3, 4, 5, 0] rfl)
      · replace hm := ineg c20 hm
        refine lv_iload hx hb d_RRef_learnMark_213 (lv_at hl 0 rfl) ?_
        refine lv_goto (tgt := 222) hx hb d_RRef_learnMark_215 (by decide) ?_
        refine va_put (D := D) (ci := 6) (v := .int ((q14).toInt32)) (ty := .int) (C := R_RRef) (T := F_RRef) (N := 29) hx hb hts i_RRef t_RRef t_RRef_ok n_RRef hown hK hP hD hS 0 rfl rfl 23 (by decide) (hts _ wf_RRef_147) (fun _ h9 => h9) rfl (by decide +kernel) rfl rfl (Nat.le_of_ble_eq_true rfl) d_RRef_learnMark_222 (fun H locs hP hD hS => ?_)
        replace hP : va_P D classes (wl_Ref ca ad (s_RlastPart (s_RmPartDigest (s_RmPartRow (s_RmPart g ((g_RmPart g).1, upd (g_RmPart g).2 (((12 * (g_Rmarks g)) + v4)).toNatClampNeg ((q14).toInt32))) ((g_RmPartRow g).1, upd (g_RmPartRow g).2 (((12 * (g_Rmarks g)) + v4)).toNatClampNeg ((q16).toInt32))) ((g_RmPartDigest g).1, vp_updL (g_RmPartDigest g).2 (((12 * (g_Rmarks g)) + v4)).toNatClampNeg q18)) ((q14).toInt32))) H := hP
        replace hD : va_D A (wl_Ref ca ad (s_RlastPart (s_RmPartDigest (s_RmPartRow (s_RmPart g ((g_RmPart g).1, upd (g_RmPart g).2 (((12 * (g_Rmarks g)) + v4)).toNatClampNeg ((q14).toInt32))) ((g_RmPartRow g).1, upd (g_RmPartRow g).2 (((12 * (g_Rmarks g)) + v4)).toNatClampNeg ((q16).toInt32))) ((g_RmPartDigest g).1, vp_updL (g_RmPartDigest g).2 (((12 * (g_Rmarks g)) + v4)).toNatClampNeg q18)) ((q14).toInt32))) := hD
        refine lv_iinc (v := (v4 + 1)) (lv' := [(4, .int (v4 + 1)), (6, .int ((q14).toInt32)), (5, .int q13), (0, .ref (ad 0)), (1, .int v1), (3, .int v3)]) hx hb d_RRef_learnMark_225 hl (k := 5) rfl rfl (by decide) rfl (fun ls hl => ?_)
        refine lv_goto (tgt := 94) hx hb d_RRef_learnMark_228 (by decide) ?_
        exact ih (s_RlastPart (s_RmPartDigest (s_RmPartRow (s_RmPart g ((g_RmPart g).1, upd (g_RmPart g).2 (((12 * (g_Rmarks g)) + v4)).toNatClampNeg ((q14).toInt32))) ((g_RmPartRow g).1, upd (g_RmPartRow g).2 (((12 * (g_Rmarks g)) + v4)).toNatClampNeg ((q16).toInt32))) ((g_RmPartDigest g).1, vp_updL (g_RmPartDigest g).2 (((12 * (g_Rmarks g)) + v4)).toNatClampNeg q18)) ((q14).toInt32)) v1 v3 (v4 + 1) _ hm _ _ hP hD hS ls (lv_sub hl [3, 4, 5, 0] rfl)
set_option maxHeartbeats 4000000 in
set_option maxRecDepth 100000 in
theorem c_RRef_learnMark (l : Launch) (D : va_G) (ca : Nat → ClassId) (ad : Nat → Nat) (sz : Nat) (g : St_Ref) (p1 : Int32) (res : St_Ref) (hm : m_RRef_learnMark g p1 = some res) : Met l y_RRef_learnMark (cws y_RRef_learnMark b_RRef_learnMark 7 none) (RM 1 25) (PreW D ca (wl_Ref ca ad g) [.ref (ad 0), .int p1] sz) (QRm D none (wl_Ref ca ad res) (va_A (wl_Ref ca ad g) sz)) 0 0 (va_A (wl_Ref ca ad g) sz) := by
  refine met_ofM (own := R_RRef) (by decide) rfl (Nat.le_of_ble_eq_true rfl) ?_
  intro p e s m below meth c A X hA hP hD ls hl
  obtain ⟨hx, hb, hml, hr, hown, hts, hK, hlocks⟩ := id X
  have hS : va_S A s.heap s.heap [] := va_S.rf
  have hl : lv_has ls 7 [(0, .ref (ad 0)), (1, .int p1)] := hl
  unfold m_RRef_learnMark at hm
  refine lv_bipush (v := 32) hx hb d_RRef_learnMark_0 (by decide) ?_
  refine lv_iload_n hx hb d_RRef_learnMark_2 rfl (lv_at hl 1 rfl) ?_
  refine lv_imul hx hb d_RRef_learnMark_3 ?_
  refine lv_istore_n (lv' := [(2, .int (32 * p1)), (0, .ref (ad 0)), (1, .int p1)]) hx hb d_RRef_learnMark_4 rfl hl (by decide) rfl (fun ls hl => ?_)
  refine lv_aload_n hx hb d_RRef_learnMark_5 rfl (lv_at hl 1 rfl) ?_
  refine va_get (D := D) (ci := 6) (v := .ref (ad 1)) (C := R_RRef) (T := F_RRef) (N := 29) hx hb hts i_RRef hown hK hP 0 rfl rfl 0 (by decide) (hts _ wf_RRef_7) (fun _ h9 => h9) rfl d_RRef_learnMark_6 ?_
  refine lv_iload_n hx hb d_RRef_learnMark_9 rfl (lv_at hl 0 rfl) ?_
  refine lv_iconst (v := 4) hx hb d_RRef_learnMark_10 (by decide) ?_
  refine lv_iadd hx hb d_RRef_learnMark_11 ?_
  refine lv_iconst (v := 4) hx hb d_RRef_learnMark_12 (by decide) ?_
  obtain ⟨q1, hq1, hm⟩ := ob hm
  refine inv_rS (As := [.ref (ad 1), .int ((32 * p1) + 4), .int 4]) (rest := []) (v := .long q1) X (c_RRef_number l D ca (ad 1) _ (g_Rmedium g) ((32 * p1) + 4) 4 q1 hq1) g_RRef_85 yo_RRef_number ⟨Nat.le_of_ble_eq_true rfl, Nat.le_of_ble_eq_true rfl⟩ hl hP hD [1] rfl rfl hS hA rfl rfl (Nat.le_of_ble_eq_true rfl) ⟨Nat.zero_le _, Nat.zero_le _⟩ d_RRef_learnMark_13 (fun H locs hP hS => ?_)
  refine lv_l2i (v := ((q1).toInt32)) hx hb d_RRef_learnMark_16 rfl ?_
  refine lv_istore_n (lv' := [(3, .int ((q1).toInt32)), (2, .int (32 * p1)), (0, .ref (ad 0)), (1, .int p1)]) hx hb d_RRef_learnMark_17 rfl hl (by decide) rfl (fun ls hl => ?_)
  refine lv_aload_n hx hb d_RRef_learnMark_18 rfl (lv_at hl 2 rfl) ?_
  refine lv_iload_n hx hb d_RRef_learnMark_19 rfl (lv_at hl 0 rfl) ?_
  obtain ⟨q2, hq2, hm⟩ := ob hm
  refine inv_rVa (C := R_RRef) (As := [.int ((q1).toInt32)]) (rest := []) (v := .int q2) X (c_RRef_findMark l D ca ad _ g ((q1).toInt32) q2 hq2) g_RRef_150 yo_RRef_findMark ⟨Nat.le_of_ble_eq_true rfl, Nat.le_of_ble_eq_true rfl⟩ hl hP hD (ci := 6) rfl rfl hS hA rfl rfl (Nat.le_of_ble_eq_true rfl) ⟨Nat.zero_le _, Nat.zero_le _⟩ d_RRef_learnMark_20 (fun H locs hP hS => ?_)
  refine lv_iconst (v := (-1)) hx hb d_RRef_learnMark_23 (by decide) ?_
  refine lv_icmp_eq (tgt := 28) hx hb d_RRef_learnMark_24 (by decide) (fun c3 => ?_) (fun c3 => ?_)
  · replace hm := ip c3 hm
    refine lv_aload_n hx hb d_RRef_learnMark_28 rfl (lv_at hl 2 rfl) ?_
    refine va_get (D := D) (ci := 6) (v := .ref (ad 8)) (C := R_RRef) (T := F_RRef) (N := 29) hx hb hts i_RRef hown hK hP 0 rfl rfl 13 (by decide) (hts _ wf_RRef_41) (fun _ h9 => h9) rfl d_RRef_learnMark_29 ?_
    refine lv_aload_n hx hb d_RRef_learnMark_32 rfl (lv_at hl 2 rfl) ?_
    refine va_get (D := D) (ci := 6) (v := .int (g_Rmarks g)) (C := R_RRef) (T := F_RRef) (N := 29) hx hb hts i_RRef hown hK hP 0 rfl rfl 20 (by decide) (hts _ wf_RRef_109) (fun _ h9 => h9) rfl d_RRef_learnMark_33 ?_
    refine lv_iload_n hx hb d_RRef_learnMark_36 rfl (lv_at hl 0 rfl) ?_
    obtain ⟨b4, hm⟩ := on hm
    refine va_iast hx hb hK hP hD hS 8 2 rfl rfl b4 d_RRef_learnMark_37 (fun H locs hP hD hS => ?_)
    replace hP : va_P D classes (wl_Ref ca ad (s_RmNumber g ((g_RmNumber g).1, upd (g_RmNumber g).2 ((g_Rmarks g)).toNatClampNeg ((q1).toInt32)))) H := hP
    replace hD : va_D A (wl_Ref ca ad (s_RmNumber g ((g_RmNumber g).1, upd (g_RmNumber g).2 ((g_Rmarks g)).toNatClampNeg ((q1).toInt32)))) := hD
    refine lv_aload_n hx hb d_RRef_learnMark_38 rfl (lv_at hl 2 rfl) ?_
    refine va_get (D := D) (ci := 6) (v := .ref (ad 9)) (C := R_RRef) (T := F_RRef) (N := 29) hx hb hts i_RRef hown hK hP 0 rfl rfl 14 (by decide) (hts _ wf_RRef_44) (fun _ h9 => h9) rfl d_RRef_learnMark_39 ?_
    refine lv_aload_n hx hb d_RRef_learnMark_42 rfl (lv_at hl 2 rfl) ?_
    refine va_get (D := D) (ci := 6) (v := .int (g_Rmarks g)) (C := R_RRef) (T := F_RRef) (N := 29) hx hb hts i_RRef hown hK hP 0 rfl rfl 20 (by decide) (hts _ wf_RRef_109) (fun _ h9 => h9) rfl d_RRef_learnMark_43 ?_
    refine lv_iload_n hx hb d_RRef_learnMark_46 rfl (lv_at hl 3 rfl) ?_
    obtain ⟨b5, hm⟩ := on hm
    refine va_iast hx hb hK hP hD hS 9 2 rfl rfl b5 d_RRef_learnMark_47 (fun H locs hP hD hS => ?_)
    replace hP : va_P D classes (wl_Ref ca ad (s_RmRow (s_RmNumber g ((g_RmNumber g).1, upd (g_RmNumber g).2 ((g_Rmarks g)).toNatClampNeg ((q1).toInt32))) ((g_RmRow g).1, upd (g_RmRow g).2 ((g_Rmarks g)).toNatClampNeg p1))) H := hP
    replace hD : va_D A (wl_Ref ca ad (s_RmRow (s_RmNumber g ((g_RmNumber g).1, upd (g_RmNumber g).2 ((g_Rmarks g)).toNatClampNeg ((q1).toInt32))) ((g_RmRow g).1, upd (g_RmRow g).2 ((g_Rmarks g)).toNatClampNeg p1))) := hD
    refine lv_aload_n hx hb d_RRef_learnMark_48 rfl (lv_at hl 2 rfl) ?_
    refine va_get (D := D) (ci := 6) (v := .ref (ad 10)) (C := R_RRef) (T := F_RRef) (N := 29) hx hb hts i_RRef hown hK hP 0 rfl rfl 15 (by decide) (hts _ wf_RRef_47) (fun _ h9 => h9) rfl d_RRef_learnMark_49 ?_
    refine lv_aload_n hx hb d_RRef_learnMark_52 rfl (lv_at hl 2 rfl) ?_
    refine va_get (D := D) (ci := 6) (v := .int (g_Rmarks g)) (C := R_RRef) (T := F_RRef) (N := 29) hx hb hts i_RRef hown hK hP 0 rfl rfl 20 (by decide) (hts _ wf_RRef_109) (fun _ h9 => h9) rfl d_RRef_learnMark_53 ?_
    refine lv_aload_n hx hb d_RRef_learnMark_56 rfl (lv_at hl 2 rfl) ?_
    refine va_get (D := D) (ci := 6) (v := .ref (ad 1)) (C := R_RRef) (T := F_RRef) (N := 29) hx hb hts i_RRef hown hK hP 0 rfl rfl 0 (by decide) (hts _ wf_RRef_7) (fun _ h9 => h9) rfl d_RRef_learnMark_57 ?_
    refine lv_iload_n hx hb d_RRef_learnMark_60 rfl (lv_at hl 1 rfl) ?_
    refine lv_iconst (v := 1) hx hb d_RRef_learnMark_61 (by decide) ?_
    refine lv_iadd hx hb d_RRef_learnMark_62 ?_
    obtain ⟨b6, hm⟩ := on hm
    refine va_bald hx hb hK hP 1 0 rfl rfl b6 d_RRef_learnMark_63 ?_
    refine lv_sipush (v := 255) hx hb d_RRef_learnMark_64 (by decide) ?_
    refine lv_iand hx hb d_RRef_learnMark_67 ?_
    obtain ⟨b7, hm⟩ := on hm
    refine va_iast hx hb hK hP hD hS 10 2 rfl rfl b7 d_RRef_learnMark_68 (fun H locs hP hD hS => ?_)
    replace hP : va_P D classes (wl_Ref ca ad (s_RmCount (s_RmRow (s_RmNumber g ((g_RmNumber g).1, upd (g_RmNumber g).2 ((g_Rmarks g)).toNatClampNeg ((q1).toInt32))) ((g_RmRow g).1, upd (g_RmRow g).2 ((g_Rmarks g)).toNatClampNeg p1)) ((g_RmCount g).1, upd (g_RmCount g).2 ((g_Rmarks g)).toNatClampNeg (((g_Rmedium g).2 (((32 * p1) + 1)).toNatClampNeg) &&& 255)))) H := hP
    replace hD : va_D A (wl_Ref ca ad (s_RmCount (s_RmRow (s_RmNumber g ((g_RmNumber g).1, upd (g_RmNumber g).2 ((g_Rmarks g)).toNatClampNeg ((q1).toInt32))) ((g_RmRow g).1, upd (g_RmRow g).2 ((g_Rmarks g)).toNatClampNeg p1)) ((g_RmCount g).1, upd (g_RmCount g).2 ((g_Rmarks g)).toNatClampNeg (((g_Rmedium g).2 (((32 * p1) + 1)).toNatClampNeg) &&& 255)))) := hD
    refine lv_aload_n hx hb d_RRef_learnMark_69 rfl (lv_at hl 2 rfl) ?_
    refine va_get (D := D) (ci := 6) (v := .ref (ad 11)) (C := R_RRef) (T := F_RRef) (N := 29) hx hb hts i_RRef hown hK hP 0 rfl rfl 16 (by decide) (hts _ wf_RRef_50) (fun _ h9 => h9) rfl d_RRef_learnMark_70 ?_
    refine lv_aload_n hx hb d_RRef_learnMark_73 rfl (lv_at hl 2 rfl) ?_
    refine va_get (D := D) (ci := 6) (v := .int (g_Rmarks g)) (C := R_RRef) (T := F_RRef) (N := 29) hx hb hts i_RRef hown hK hP 0 rfl rfl 20 (by decide) (hts _ wf_RRef_109) (fun _ h9 => h9) rfl d_RRef_learnMark_74 ?_
    refine lv_aload_n hx hb d_RRef_learnMark_77 rfl (lv_at hl 2 rfl) ?_
    refine va_get (D := D) (ci := 6) (v := .ref (ad 1)) (C := R_RRef) (T := F_RRef) (N := 29) hx hb hts i_RRef hown hK hP 0 rfl rfl 0 (by decide) (hts _ wf_RRef_7) (fun _ h9 => h9) rfl d_RRef_learnMark_78 ?_
    refine lv_iload_n hx hb d_RRef_learnMark_81 rfl (lv_at hl 1 rfl) ?_
    refine lv_bipush (v := 8) hx hb d_RRef_learnMark_82 (by decide) ?_
    refine lv_iadd hx hb d_RRef_learnMark_84 ?_
    refine lv_bipush (v := 8) hx hb d_RRef_learnMark_85 (by decide) ?_
    obtain ⟨q8, hq8, hm⟩ := ob hm
    refine inv_rS (As := [.ref (ad 1), .int ((32 * p1) + 8), .int 8]) (rest := [.int (g_Rmarks g), .ref (ad 11)]) (v := .long q8) X (c_RRef_number l D ca (ad 1) _ (g_Rmedium g) ((32 * p1) + 8) 8 q8 hq8) g_RRef_85 yo_RRef_number ⟨Nat.le_of_ble_eq_true rfl, Nat.le_of_ble_eq_true rfl⟩ hl hP hD [1] rfl rfl hS hA rfl rfl (Nat.le_of_ble_eq_true rfl) ⟨Nat.zero_le _, Nat.zero_le _⟩ d_RRef_learnMark_87 (fun H locs hP hS => ?_)
    obtain ⟨b9, hm⟩ := on hm
    refine va_last hx hb hK hP hD hS 11 3 rfl rfl b9 d_RRef_learnMark_90 (fun H locs hP hD hS => ?_)
    replace hP : va_P D classes (wl_Ref ca ad (s_RmDigest (s_RmCount (s_RmRow (s_RmNumber g ((g_RmNumber g).1, upd (g_RmNumber g).2 ((g_Rmarks g)).toNatClampNeg ((q1).toInt32))) ((g_RmRow g).1, upd (g_RmRow g).2 ((g_Rmarks g)).toNatClampNeg p1)) ((g_RmCount g).1, upd (g_RmCount g).2 ((g_Rmarks g)).toNatClampNeg (((g_Rmedium g).2 (((32 * p1) + 1)).toNatClampNeg) &&& 255))) ((g_RmDigest g).1, vp_updL (g_RmDigest g).2 ((g_Rmarks g)).toNatClampNeg q8))) H := hP
    replace hD : va_D A (wl_Ref ca ad (s_RmDigest (s_RmCount (s_RmRow (s_RmNumber g ((g_RmNumber g).1, upd (g_RmNumber g).2 ((g_Rmarks g)).toNatClampNeg ((q1).toInt32))) ((g_RmRow g).1, upd (g_RmRow g).2 ((g_Rmarks g)).toNatClampNeg p1)) ((g_RmCount g).1, upd (g_RmCount g).2 ((g_Rmarks g)).toNatClampNeg (((g_Rmedium g).2 (((32 * p1) + 1)).toNatClampNeg) &&& 255))) ((g_RmDigest g).1, vp_updL (g_RmDigest g).2 ((g_Rmarks g)).toNatClampNeg q8))) := hD
    refine lv_iconst (v := 0) hx hb d_RRef_learnMark_91 (by decide) ?_
    refine lv_istore (lv' := [(4, .int 0), (3, .int ((q1).toInt32)), (2, .int (32 * p1)), (0, .ref (ad 0)), (1, .int p1)]) hx hb d_RRef_learnMark_92 hl (by decide) rfl (fun ls hl => ?_)
    exact k_m_RRef_learnMark_L94 X hA FU (s_RmDigest (s_RmCount (s_RmRow (s_RmNumber g ((g_RmNumber g).1, upd (g_RmNumber g).2 ((g_Rmarks g)).toNatClampNeg ((q1).toInt32))) ((g_RmRow g).1, upd (g_RmRow g).2 ((g_Rmarks g)).toNatClampNeg p1)) ((g_RmCount g).1, upd (g_RmCount g).2 ((g_Rmarks g)).toNatClampNeg (((g_Rmedium g).2 (((32 * p1) + 1)).toNatClampNeg) &&& 255))) ((g_RmDigest g).1, vp_updL (g_RmDigest g).2 ((g_Rmarks g)).toNatClampNeg q8)) p1 ((q1).toInt32) 0 _ hm _ _ hP hD hS ls (lv_sub hl [3, 4, 1, 0] rfl)
  · replace hm := ineg c3 hm
    cases hm
    exact ret_mv X hP hS d_RRef_learnMark_27
