set_option maxHeartbeats 4000000 in
set_option maxRecDepth 100000 in
theorem k_m_Log_feed_L35 {p : Program} {l : Launch} {e : Env} {s : State} {m : MethodId} {args : Array Value} {below : List Frame} {meth : Method} {c : Code} {D : va_G} {ca : Nat → ClassId} {ad : Nat → Nat} {A : Nat → Prop} (X : Cx p s m args meth c R_Log b_Log_feed 5 (some .int) D ca) (hA : ∀ q, s.heap.size ≤ q → A q)  : ∀ (n : Nat) (g : St_Log) (v1 : Int64) (v3 : Int32) (v4 : Int32) (res : Int32 × St_Log), m_Log_feed_L35  n g v1 v3 v4 = some res → ∀ (H : Heap) (locs : List Loc), va_P D classes (wl_Log ca ad g) H → va_D A (wl_Log ca ad g) → va_S A s.heap H locs → ∀ ls : Array Slot, lv_has ls 5 [(0, .ref (ad 0)), (1, .long v1), (3, .int v3), (4, .int v4)] → W p l e (RM 4 85) s m args below meth c H locs 0 0 (MQ below (QRm D (some (.int res.1)) (wl_Log ca ad res.2) A) args s 0 0 A) (F0 m 35 ls []) := by
  obtain ⟨hx, hb, hml, hr, hown, hts, hK, hlocks⟩ := id X
  intro n
  induction n with
  | zero =>
    intro g v1 v3 v4 res hm
    rw [m_Log_feed_L35] at hm
    cases hm
  | succ n ih =>
    intro g v1 v3 v4 res hm H locs hP hD hS ls hl
    rw [m_Log_feed_L35] at hm
    refine lv_iload hx hb d_Log_feed_35 (lv_at hl 3 rfl) ?_
    refine lv_iload_n hx hb d_Log_feed_37 rfl (lv_at hl 2 rfl) ?_
    refine lv_icmp_ge (tgt := 62) hx hb d_Log_feed_38 (by decide) (fun c5 => ?_) (fun c5 => ?_)
    · replace hm := ip c5 hm
      refine lv_aload_n hx hb d_Log_feed_62 rfl (lv_at hl 0 rfl) ?_
      refine va_get (D := D) (ci := 5) (v := .ref (ad 3)) (C := R_Log) (T := F_Log) (N := 15) hx hb hts i_Log hown hK hP 0 rfl rfl 1 (by decide) (hts _ wf_Log_21) (fun _ h9 => h9) rfl d_Log_feed_63 ?_
      obtain ⟨q6, hq6, hm⟩ := ob hm
      refine inv_rV (C := R_Bytes) (As := []) (rest := []) (v := .int q6) X (c_Bytes_size l D ca (ad 3) (ad 4) _ (g_tape g) q6 hq6) g_Log_73 yo_Bytes_size ⟨Nat.le_of_ble_eq_true rfl, Nat.le_of_ble_eq_true rfl⟩ hl hP hD [3, 4] rfl rfl (ci := 1) rfl rfl hS hA rfl rfl (Nat.le_of_ble_eq_true rfl) ⟨Nat.zero_le _, Nat.zero_le _⟩ d_Log_feed_66 (fun H locs hP hS => ?_)
      cases hm
      exact ret_mi X hP hS d_Log_feed_69
    · replace hm := ineg c5 hm
      refine lv_aload_n hx hb d_Log_feed_41 rfl (lv_at hl 0 rfl) ?_
      refine va_get (D := D) (ci := 5) (v := .ref (ad 3)) (C := R_Log) (T := F_Log) (N := 15) hx hb hts i_Log hown hK hP 0 rfl rfl 1 (by decide) (hts _ wf_Log_21) (fun _ h9 => h9) rfl d_Log_feed_42 ?_
      refine lv_lload_n hx hb d_Log_feed_45 rfl (lv_at hl 1 rfl) ?_
      refine lv_bipush (v := 8) hx hb d_Log_feed_46 (by decide) ?_
      refine lv_iload hx hb d_Log_feed_48 (lv_at hl 3 rfl) ?_
      refine lv_imul hx hb d_Log_feed_50 ?_
      refine lv_lushr (v := (jlushr v1 (8 * v4))) hx hb d_Log_feed_51 rfl ?_
      refine lv_iconst (v := 1) hx hb d_Log_feed_52 (by decide) ?_
      obtain ⟨q7, hq7, hm⟩ := ob hm
      refine inv_mU (C := R_Bytes) (As := [.long (jlushr v1 (8 * v4)), .int 1]) (rest := []) (ws' := wl_Log ca ad (s_tape g q7)) X (c_Bytes_add l D ca (ad 3) (ad 4) _ (g_tape g) (jlushr v1 (8 * v4)) 1 q7 hq7) g_Log_76 yo_Bytes_add ⟨Nat.le_of_ble_eq_true rfl, Nat.le_of_ble_eq_true rfl⟩ hl hP hD [3, 4] rfl rfl rfl rfl (ci := 1) rfl rfl hS hA rfl rfl (Nat.le_of_ble_eq_true rfl) ⟨Nat.zero_le _, Nat.zero_le _⟩ d_Log_feed_53 (fun H locs hP hD hS => ?_)
      refine lv_iinc (v := (v4 + 1)) (lv' := [(4, .int (v4 + 1)), (0, .ref (ad 0)), (1, .long v1), (3, .int v3)]) hx hb d_Log_feed_56 hl (k := 3) rfl rfl (by decide) rfl (fun ls hl => ?_)
      refine lv_goto (tgt := 35) hx hb d_Log_feed_59 (by decide) ?_
      exact ih (s_tape g q7) v1 v3 (v4 + 1) _ hm _ _ hP hD hS ls (lv_sub hl [1, 2, 3, 0] rfl)
set_option maxHeartbeats 4000000 in
set_option maxRecDepth 100000 in
theorem c_Log_feed (l : Launch) (D : va_G) (ca : Nat → ClassId) (ad : Nat → Nat) (sz : Nat) (g : St_Log) (p1 : Int64) (p3 : Int32) (res : Int32 × St_Log) (hm : m_Log_feed g p1 p3 = some res) : Met l y_Log_feed (cws y_Log_feed b_Log_feed 5 (some .int)) (RM 4 85) (PreW D ca (wl_Log ca ad g) [.ref (ad 0), .long p1, .int p3] sz) (QRm D (some (.int res.1)) (wl_Log ca ad res.2) (va_A (wl_Log ca ad g) sz)) 0 0 (va_A (wl_Log ca ad g) sz) := by
  refine met_ofM (own := R_Log) (by decide) rfl (Nat.le_of_ble_eq_true rfl) ?_
  intro p e s m below meth c A X hA hP hD ls hl
  obtain ⟨hx, hb, hml, hr, hown, hts, hK, hlocks⟩ := id X
  have hS : va_S A s.heap s.heap [] := va_S.rf
  have hl : lv_has ls 5 [(0, .ref (ad 0)), (1, .long p1), (3, .int p3)] := hl
  unfold m_Log_feed at hm
  refine lv_iload_n hx hb d_Log_feed_0 rfl (lv_at hl 2 rfl) ?_
  refine lv_iconst (v := 1) hx hb d_Log_feed_1 (by decide) ?_
  refine lv_icmp_lt (tgt := 11) hx hb d_Log_feed_2 (by decide) (fun c1 => ?_) (fun c1 => ?_)
  · replace hm := ip c1 hm
    refine lv_bipush (v := (-2)) hx hb d_Log_feed_11 (by decide) ?_
    cases hm
    exact ret_mi X hP hS d_Log_feed_13
  · replace hm := ineg c1 hm
    refine lv_iload_n hx hb d_Log_feed_5 rfl (lv_at hl 2 rfl) ?_
    refine lv_bipush (v := 8) hx hb d_Log_feed_6 (by decide) ?_
    refine lv_icmp_le (tgt := 14) hx hb d_Log_feed_8 (by decide) (fun c2 => ?_) (fun c2 => ?_)
    · replace hm := ip c2 hm
      refine lv_aload_n hx hb d_Log_feed_14 rfl (lv_at hl 0 rfl) ?_
      refine va_get (D := D) (ci := 5) (v := .ref (ad 3)) (C := R_Log) (T := F_Log) (N := 15) hx hb hts i_Log hown hK hP 0 rfl rfl 1 (by decide) (hts _ wf_Log_21) (fun _ h9 => h9) rfl d_Log_feed_15 ?_
      obtain ⟨q3, hq3, hm⟩ := ob hm
      refine inv_rV (C := R_Bytes) (As := []) (rest := []) (v := .int q3) X (c_Bytes_size l D ca (ad 3) (ad 4) _ (g_tape g) q3 hq3) g_Log_73 yo_Bytes_size ⟨Nat.le_of_ble_eq_true rfl, Nat.le_of_ble_eq_true rfl⟩ hl hP hD [3, 4] rfl rfl (ci := 1) rfl rfl hS hA rfl rfl (Nat.le_of_ble_eq_true rfl) ⟨Nat.zero_le _, Nat.zero_le _⟩ d_Log_feed_18 (fun H locs hP hS => ?_)
      refine lv_iload_n hx hb d_Log_feed_21 rfl (lv_at hl 2 rfl) ?_
      refine lv_iadd hx hb d_Log_feed_22 ?_
      refine lv_sipush (v := 2000) hx hb d_Log_feed_23 (by decide) ?_
      refine lv_icmp_le (tgt := 32) hx hb d_Log_feed_26 (by decide) (fun c4 => ?_) (fun c4 => ?_)
      · replace hm := ip c4 hm
        refine lv_iconst (v := 0) hx hb d_Log_feed_32 (by decide) ?_
        refine lv_istore (lv' := [(4, .int 0), (0, .ref (ad 0)), (1, .long p1), (3, .int p3)]) hx hb d_Log_feed_33 hl (by decide) rfl (fun ls hl => ?_)
        exact k_m_Log_feed_L35 X hA FU g p1 p3 0 _ hm _ _ hP hD hS ls (lv_sub hl [1, 2, 3, 0] rfl)
      · replace hm := ineg c4 hm
        refine lv_bipush (v := (-4)) hx hb d_Log_feed_29 (by decide) ?_
        cases hm
        exact ret_mi X hP hS d_Log_feed_31
    · replace hm := ineg c2 hm
      refine lv_bipush (v := (-2)) hx hb d_Log_feed_11 (by decide) ?_
      cases hm
      exact ret_mi X hP hS d_Log_feed_13
set_option maxHeartbeats 4000000 in
set_option maxRecDepth 100000 in
theorem c_Log_wipe (l : Launch) (D : va_G) (ca : Nat → ClassId) (ad : Nat → Nat) (sz : Nat) (g : St_Log)  (res : Int32 × St_Log) (hm : m_Log_wipe g = some res) : Met l y_Log_wipe (cws y_Log_wipe b_Log_wipe 2 (some .int)) (RM 1 21) (PreW D ca (wl_Log ca ad g) [.ref (ad 0)] sz) (QRm D (some (.int res.1)) (wl_Log ca ad res.2) (va_A (wl_Log ca ad g) sz)) 0 0 (va_A (wl_Log ca ad g) sz) := by
  refine met_ofM (own := R_Log) (by decide) rfl (Nat.le_of_ble_eq_true rfl) ?_
  intro p e s m below meth c A X hA hP hD ls hl
  obtain ⟨hx, hb, hml, hr, hown, hts, hK, hlocks⟩ := id X
  have hS : va_S A s.heap s.heap [] := va_S.rf
  have hl : lv_has ls 2 [(0, .ref (ad 0))] := hl
  unfold m_Log_wipe at hm
  refine lv_aload_n hx hb d_Log_wipe_0 rfl (lv_at hl 0 rfl) ?_
  refine va_get (D := D) (ci := 5) (v := .ref (ad 3)) (C := R_Log) (T := F_Log) (N := 15) hx hb hts i_Log hown hK hP 0 rfl rfl 1 (by decide) (hts _ wf_Log_21) (fun _ h9 => h9) rfl d_Log_wipe_1 ?_
  obtain ⟨q1, hq1, hm⟩ := ob hm
  refine inv_rV (C := R_Bytes) (As := []) (rest := []) (v := .int q1) X (c_Bytes_size l D ca (ad 3) (ad 4) _ (g_tape g) q1 hq1) g_Log_73 yo_Bytes_size ⟨Nat.le_of_ble_eq_true rfl, Nat.le_of_ble_eq_true rfl⟩ hl hP hD [3, 4] rfl rfl (ci := 1) rfl rfl hS hA rfl rfl (Nat.le_of_ble_eq_true rfl) ⟨Nat.zero_le _, Nat.zero_le _⟩ d_Log_wipe_4 (fun H locs hP hS => ?_)
  refine lv_istore_n (lv' := [(1, .int q1), (0, .ref (ad 0))]) hx hb d_Log_wipe_7 rfl hl (by decide) rfl (fun ls hl => ?_)
  refine lv_aload_n hx hb d_Log_wipe_8 rfl (lv_at hl 1 rfl) ?_
  refine va_get (D := D) (ci := 5) (v := .ref (ad 3)) (C := R_Log) (T := F_Log) (N := 15) hx hb hts i_Log hown hK hP 0 rfl rfl 1 (by decide) (hts _ wf_Log_21) (fun _ h9 => h9) rfl d_Log_wipe_9 ?_
  obtain ⟨q2, hq2, hm⟩ := ob hm
  refine inv_mU (C := R_Bytes) (As := []) (rest := []) (ws' := wl_Log ca ad (s_tape g q2)) X (c_Bytes_clear l D ca (ad 3) (ad 4) _ (g_tape g) q2 hq2) g_Log_80 yo_Bytes_clear ⟨Nat.le_of_ble_eq_true rfl, Nat.le_of_ble_eq_true rfl⟩ hl hP hD [3, 4] rfl rfl rfl rfl (ci := 1) rfl rfl hS hA rfl rfl (Nat.le_of_ble_eq_true rfl) ⟨Nat.zero_le _, Nat.zero_le _⟩ d_Log_wipe_12 (fun H locs hP hD hS => ?_)
  refine lv_iload_n hx hb d_Log_wipe_15 rfl (lv_at hl 0 rfl) ?_
  cases hm
  exact ret_mi X hP hS d_Log_wipe_16
set_option maxHeartbeats 4000000 in
set_option maxRecDepth 100000 in
theorem c_Log_drawSum (l : Launch) (D : va_G) (ca : Nat → ClassId) (ad : Nat → Nat) (sz : Nat) (g : St_Log)  (res : St_Log) (hm : m_Log_drawSum g = some res) : Met l y_Log_drawSum (cws y_Log_drawSum b_Log_drawSum 1 none) (RM 3 62) (PreW D ca (wl_Log ca ad g) [.ref (ad 0)] sz) (QRm D none (wl_Log ca ad res) (va_A (wl_Log ca ad g) sz)) 0 0 (va_A (wl_Log ca ad g) sz) := by
  refine met_ofM (own := R_Log) (by decide) rfl (Nat.le_of_ble_eq_true rfl) ?_
  intro p e s m below meth c A X hA hP hD ls hl
  obtain ⟨hx, hb, hml, hr, hown, hts, hK, hlocks⟩ := id X
  have hS : va_S A s.heap s.heap [] := va_S.rf
  have hl : lv_has ls 1 [(0, .ref (ad 0))] := hl
  unfold m_Log_drawSum at hm
  refine lv_aload_n hx hb d_Log_drawSum_0 rfl (lv_at hl 0 rfl) ?_
  refine va_get (D := D) (ci := 5) (v := .ref (ad 5)) (C := R_Log) (T := F_Log) (N := 15) hx hb hts i_Log hown hK hP 0 rfl rfl 2 (by decide) (hts _ wf_Log_25) (fun _ h9 => h9) rfl d_Log_drawSum_1 ?_
  refine lv_bipush (v := 24) hx hb d_Log_drawSum_4 (by decide) ?_
  refine lv_aload_n hx hb d_Log_drawSum_6 rfl (lv_at hl 0 rfl) ?_
  refine va_get (D := D) (ci := 5) (v := .ref (ad 5)) (C := R_Log) (T := F_Log) (N := 15) hx hb hts i_Log hown hK hP 0 rfl rfl 2 (by decide) (hts _ wf_Log_25) (fun _ h9 => h9) rfl d_Log_drawSum_7 ?_
  refine lv_iconst (v := 0) hx hb d_Log_drawSum_10 (by decide) ?_
  refine lv_bipush (v := 24) hx hb d_Log_drawSum_11 (by decide) ?_
  obtain ⟨q1, hq1, hm⟩ := ob hm
  refine inv_rV (C := R_Bytes) (As := [.int 0, .int 24]) (rest := [.int 24, .ref (ad 5)]) (v := .long q1) X (c_Bytes_digest l D ca (ad 5) (ad 6) _ (g_image g) 0 24 q1 hq1) g_Log_290 yo_Bytes_digest ⟨Nat.le_of_ble_eq_true rfl, Nat.le_of_ble_eq_true rfl⟩ hl hP hD [5, 6] rfl rfl (ci := 1) rfl rfl hS hA rfl rfl (Nat.le_of_ble_eq_true rfl) ⟨Nat.zero_le _, Nat.zero_le _⟩ d_Log_drawSum_13 (fun H locs hP hS => ?_)
  refine lv_bipush (v := 8) hx hb d_Log_drawSum_16 (by decide) ?_
  obtain ⟨q2, hq2, hm⟩ := ob hm
  refine inv_mU (C := R_Bytes) (As := [.int 24, .long q1, .int 8]) (rest := []) (ws' := wl_Log ca ad (s_image g q2)) X (c_Bytes_put l D ca (ad 5) (ad 6) _ (g_image g) 24 q1 8 q2 hq2) g_Log_286 yo_Bytes_put ⟨Nat.le_of_ble_eq_true rfl, Nat.le_of_ble_eq_true rfl⟩ hl hP hD [5, 6] rfl rfl rfl rfl (ci := 1) rfl rfl hS hA rfl rfl (Nat.le_of_ble_eq_true rfl) ⟨Nat.zero_le _, Nat.zero_le _⟩ d_Log_drawSum_18 (fun H locs hP hD hS => ?_)
  cases hm
  exact ret_mv X hP hS d_Log_drawSum_21
set_option maxHeartbeats 4000000 in
set_option maxRecDepth 100000 in
theorem k_m_Log_drawPart_L45 {p : Program} {l : Launch} {e : Env} {s : State} {m : MethodId} {args : Array Value} {below : List Frame} {meth : Method} {c : Code} {D : va_G} {ca : Nat → ClassId} {ad : Nat → Nat} {A : Nat → Prop} (X : Cx p s m args meth c R_Log b_Log_drawPart 8 none D ca) (hA : ∀ q, s.heap.size ≤ q → A q)  : ∀ (n : Nat) (g : St_Log) (v1 : Int32) (v2 : Int32) (v3 : Int64) (v5 : Int32) (v6 : Int32) (v7 : Int32) (res : St_Log), m_Log_drawPart_L45  n g v1 v2 v3 v5 v6 v7 = some res → ∀ (H : Heap) (locs : List Loc), va_P D classes (wl_Log ca ad g) H → va_D A (wl_Log ca ad g) → va_S A s.heap H locs → ∀ ls : Array Slot, lv_has ls 8 [(0, .ref (ad 0)), (1, .int v1), (2, .int v2), (3, .long v3), (5, .int v5), (6, .int v6), (7, .int v7)] → W p l e (RM 4 82) s m args below meth c H locs 0 0 (MQ below (QRm D none (wl_Log ca ad res) A) args s 0 0 A) (F0 m 45 ls []) := by
  obtain ⟨hx, hb, hml, hr, hown, hts, hK, hlocks⟩ := id X
  intro n
  induction n with
  | zero =>
    intro g v1 v2 v3 v5 v6 v7 res hm
    rw [m_Log_drawPart_L45] at hm
    cases hm
  | succ n ih =>
    intro g v1 v2 v3 v5 v6 v7 res hm H locs hP hD hS ls hl
    rw [m_Log_drawPart_L45] at hm
    refine lv_iload hx hb d_Log_drawPart_45 (lv_at hl 6 rfl) ?_
    refine lv_iload hx hb d_Log_drawPart_47 (lv_at hl 5 rfl) ?_
    refine lv_icmp_ge (tgt := 97) hx hb d_Log_drawPart_49 (by decide) (fun c4 => ?_) (fun c4 => ?_)
    · replace hm := ip c4 hm
      refine lv_aload_n hx hb d_Log_drawPart_97 rfl (lv_at hl 0 rfl) ?_
      refine va_get (D := D) (ci := 5) (v := .ref (ad 5)) (C := R_Log) (T := F_Log) (N := 15) hx hb hts i_Log hown hK hP 0 rfl rfl 2 (by decide) (hts _ wf_Log_25) (fun _ h9 => h9) rfl d_Log_drawPart_98 ?_
      refine lv_iconst (v := 0) hx hb d_Log_drawPart_101 (by decide) ?_
      refine lv_lconst (v := 1) hx hb d_Log_drawPart_102 (by decide) ?_
      refine lv_iconst (v := 1) hx hb d_Log_drawPart_103 (by decide) ?_
      obtain ⟨q5, hq5, hm⟩ := ob hm
      refine inv_mU (C := R_Bytes) (As := [.int 0, .long 1, .int 1]) (rest := []) (ws' := wl_Log ca ad (s_image g q5)) X (c_Bytes_put l D ca (ad 5) (ad 6) _ (g_image g) 0 1 1 q5 hq5) g_Log_286 yo_Bytes_put ⟨Nat.le_of_ble_eq_true rfl, Nat.le_of_ble_eq_true rfl⟩ hl hP hD [5, 6] rfl rfl rfl rfl (ci := 1) rfl rfl hS hA rfl rfl (Nat.le_of_ble_eq_true rfl) ⟨Nat.zero_le _, Nat.zero_le _⟩ d_Log_drawPart_104 (fun H locs hP hD hS => ?_)
      refine lv_aload_n hx hb d_Log_drawPart_107 rfl (lv_at hl 0 rfl) ?_
      refine va_get (D := D) (ci := 5) (v := .ref (ad 5)) (C := R_Log) (T := F_Log) (N := 15) hx hb hts i_Log hown hK hP 0 rfl rfl 2 (by decide) (hts _ wf_Log_25) (fun _ h9 => h9) rfl d_Log_drawPart_108 ?_
      refine lv_iconst (v := 1) hx hb d_Log_drawPart_111 (by decide) ?_
      refine lv_iload_n hx hb d_Log_drawPart_112 rfl (lv_at hl 2 rfl) ?_
      refine lv_i2l (v := ((v2).toInt64)) hx hb d_Log_drawPart_113 rfl ?_
      refine lv_iconst (v := 1) hx hb d_Log_drawPart_114 (by decide) ?_
      obtain ⟨q6, hq6, hm⟩ := ob hm
      refine inv_mU (C := R_Bytes) (As := [.int 1, .long ((v2).toInt64), .int 1]) (rest := []) (ws' := wl_Log ca ad (s_image (s_image g q5) q6)) X (c_Bytes_put l D ca (ad 5) (ad 6) _ q5 1 ((v2).toInt64) 1 q6 hq6) g_Log_286 yo_Bytes_put ⟨Nat.le_of_ble_eq_true rfl, Nat.le_of_ble_eq_true rfl⟩ hl hP hD [5, 6] rfl rfl rfl rfl (ci := 1) rfl rfl hS hA rfl rfl (Nat.le_of_ble_eq_true rfl) ⟨Nat.zero_le _, Nat.zero_le _⟩ d_Log_drawPart_115 (fun H locs hP hD hS => ?_)
      refine lv_aload_n hx hb d_Log_drawPart_118 rfl (lv_at hl 0 rfl) ?_
      refine va_get (D := D) (ci := 5) (v := .ref (ad 5)) (C := R_Log) (T := F_Log) (N := 15) hx hb hts i_Log hown hK hP 0 rfl rfl 2 (by decide) (hts _ wf_Log_25) (fun _ h9 => h9) rfl d_Log_drawPart_119 ?_
      refine lv_iconst (v := 2) hx hb d_Log_drawPart_122 (by decide) ?_
      refine lv_iload hx hb d_Log_drawPart_123 (lv_at hl 5 rfl) ?_
      refine lv_i2l (v := ((v6).toInt64)) hx hb d_Log_drawPart_125 rfl ?_
      refine lv_iconst (v := 2) hx hb d_Log_drawPart_126 (by decide) ?_
      obtain ⟨q7, hq7, hm⟩ := ob hm
      refine inv_mU (C := R_Bytes) (As := [.int 2, .long ((v6).toInt64), .int 2]) (rest := []) (ws' := wl_Log ca ad (s_image (s_image (s_image g q5) q6) q7)) X (c_Bytes_put l D ca (ad 5) (ad 6) _ q6 2 ((v6).toInt64) 2 q7 hq7) g_Log_286 yo_Bytes_put ⟨Nat.le_of_ble_eq_true rfl, Nat.le_of_ble_eq_true rfl⟩ hl hP hD [5, 6] rfl rfl rfl rfl (ci := 1) rfl rfl hS hA rfl rfl (Nat.le_of_ble_eq_true rfl) ⟨Nat.zero_le _, Nat.zero_le _⟩ d_Log_drawPart_127 (fun H locs hP hD hS => ?_)
      refine lv_aload_n hx hb d_Log_drawPart_130 rfl (lv_at hl 0 rfl) ?_
      refine va_get (D := D) (ci := 5) (v := .ref (ad 5)) (C := R_Log) (T := F_Log) (N := 15) hx hb hts i_Log hown hK hP 0 rfl rfl 2 (by decide) (hts _ wf_Log_25) (fun _ h9 => h9) rfl d_Log_drawPart_131 ?_
      refine lv_iconst (v := 4) hx hb d_Log_drawPart_134 (by decide) ?_
      refine lv_iload_n hx hb d_Log_drawPart_135 rfl (lv_at hl 1 rfl) ?_
      refine lv_i2l (v := ((v1).toInt64)) hx hb d_Log_drawPart_136 rfl ?_
      refine lv_iconst (v := 4) hx hb d_Log_drawPart_137 (by decide) ?_
      obtain ⟨q8, hq8, hm⟩ := ob hm
      refine inv_mU (C := R_Bytes) (As := [.int 4, .long ((v1).toInt64), .int 4]) (rest := []) (ws' := wl_Log ca ad (s_image (s_image (s_image (s_image g q5) q6) q7) q8)) X (c_Bytes_put l D ca (ad 5) (ad 6) _ q7 4 ((v1).toInt64) 4 q8 hq8) g_Log_286 yo_Bytes_put ⟨Nat.le_of_ble_eq_true rfl, Nat.le_of_ble_eq_true rfl⟩ hl hP hD [5, 6] rfl rfl rfl rfl (ci := 1) rfl rfl hS hA rfl rfl (Nat.le_of_ble_eq_true rfl) ⟨Nat.zero_le _, Nat.zero_le _⟩ d_Log_drawPart_138 (fun H locs hP hD hS => ?_)
      refine lv_aload_n hx hb d_Log_drawPart_141 rfl (lv_at hl 0 rfl) ?_
      refine va_get (D := D) (ci := 5) (v := .ref (ad 5)) (C := R_Log) (T := F_Log) (N := 15) hx hb hts i_Log hown hK hP 0 rfl rfl 2 (by decide) (hts _ wf_Log_25) (fun _ h9 => h9) rfl d_Log_drawPart_142 ?_
      refine lv_bipush (v := 8) hx hb d_Log_drawPart_145 (by decide) ?_
      refine lv_lload_n hx hb d_Log_drawPart_147 rfl (lv_at hl 3 rfl) ?_
      refine lv_bipush (v := 8) hx hb d_Log_drawPart_148 (by decide) ?_
      obtain ⟨q9, hq9, hm⟩ := ob hm
      refine inv_mU (C := R_Bytes) (As := [.int 8, .long v3, .int 8]) (rest := []) (ws' := wl_Log ca ad (s_image (s_image (s_image (s_image (s_image g q5) q6) q7) q8) q9)) X (c_Bytes_put l D ca (ad 5) (ad 6) _ q8 8 v3 8 q9 hq9) g_Log_286 yo_Bytes_put ⟨Nat.le_of_ble_eq_true rfl, Nat.le_of_ble_eq_true rfl⟩ hl hP hD [5, 6] rfl rfl rfl rfl (ci := 1) rfl rfl hS hA rfl rfl (Nat.le_of_ble_eq_true rfl) ⟨Nat.zero_le _, Nat.zero_le _⟩ d_Log_drawPart_150 (fun H locs hP hD hS => ?_)
      refine lv_aload_n hx hb d_Log_drawPart_153 rfl (lv_at hl 0 rfl) ?_
      refine va_get (D := D) (ci := 5) (v := .ref (ad 5)) (C := R_Log) (T := F_Log) (N := 15) hx hb hts i_Log hown hK hP 0 rfl rfl 2 (by decide) (hts _ wf_Log_25) (fun _ h9 => h9) rfl d_Log_drawPart_154 ?_
      refine lv_bipush (v := 16) hx hb d_Log_drawPart_157 (by decide) ?_
      refine lv_aload_n hx hb d_Log_drawPart_159 rfl (lv_at hl 0 rfl) ?_
      refine va_get (D := D) (ci := 5) (v := .ref (ad 5)) (C := R_Log) (T := F_Log) (N := 15) hx hb hts i_Log hown hK hP 0 rfl rfl 2 (by decide) (hts _ wf_Log_25) (fun _ h9 => h9) rfl d_Log_drawPart_160 ?_
      refine lv_bipush (v := 32) hx hb d_Log_drawPart_163 (by decide) ?_
      refine lv_bipush (v := 32) hx hb d_Log_drawPart_165 (by decide) ?_
      refine lv_iload hx hb d_Log_drawPart_167 (lv_at hl 5 rfl) ?_
      obtain ⟨q10, hq10, hm⟩ := ob hm
      refine inv_rS (As := [.int v6]) (rest := [.int 32, .int 32, .ref (ad 5), .int 16, .ref (ad 5)]) (v := .int q10) X (c_Log_rowsOfPart l D ca  _ v6 q10 hq10) g_Log_270 yo_Log_rowsOfPart ⟨Nat.le_of_ble_eq_true rfl, Nat.le_of_ble_eq_true rfl⟩ hl hP hD [] rfl rfl hS hA rfl rfl (Nat.le_of_ble_eq_true rfl) ⟨Nat.zero_le _, Nat.zero_le _⟩ d_Log_drawPart_169 (fun H locs hP hS => ?_)
      refine lv_imul hx hb d_Log_drawPart_172 ?_
      obtain ⟨q11, hq11, hm⟩ := ob hm
      refine inv_rV (C := R_Bytes) (As := [.int 32, .int (32 * q10)]) (rest := [.int 16, .ref (ad 5)]) (v := .long q11) X (c_Bytes_digest l D ca (ad 5) (ad 6) _ q9 32 (32 * q10) q11 hq11) g_Log_290 yo_Bytes_digest ⟨Nat.le_of_ble_eq_true rfl, Nat.le_of_ble_eq_true rfl⟩ hl hP hD [5, 6] rfl rfl (ci := 1) rfl rfl hS hA rfl rfl (Nat.le_of_ble_eq_true rfl) ⟨Nat.zero_le _, Nat.zero_le _⟩ d_Log_drawPart_173 (fun H locs hP hS => ?_)
      refine lv_bipush (v := 8) hx hb d_Log_drawPart_176 (by decide) ?_
      obtain ⟨q12, hq12, hm⟩ := ob hm
      refine inv_mU (C := R_Bytes) (As := [.int 16, .long q11, .int 8]) (rest := []) (ws' := wl_Log ca ad (s_image (s_image (s_image (s_image (s_image (s_image g q5) q6) q7) q8) q9) q12)) X (c_Bytes_put l D ca (ad 5) (ad 6) _ q9 16 q11 8 q12 hq12) g_Log_286 yo_Bytes_put ⟨Nat.le_of_ble_eq_true rfl, Nat.le_of_ble_eq_true rfl⟩ hl hP hD [5, 6] rfl rfl rfl rfl (ci := 1) rfl rfl hS hA rfl rfl (Nat.le_of_ble_eq_true rfl) ⟨Nat.zero_le _, Nat.zero_le _⟩ d_Log_drawPart_178 (fun H locs hP hD hS => ?_)
      refine lv_aload_n hx hb d_Log_drawPart_181 rfl (lv_at hl 0 rfl) ?_
      obtain ⟨q13, hq13, hm⟩ := ob hm
      refine inv_mUa (C := R_Log) (As := []) (rest := []) X (c_Log_drawSum l D ca ad _ (s_image (s_image (s_image (s_image (s_image (s_image g q5) q6) q7) q8) q9) q12) q13 hq13) g_Log_294 yo_Log_drawSum ⟨Nat.le_of_ble_eq_true rfl, Nat.le_of_ble_eq_true rfl⟩ hl hP hD rfl (ci := 5) rfl rfl hS hA rfl rfl (Nat.le_of_ble_eq_true rfl) ⟨Nat.zero_le _, Nat.zero_le _⟩ d_Log_drawPart_182 (fun H locs hP hD hS => ?_)
      cases hm
      exact ret_mv X hP hS d_Log_drawPart_185
    · replace hm := ineg c4 hm
      refine lv_aload_n hx hb d_Log_drawPart_52 rfl (lv_at hl 0 rfl) ?_
      refine va_get (D := D) (ci := 5) (v := .ref (ad 5)) (C := R_Log) (T := F_Log) (N := 15) hx hb hts i_Log hown hK hP 0 rfl rfl 2 (by decide) (hts _ wf_Log_25) (fun _ h9 => h9) rfl d_Log_drawPart_53 ?_
      refine lv_bipush (v := 32) hx hb d_Log_drawPart_56 (by decide) ?_
      refine lv_iconst (v := 1) hx hb d_Log_drawPart_58 (by decide) ?_
      refine lv_iload hx hb d_Log_drawPart_59 (lv_at hl 6 rfl) ?_
      refine lv_bipush (v := 31) hx hb d_Log_drawPart_61 (by decide) ?_
      refine lv_idiv hx hb d_Log_drawPart_63 (by decide) ?_
      refine lv_iadd hx hb d_Log_drawPart_64 ?_
      refine lv_imul hx hb d_Log_drawPart_65 ?_
      refine lv_iconst (v := 1) hx hb d_Log_drawPart_66 (by decide) ?_
      refine lv_iadd hx hb d_Log_drawPart_67 ?_
      refine lv_iload hx hb d_Log_drawPart_68 (lv_at hl 6 rfl) ?_
      refine lv_bipush (v := 31) hx hb d_Log_drawPart_70 (by decide) ?_
      refine lv_irem hx hb d_Log_drawPart_72 (by decide) ?_
      refine lv_iadd hx hb d_Log_drawPart_73 ?_
      refine lv_aload_n hx hb d_Log_drawPart_74 rfl (lv_at hl 0 rfl) ?_
      refine va_get (D := D) (ci := 5) (v := .ref (ad 3)) (C := R_Log) (T := F_Log) (N := 15) hx hb hts i_Log hown hK hP 0 rfl rfl 1 (by decide) (hts _ wf_Log_21) (fun _ h9 => h9) rfl d_Log_drawPart_75 ?_
      refine lv_iload hx hb d_Log_drawPart_78 (lv_at hl 4 rfl) ?_
      refine lv_iload hx hb d_Log_drawPart_80 (lv_at hl 6 rfl) ?_
      refine lv_iadd hx hb d_Log_drawPart_82 ?_
      obtain ⟨q14, hq14, hm⟩ := ob hm
      refine inv_rV (C := R_Bytes) (As := [.int (v5 + v7)]) (rest := [.int (((32 * (1 + (v7 / 31))) + 1) + (jrem v7 31)), .ref (ad 5)]) (v := .int q14) X (c_Bytes_at l D ca (ad 3) (ad 4) _ (g_tape g) (v5 + v7) q14 hq14) g_Log_239 yo_Bytes_at ⟨Nat.le_of_ble_eq_true rfl, Nat.le_of_ble_eq_true rfl⟩ hl hP hD [3, 4] rfl rfl (ci := 1) rfl rfl hS hA rfl rfl (Nat.le_of_ble_eq_true rfl) ⟨Nat.zero_le _, Nat.zero_le _⟩ d_Log_drawPart_83 (fun H locs hP hS => ?_)
      refine lv_i2l (v := ((q14).toInt64)) hx hb d_Log_drawPart_86 rfl ?_
      refine lv_iconst (v := 1) hx hb d_Log_drawPart_87 (by decide) ?_
      obtain ⟨q15, hq15, hm⟩ := ob hm
      refine inv_mU (C := R_Bytes) (As := [.int (((32 * (1 + (v7 / 31))) + 1) + (jrem v7 31)), .long ((q14).toInt64), .int 1]) (rest := []) (ws' := wl_Log ca ad (s_image g q15)) X (c_Bytes_put l D ca (ad 5) (ad 6) _ (g_image g) (((32 * (1 + (v7 / 31))) + 1) + (jrem v7 31)) ((q14).toInt64) 1 q15 hq15) g_Log_286 yo_Bytes_put ⟨Nat.le_of_ble_eq_true rfl, Nat.le_of_ble_eq_true rfl⟩ hl hP hD [5, 6] rfl rfl rfl rfl (ci := 1) rfl rfl hS hA rfl rfl (Nat.le_of_ble_eq_true rfl) ⟨Nat.zero_le _, Nat.zero_le _⟩ d_Log_drawPart_88 (fun H locs hP hD hS => ?_)
      refine lv_iinc (v := (v7 + 1)) (lv' := [(7, .int (v7 + 1)), (0, .ref (ad 0)), (1, .int v1), (2, .int v2), (3, .long v3), (5, .int v5), (6, .int v6)]) hx hb d_Log_drawPart_91 hl (k := 6) rfl rfl (by decide) rfl (fun ls hl => ?_)
      refine lv_goto (tgt := 45) hx hb d_Log_drawPart_94 (by decide) ?_
      exact ih (s_image g q15) v1 v2 v3 v5 v6 (v7 + 1) _ hm _ _ hP hD hS ls (lv_sub hl [1, 2, 3, 4, 5, 6, 0] rfl)
set_option maxHeartbeats 4000000 in
set_option maxRecDepth 100000 in
theorem k_m_Log_drawPart_L10 {p : Program} {l : Launch} {e : Env} {s : State} {m : MethodId} {args : Array Value} {below : List Frame} {meth : Method} {c : Code} {D : va_G} {ca : Nat → ClassId} {ad : Nat → Nat} {A : Nat → Prop} (X : Cx p s m args meth c R_Log b_Log_drawPart 8 none D ca) (hA : ∀ q, s.heap.size ≤ q → A q)  : ∀ (n : Nat) (g : St_Log) (v1 : Int32) (v2 : Int32) (v3 : Int64) (v5 : Int32) (v6 : Int32) (v7 : Int32) (res : St_Log), m_Log_drawPart_L10  n g v1 v2 v3 v5 v6 v7 = some res → ∀ (H : Heap) (locs : List Loc), va_P D classes (wl_Log ca ad g) H → va_D A (wl_Log ca ad g) → va_S A s.heap H locs → ∀ ls : Array Slot, lv_has ls 8 [(0, .ref (ad 0)), (1, .int v1), (2, .int v2), (3, .long v3), (5, .int v5), (6, .int v6), (7, .int v7)] → W p l e (RM 4 82) s m args below meth c H locs 0 0 (MQ below (QRm D none (wl_Log ca ad res) A) args s 0 0 A) (F0 m 10 ls []) := by
  obtain ⟨hx, hb, hml, hr, hown, hts, hK, hlocks⟩ := id X
  intro n
  induction n with
  | zero =>
    intro g v1 v2 v3 v5 v6 v7 res hm
    rw [m_Log_drawPart_L10] at hm
    cases hm
  | succ n ih =>
    intro g v1 v2 v3 v5 v6 v7 res hm H locs hP hD hS ls hl
    rw [m_Log_drawPart_L10] at hm
    refine lv_iload hx hb d_Log_drawPart_10 (lv_at hl 6 rfl) ?_
    refine lv_iload hx hb d_Log_drawPart_12 (lv_at hl 5 rfl) ?_
    obtain ⟨q2, hq2, hm⟩ := ob hm
    refine inv_rS (As := [.int v6]) (rest := [.int v7]) (v := .int q2) X (c_Log_bodiesOf l D ca  _ v6 q2 hq2) g_Log_259 yo_Log_bodiesOf ⟨Nat.le_of_ble_eq_true rfl, Nat.le_of_ble_eq_true rfl⟩ hl hP hD [] rfl rfl hS hA rfl rfl (Nat.le_of_ble_eq_true rfl) ⟨Nat.zero_le _, Nat.zero_le _⟩ d_Log_drawPart_14 (fun H locs hP hS => ?_)
    refine lv_icmp_gt (tgt := 42) hx hb d_Log_drawPart_17 (by decide) (fun c3 => ?_) (fun c3 => ?_)
    · replace hm := ip c3 hm
      refine lv_iconst (v := 0) hx hb d_Log_drawPart_42 (by decide) ?_
      refine lv_istore (lv' := [(7, .int 0), (0, .ref (ad 0)), (1, .int v1), (2, .int v2), (3, .long v3), (5, .int v5), (6, .int v6)]) hx hb d_Log_drawPart_43 hl (by decide) rfl (fun ls hl => ?_)
      exact k_m_Log_drawPart_L45 X hA FU g v1 v2 v3 v5 v6 0 _ hm _ _ hP hD hS ls (lv_sub hl [1, 2, 3, 4, 5, 6, 0] rfl)
    · replace hm := ineg c3 hm
      refine lv_aload_n hx hb d_Log_drawPart_20 rfl (lv_at hl 0 rfl) ?_
      refine va_get (D := D) (ci := 5) (v := .ref (ad 5)) (C := R_Log) (T := F_Log) (N := 15) hx hb hts i_Log hown hK hP 0 rfl rfl 2 (by decide) (hts _ wf_Log_25) (fun _ h9 => h9) rfl d_Log_drawPart_21 ?_
      refine lv_iload hx hb d_Log_drawPart_24 (lv_at hl 6 rfl) ?_
      refine lv_bipush (v := 32) hx hb d_Log_drawPart_26 (by decide) ?_
      refine lv_imul hx hb d_Log_drawPart_28 ?_
      refine lv_ldc2 hx hb hown (hts _ wc_Log_284) d_Log_drawPart_29 ?_
      refine lv_iconst (v := 1) hx hb d_Log_drawPart_32 (by decide) ?_
      obtain ⟨q16, hq16, hm⟩ := ob hm
      refine inv_mU (C := R_Bytes) (As := [.int (v7 * 32), .long 5, .int 1]) (rest := []) (ws' := wl_Log ca ad (s_image g q16)) X (c_Bytes_put l D ca (ad 5) (ad 6) _ (g_image g) (v7 * 32) 5 1 q16 hq16) g_Log_286 yo_Bytes_put ⟨Nat.le_of_ble_eq_true rfl, Nat.le_of_ble_eq_true rfl⟩ hl hP hD [5, 6] rfl rfl rfl rfl (ci := 1) rfl rfl hS hA rfl rfl (Nat.le_of_ble_eq_true rfl) ⟨Nat.zero_le _, Nat.zero_le _⟩ d_Log_drawPart_33 (fun H locs hP hD hS => ?_)
      refine lv_iinc (v := (v7 + 1)) (lv' := [(7, .int (v7 + 1)), (0, .ref (ad 0)), (1, .int v1), (2, .int v2), (3, .long v3), (5, .int v5), (6, .int v6)]) hx hb d_Log_drawPart_36 hl (k := 6) rfl rfl (by decide) rfl (fun ls hl => ?_)
      refine lv_goto (tgt := 10) hx hb d_Log_drawPart_39 (by decide) ?_
      exact ih (s_image g q16) v1 v2 v3 v5 v6 (v7 + 1) _ hm _ _ hP hD hS ls (lv_sub hl [1, 2, 3, 4, 5, 6, 0] rfl)
set_option maxHeartbeats 4000000 in
set_option maxRecDepth 100000 in
theorem c_Log_drawPart (l : Launch) (D : va_G) (ca : Nat → ClassId) (ad : Nat → Nat) (sz : Nat) (g : St_Log) (p1 : Int32) (p2 : Int32) (p3 : Int64) (p5 : Int32) (p6 : Int32) (res : St_Log) (hm : m_Log_drawPart g p1 p2 p3 p5 p6 = some res) : Met l y_Log_drawPart (cws y_Log_drawPart b_Log_drawPart 8 none) (RM 4 82) (PreW D ca (wl_Log ca ad g) [.ref (ad 0), .int p1, .int p2, .long p3, .int p5, .int p6] sz) (QRm D none (wl_Log ca ad res) (va_A (wl_Log ca ad g) sz)) 0 0 (va_A (wl_Log ca ad g) sz) := by
  refine met_ofM (own := R_Log) (by decide) rfl (Nat.le_of_ble_eq_true rfl) ?_
  intro p e s m below meth c A X hA hP hD ls hl
  obtain ⟨hx, hb, hml, hr, hown, hts, hK, hlocks⟩ := id X
  have hS : va_S A s.heap s.heap [] := va_S.rf
  have hl : lv_has ls 8 [(0, .ref (ad 0)), (1, .int p1), (2, .int p2), (3, .long p3), (5, .int p5), (6, .int p6)] := hl
  unfold m_Log_drawPart at hm
  refine lv_aload_n hx hb d_Log_drawPart_0 rfl (lv_at hl 0 rfl) ?_
  refine va_get (D := D) (ci := 5) (v := .ref (ad 5)) (C := R_Log) (T := F_Log) (N := 15) hx hb hts i_Log hown hK hP 0 rfl rfl 2 (by decide) (hts _ wf_Log_25) (fun _ h9 => h9) rfl d_Log_drawPart_1 ?_
  obtain ⟨q1, hq1, hm⟩ := ob hm
  refine inv_mU (C := R_Bytes) (As := []) (rest := []) (ws' := wl_Log ca ad (s_image g q1)) X (c_Bytes_clear l D ca (ad 5) (ad 6) _ (g_image g) q1 hq1) g_Log_80 yo_Bytes_clear ⟨Nat.le_of_ble_eq_true rfl, Nat.le_of_ble_eq_true rfl⟩ hl hP hD [5, 6] rfl rfl rfl rfl (ci := 1) rfl rfl hS hA rfl rfl (Nat.le_of_ble_eq_true rfl) ⟨Nat.zero_le _, Nat.zero_le _⟩ d_Log_drawPart_4 (fun H locs hP hD hS => ?_)
  refine lv_iconst (v := 1) hx hb d_Log_drawPart_7 (by decide) ?_
  refine lv_istore (lv' := [(7, .int 1), (0, .ref (ad 0)), (1, .int p1), (2, .int p2), (3, .long p3), (5, .int p5), (6, .int p6)]) hx hb d_Log_drawPart_8 hl (by decide) rfl (fun ls hl => ?_)
  exact k_m_Log_drawPart_L10 X hA FU (s_image g q1) p1 p2 p3 p5 p6 1 _ hm _ _ hP hD hS ls (lv_sub hl [1, 2, 3, 4, 5, 6, 0] rfl)
set_option maxHeartbeats 4000000 in
set_option maxRecDepth 100000 in
theorem k_m_Log_writeImage_L2 {p : Program} {l : Launch} {e : Env} {s : State} {m : MethodId} {args : Array Value} {below : List Frame} {meth : Method} {c : Code} {D : va_G} {ca : Nat → ClassId} {ad : Nat → Nat} {A : Nat → Prop} (X : Cx p s m args meth c R_Log b_Log_writeImage 4 (some .boolean) D ca) (hA : ∀ q, s.heap.size ≤ q → A q)  : ∀ (n : Nat) (g : St_Log) (v1 : Int32) (v2 : Int32) (v3 : Int32) (res : Int32 × St_Log), m_Log_writeImage_L2  n g v1 v2 v3 = some res → ∀ (H : Heap) (locs : List Loc), va_P D classes (wl_Log ca ad g) H → va_D A (wl_Log ca ad g) → va_S A s.heap H locs → ∀ ls : Array Slot, lv_has ls 4 [(0, .ref (ad 0)), (1, .int v1), (2, .int v2), (3, .int v3)] → W p l e (RM 3 69) s m args below meth c H locs 0 0 (MQ below (QRm D (some (.int res.1)) (wl_Log ca ad res.2) A) args s 0 0 A) (F0 m 2 ls []) := by
  obtain ⟨hx, hb, hml, hr, hown, hts, hK, hlocks⟩ := id X
  intro n
  induction n with
  | zero =>
    intro g v1 v2 v3 res hm
    rw [m_Log_writeImage_L2] at hm
    cases hm
  | succ n ih =>
    intro g v1 v2 v3 res hm H locs hP hD hS ls hl
    rw [m_Log_writeImage_L2] at hm
    refine lv_iload_n hx hb d_Log_writeImage_2 rfl (lv_at hl 3 rfl) ?_
    refine lv_iload_n hx hb d_Log_writeImage_3 rfl (lv_at hl 2 rfl) ?_
    refine lv_icmp_ge (tgt := 42) hx hb d_Log_writeImage_4 (by decide) (fun c1 => ?_) (fun c1 => ?_)
    · replace hm := ip c1 hm
      refine lv_aload_n hx hb d_Log_writeImage_42 rfl (lv_at hl 0 rfl) ?_
      refine va_get (D := D) (ci := 5) (v := .int (g_isOpen g)) (C := R_Log) (T := F_Log) (N := 15) hx hb hts i_Log hown hK hP 0 rfl rfl 14 (by decide) (hts _ wf_Log_69) (fun _ h9 => h9) rfl d_Log_writeImage_43 ?_
      refine lv_if_eq (tgt := 66) hx hb d_Log_writeImage_46 (by decide) (fun c2 => ?_) (fun c2 => ?_)
      · replace hm := ip c2 hm
        refine lv_aload_n hx hb d_Log_writeImage_66 rfl (lv_at hl 0 rfl) ?_
        refine va_get (D := D) (ci := 5) (v := .ref (ad 11)) (C := R_Log) (T := F_Log) (N := 15) hx hb hts i_Log hown hK hP 0 rfl rfl 5 (by decide) (hts _ wf_Log_41) (fun _ h9 => h9) rfl d_Log_writeImage_67 ?_
        refine lv_iload_n hx hb d_Log_writeImage_70 rfl (lv_at hl 1 rfl) ?_
        refine lv_iload_n hx hb d_Log_writeImage_71 rfl (lv_at hl 2 rfl) ?_
        obtain ⟨q3, hq3, hm⟩ := ob hm
        refine inv_mU (C := R_Room) (As := [.int v1, .int v2]) (rest := []) (ws' := wl_Log ca ad (s_room g q3)) X (c_Room_take l D ca (ad 11) (ad 12) _ (g_room g) v1 v2 q3 hq3) g_Log_321 yo_Room_take ⟨Nat.le_of_ble_eq_true rfl, Nat.le_of_ble_eq_true rfl⟩ hl hP hD [11, 12] rfl rfl rfl rfl (ci := 2) rfl rfl hS hA rfl rfl (Nat.le_of_ble_eq_true rfl) ⟨Nat.zero_le _, Nat.zero_le _⟩ d_Log_writeImage_72 (fun H locs hP hD hS => ?_)
        refine lv_aload_n hx hb d_Log_writeImage_75 rfl (lv_at hl 0 rfl) ?_
        refine va_get (D := D) (ci := 5) (v := .int (g_isOpen g)) (C := R_Log) (T := F_Log) (N := 15) hx hb hts i_Log hown hK hP 0 rfl rfl 14 (by decide) (hts _ wf_Log_69) (fun _ h9 => h9) rfl d_Log_writeImage_76 ?_
        obtain ⟨z4, hm⟩ := on hm
        cases hm
        exact ret_mz X (nz z4).1 hP hS d_Log_writeImage_79
      · replace hm := ineg c2 hm
        refine lv_aload_n hx hb d_Log_writeImage_49 rfl (lv_at hl 0 rfl) ?_
        refine lv_aload_n hx hb d_Log_writeImage_50 rfl (lv_at hl 0 rfl) ?_
        refine va_get (D := D) (ci := 5) (v := .ref (ad 1)) (C := R_Log) (T := F_Log) (N := 15) hx hb hts i_Log hown hK hP 0 rfl rfl 0 (by decide) (hts _ wf_Log_14) (fun _ h9 => h9) rfl d_Log_writeImage_51 ?_
        refine lv_iload_n hx hb d_Log_writeImage_54 rfl (lv_at hl 1 rfl) ?_
        refine lv_aload_n hx hb d_Log_writeImage_55 rfl (lv_at hl 0 rfl) ?_
        refine va_get (D := D) (ci := 5) (v := .ref (ad 5)) (C := R_Log) (T := F_Log) (N := 15) hx hb hts i_Log hown hK hP 0 rfl rfl 2 (by decide) (hts _ wf_Log_25) (fun _ h9 => h9) rfl d_Log_writeImage_56 ?_
        refine lv_iconst (v := 0) hx hb d_Log_writeImage_59 (by decide) ?_
        obtain ⟨q5, hq5, hm⟩ := ob hm
        refine inv_mV (C := R_Medium) (As := [.int v1, .ref (ad 5), .int 0]) (rest := [.ref (ad 0)]) (v := .int q5.1) (ws' := wl_Log ca ad (s_medium g q5.2)) X (c_Medium_write l D ca (ad 1) (ad 2) (ad 5) (ad 6) _ (g_medium g) (g_image g) v1 0 q5 hq5) g_Log_317 yo_Medium_write ⟨Nat.le_of_ble_eq_true rfl, Nat.le_of_ble_eq_true rfl⟩ hl hP hD [1, 2, 5, 6] rfl rfl rfl rfl (ci := 0) rfl rfl hS hA rfl rfl (Nat.le_of_ble_eq_true rfl) ⟨Nat.zero_le _, Nat.zero_le _⟩ d_Log_writeImage_60 (fun H locs hP hD hS => ?_)
        obtain ⟨z6, hm⟩ := on hm
        refine va_put (D := D) (ci := 5) (v := .int q5.1) (ty := .boolean) (C := R_Log) (T := F_Log) (N := 15) hx hb hts i_Log t_Log t_Log_ok n_Log hown hK hP hD hS 0 rfl rfl 14 (by decide) (hts _ wf_Log_69) (fun _ h9 => h9) rfl (by decide +kernel) (nz z6).1 (nz z6).2 (Nat.le_of_ble_eq_true rfl) d_Log_writeImage_63 (fun H locs hP hD hS => ?_)
        replace hP : va_P D classes (wl_Log ca ad (s_isOpen (s_medium g q5.2) q5.1)) H := hP
        replace hD : va_D A (wl_Log ca ad (s_isOpen (s_medium g q5.2) q5.1)) := hD
        refine lv_aload_n hx hb d_Log_writeImage_66 rfl (lv_at hl 0 rfl) ?_
        refine va_get (D := D) (ci := 5) (v := .ref (ad 11)) (C := R_Log) (T := F_Log) (N := 15) hx hb hts i_Log hown hK hP 0 rfl rfl 5 (by decide) (hts _ wf_Log_41) (fun _ h9 => h9) rfl d_Log_writeImage_67 ?_
        refine lv_iload_n hx hb d_Log_writeImage_70 rfl (lv_at hl 1 rfl) ?_
        refine lv_iload_n hx hb d_Log_writeImage_71 rfl (lv_at hl 2 rfl) ?_
        obtain ⟨q7, hq7, hm⟩ := ob hm
        refine inv_mU (C := R_Room) (As := [.int v1, .int v2]) (rest := []) (ws' := wl_Log ca ad (s_room (s_isOpen (s_medium g q5.2) q5.1) q7)) X (c_Room_take l D ca (ad 11) (ad 12) _ (g_room g) v1 v2 q7 hq7) g_Log_321 yo_Room_take ⟨Nat.le_of_ble_eq_true rfl, Nat.le_of_ble_eq_true rfl⟩ hl hP hD [11, 12] rfl rfl rfl rfl (ci := 2) rfl rfl hS hA rfl rfl (Nat.le_of_ble_eq_true rfl) ⟨Nat.zero_le _, Nat.zero_le _⟩ d_Log_writeImage_72 (fun H locs hP hD hS => ?_)
        refine lv_aload_n hx hb d_Log_writeImage_75 rfl (lv_at hl 0 rfl) ?_
        refine va_get (D := D) (ci := 5) (v := .int q5.1) (C := R_Log) (T := F_Log) (N := 15) hx hb hts i_Log hown hK hP 0 rfl rfl 14 (by decide) (hts _ wf_Log_69) (fun _ h9 => h9) rfl d_Log_writeImage_76 ?_
        obtain ⟨z8, hm⟩ := on hm
        cases hm
        exact ret_mz X (nz z8).1 hP hS d_Log_writeImage_79
    · replace hm := ineg c1 hm
      refine lv_aload_n hx hb d_Log_writeImage_7 rfl (lv_at hl 0 rfl) ?_
      refine va_get (D := D) (ci := 5) (v := .int (g_isOpen g)) (C := R_Log) (T := F_Log) (N := 15) hx hb hts i_Log hown hK hP 0 rfl rfl 14 (by decide) (hts _ wf_Log_69) (fun _ h9 => h9) rfl d_Log_writeImage_8 ?_
      refine lv_if_eq (tgt := 42) hx hb d_Log_writeImage_11 (by decide) (fun c9 => ?_) (fun c9 => ?_)
      · replace hm := ip c9 hm
        refine lv_aload_n hx hb d_Log_writeImage_42 rfl (lv_at hl 0 rfl) ?_
        refine va_get (D := D) (ci := 5) (v := .int (g_isOpen g)) (C := R_Log) (T := F_Log) (N := 15) hx hb hts i_Log hown hK hP 0 rfl rfl 14 (by decide) (hts _ wf_Log_69) (fun _ h9 => h9) rfl d_Log_writeImage_43 ?_
        refine lv_if_eq (tgt := 66) hx hb d_Log_writeImage_46 (by decide) (fun c10 => ?_) (fun c10 => ?_)
        · replace hm := ip c10 hm
          refine lv_aload_n hx hb d_Log_writeImage_66 rfl (lv_at hl 0 rfl) ?_
          refine va_get (D := D) (ci := 5) (v := .ref (ad 11)) (C := R_Log) (T := F_Log) (N := 15) hx hb hts i_Log hown hK hP 0 rfl rfl 5 (by decide) (hts _ wf_Log_41) (fun _ h9 => h9) rfl d_Log_writeImage_67 ?_
          refine lv_iload_n hx hb d_Log_writeImage_70 rfl (lv_at hl 1 rfl) ?_
          refine lv_iload_n hx hb d_Log_writeImage_71 rfl (lv_at hl 2 rfl) ?_
          obtain ⟨q11, hq11, hm⟩ := ob hm
          refine inv_mU (C := R_Room) (As := [.int v1, .int v2]) (rest := []) (ws' := wl_Log ca ad (s_room g q11)) X (c_Room_take l D ca (ad 11) (ad 12) _ (g_room g) v1 v2 q11 hq11) g_Log_321 yo_Room_take ⟨Nat.le_of_ble_eq_true rfl, Nat.le_of_ble_eq_true rfl⟩ hl hP hD [11, 12] rfl rfl rfl rfl (ci := 2) rfl rfl hS hA rfl rfl (Nat.le_of_ble_eq_true rfl) ⟨Nat.zero_le _, Nat.zero_le _⟩ d_Log_writeImage_72 (fun H locs hP hD hS => ?_)
          refine lv_aload_n hx hb d_Log_writeImage_75 rfl (lv_at hl 0 rfl) ?_
          refine va_get (D := D) (ci := 5) (v := .int (g_isOpen g)) (C := R_Log) (T := F_Log) (N := 15) hx hb hts i_Log hown hK hP 0 rfl rfl 14 (by decide) (hts _ wf_Log_69) (fun _ h9 => h9) rfl d_Log_writeImage_76 ?_
          obtain ⟨z12, hm⟩ := on hm
          cases hm
          exact ret_mz X (nz z12).1 hP hS d_Log_writeImage_79
        · replace hm := ineg c10 hm
          refine lv_aload_n hx hb d_Log_writeImage_49 rfl (lv_at hl 0 rfl) ?_
          refine lv_aload_n hx hb d_Log_writeImage_50 rfl (lv_at hl 0 rfl) ?_
          refine va_get (D := D) (ci := 5) (v := .ref (ad 1)) (C := R_Log) (T := F_Log) (N := 15) hx hb hts i_Log hown hK hP 0 rfl rfl 0 (by decide) (hts _ wf_Log_14) (fun _ h9 => h9) rfl d_Log_writeImage_51 ?_
          refine lv_iload_n hx hb d_Log_writeImage_54 rfl (lv_at hl 1 rfl) ?_
          refine lv_aload_n hx hb d_Log_writeImage_55 rfl (lv_at hl 0 rfl) ?_
          refine va_get (D := D) (ci := 5) (v := .ref (ad 5)) (C := R_Log) (T := F_Log) (N := 15) hx hb hts i_Log hown hK hP 0 rfl rfl 2 (by decide) (hts _ wf_Log_25) (fun _ h9 => h9) rfl d_Log_writeImage_56 ?_
          refine lv_iconst (v := 0) hx hb d_Log_writeImage_59 (by decide) ?_
          obtain ⟨q13, hq13, hm⟩ := ob hm
          refine inv_mV (C := R_Medium) (As := [.int v1, .ref (ad 5), .int 0]) (rest := [.ref (ad 0)]) (v := .int q13.1) (ws' := wl_Log ca ad (s_medium g q13.2)) X (c_Medium_write l D ca (ad 1) (ad 2) (ad 5) (ad 6) _ (g_medium g) (g_image g) v1 0 q13 hq13) g_Log_317 yo_Medium_write ⟨Nat.le_of_ble_eq_true rfl, Nat.le_of_ble_eq_true rfl⟩ hl hP hD [1, 2, 5, 6] rfl rfl rfl rfl (ci := 0) rfl rfl hS hA rfl rfl (Nat.le_of_ble_eq_true rfl) ⟨Nat.zero_le _, Nat.zero_le _⟩ d_Log_writeImage_60 (fun H locs hP hD hS => ?_)
          obtain ⟨z14, hm⟩ := on hm
          refine va_put (D := D) (ci := 5) (v := .int q13.1) (ty := .boolean) (C := R_Log) (T := F_Log) (N := 15) hx hb hts i_Log t_Log t_Log_ok n_Log hown hK hP hD hS 0 rfl rfl 14 (by decide) (hts _ wf_Log_69) (fun _ h9 => h9) rfl (by decide +kernel) (nz z14).1 (nz z14).2 (Nat.le_of_ble_eq_true rfl) d_Log_writeImage_63 (fun H locs hP hD hS => ?_)
          replace hP : va_P D classes (wl_Log ca ad (s_isOpen (s_medium g q13.2) q13.1)) H := hP
          replace hD : va_D A (wl_Log ca ad (s_isOpen (s_medium g q13.2) q13.1)) := hD
          refine lv_aload_n hx hb d_Log_writeImage_66 rfl (lv_at hl 0 rfl) ?_
          refine va_get (D := D) (ci := 5) (v := .ref (ad 11)) (C := R_Log) (T := F_Log) (N := 15) hx hb hts i_Log hown hK hP 0 rfl rfl 5 (by decide) (hts _ wf_Log_41) (fun _ h9 => h9) rfl d_Log_writeImage_67 ?_
          refine lv_iload_n hx hb d_Log_writeImage_70 rfl (lv_at hl 1 rfl) ?_
          refine lv_iload_n hx hb d_Log_writeImage_71 rfl (lv_at hl 2 rfl) ?_
          obtain ⟨q15, hq15, hm⟩ := ob hm
          refine inv_mU (C := R_Room) (As := [.int v1, .int v2]) (rest := []) (ws' := wl_Log ca ad (s_room (s_isOpen (s_medium g q13.2) q13.1) q15)) X (c_Room_take l D ca (ad 11) (ad 12) _ (g_room g) v1 v2 q15 hq15) g_Log_321 yo_Room_take ⟨Nat.le_of_ble_eq_true rfl, Nat.le_of_ble_eq_true rfl⟩ hl hP hD [11, 12] rfl rfl rfl rfl (ci := 2) rfl rfl hS hA rfl rfl (Nat.le_of_ble_eq_true rfl) ⟨Nat.zero_le _, Nat.zero_le _⟩ d_Log_writeImage_72 (fun H locs hP hD hS => ?_)
          refine lv_aload_n hx hb d_Log_writeImage_75 rfl (lv_at hl 0 rfl) ?_
          refine va_get (D := D) (ci := 5) (v := .int q13.1) (C := R_Log) (T := F_Log) (N := 15) hx hb hts i_Log hown hK hP 0 rfl rfl 14 (by decide) (hts _ wf_Log_69) (fun _ h9 => h9) rfl d_Log_writeImage_76 ?_
          obtain ⟨z16, hm⟩ := on hm
          cases hm
          exact ret_mz X (nz z16).1 hP hS d_Log_writeImage_79
      · replace hm := ineg c9 hm
        refine lv_aload_n hx hb d_Log_writeImage_14 rfl (lv_at hl 0 rfl) ?_
        refine lv_aload_n hx hb d_Log_writeImage_15 rfl (lv_at hl 0 rfl) ?_
        refine va_get (D := D) (ci := 5) (v := .ref (ad 1)) (C := R_Log) (T := F_Log) (N := 15) hx hb hts i_Log hown hK hP 0 rfl rfl 0 (by decide) (hts _ wf_Log_14) (fun _ h9 => h9) rfl d_Log_writeImage_16 ?_
        refine lv_iload_n hx hb d_Log_writeImage_19 rfl (lv_at hl 1 rfl) ?_
        refine lv_iload_n hx hb d_Log_writeImage_20 rfl (lv_at hl 3 rfl) ?_
        refine lv_iadd hx hb d_Log_writeImage_21 ?_
        refine lv_aload_n hx hb d_Log_writeImage_22 rfl (lv_at hl 0 rfl) ?_
        refine va_get (D := D) (ci := 5) (v := .ref (ad 5)) (C := R_Log) (T := F_Log) (N := 15) hx hb hts i_Log hown hK hP 0 rfl rfl 2 (by decide) (hts _ wf_Log_25) (fun _ h9 => h9) rfl d_Log_writeImage_23 ?_
        refine lv_iload_n hx hb d_Log_writeImage_26 rfl (lv_at hl 3 rfl) ?_
        refine lv_bipush (v := 32) hx hb d_Log_writeImage_27 (by decide) ?_
        refine lv_imul hx hb d_Log_writeImage_29 ?_
        obtain ⟨q17, hq17, hm⟩ := ob hm
        refine inv_mV (C := R_Medium) (As := [.int (v1 + v3), .ref (ad 5), .int (v3 * 32)]) (rest := [.ref (ad 0)]) (v := .int q17.1) (ws' := wl_Log ca ad (s_medium g q17.2)) X (c_Medium_write l D ca (ad 1) (ad 2) (ad 5) (ad 6) _ (g_medium g) (g_image g) (v1 + v3) (v3 * 32) q17 hq17) g_Log_317 yo_Medium_write ⟨Nat.le_of_ble_eq_true rfl, Nat.le_of_ble_eq_true rfl⟩ hl hP hD [1, 2, 5, 6] rfl rfl rfl rfl (ci := 0) rfl rfl hS hA rfl rfl (Nat.le_of_ble_eq_true rfl) ⟨Nat.zero_le _, Nat.zero_le _⟩ d_Log_writeImage_30 (fun H locs hP hD hS => ?_)
        obtain ⟨z18, hm⟩ := on hm
        refine va_put (D := D) (ci := 5) (v := .int q17.1) (ty := .boolean) (C := R_Log) (T := F_Log) (N := 15) hx hb hts i_Log t_Log t_Log_ok n_Log hown hK hP hD hS 0 rfl rfl 14 (by decide) (hts _ wf_Log_69) (fun _ h9 => h9) rfl (by decide +kernel) (nz z18).1 (nz z18).2 (Nat.le_of_ble_eq_true rfl) d_Log_writeImage_33 (fun H locs hP hD hS => ?_)
        replace hP : va_P D classes (wl_Log ca ad (s_isOpen (s_medium g q17.2) q17.1)) H := hP
        replace hD : va_D A (wl_Log ca ad (s_isOpen (s_medium g q17.2) q17.1)) := hD
        refine lv_iinc (v := (v3 + 1)) (lv' := [(3, .int (v3 + 1)), (0, .ref (ad 0)), (1, .int v1), (2, .int v2)]) hx hb d_Log_writeImage_36 hl (k := 3) rfl rfl (by decide) rfl (fun ls hl => ?_)
        refine lv_goto (tgt := 2) hx hb d_Log_writeImage_39 (by decide) ?_
        exact ih (s_isOpen (s_medium g q17.2) q17.1) v1 v2 (v3 + 1) _ hm _ _ hP hD hS ls (lv_sub hl [1, 2, 3, 0] rfl)
set_option maxHeartbeats 4000000 in
set_option maxRecDepth 100000 in
theorem c_Log_writeImage (l : Launch) (D : va_G) (ca : Nat → ClassId) (ad : Nat → Nat) (sz : Nat) (g : St_Log) (p1 : Int32) (p2 : Int32) (res : Int32 × St_Log) (hm : m_Log_writeImage g p1 p2 = some res) : Met l y_Log_writeImage (cws y_Log_writeImage b_Log_writeImage 4 (some .boolean)) (RM 3 69) (PreW D ca (wl_Log ca ad g) [.ref (ad 0), .int p1, .int p2] sz) (QRm D (some (.int res.1)) (wl_Log ca ad res.2) (va_A (wl_Log ca ad g) sz)) 0 0 (va_A (wl_Log ca ad g) sz) := by
  refine met_ofM (own := R_Log) (by decide) rfl (Nat.le_of_ble_eq_true rfl) ?_
  intro p e s m below meth c A X hA hP hD ls hl
  obtain ⟨hx, hb, hml, hr, hown, hts, hK, hlocks⟩ := id X
  have hS : va_S A s.heap s.heap [] := va_S.rf
  have hl : lv_has ls 4 [(0, .ref (ad 0)), (1, .int p1), (2, .int p2)] := hl
  unfold m_Log_writeImage at hm
  refine lv_iconst (v := 1) hx hb d_Log_writeImage_0 (by decide) ?_
  refine lv_istore_n (lv' := [(3, .int 1), (0, .ref (ad 0)), (1, .int p1), (2, .int p2)]) hx hb d_Log_writeImage_1 rfl hl (by decide) rfl (fun ls hl => ?_)
  exact k_m_Log_writeImage_L2 X hA FU g p1 p2 1 _ hm _ _ hP hD hS ls (lv_sub hl [1, 2, 3, 0] rfl)
set_option maxHeartbeats 4000000 in
set_option maxRecDepth 100000 in
theorem c_Log_writePart (l : Launch) (D : va_G) (ca : Nat → ClassId) (ad : Nat → Nat) (sz : Nat) (g : St_Log) (p1 : Int32) (p2 : Int32) (p3 : Int64) (p5 : Int32) (p6 : Int32) (res : Int32 × St_Log) (hm : m_Log_writePart g p1 p2 p3 p5 p6 = some res) : Met l y_Log_writePart (cws y_Log_writePart b_Log_writePart 8 (some .boolean)) (RM 5 109) (PreW D ca (wl_Log ca ad g) [.ref (ad 0), .int p1, .int p2, .long p3, .int p5, .int p6] sz) (QRm D (some (.int res.1)) (wl_Log ca ad res.2) (va_A (wl_Log ca ad g) sz)) 0 0 (va_A (wl_Log ca ad g) sz) := by
  refine met_ofM (own := R_Log) (by decide) rfl (Nat.le_of_ble_eq_true rfl) ?_
  intro p e s m below meth c A X hA hP hD ls hl
  obtain ⟨hx, hb, hml, hr, hown, hts, hK, hlocks⟩ := id X
  have hS : va_S A s.heap s.heap [] := va_S.rf
  have hl : lv_has ls 8 [(0, .ref (ad 0)), (1, .int p1), (2, .int p2), (3, .long p3), (5, .int p5), (6, .int p6)] := hl
  unfold m_Log_writePart at hm
  refine lv_aload_n hx hb d_Log_writePart_0 rfl (lv_at hl 0 rfl) ?_
  refine va_get (D := D) (ci := 5) (v := .int (g_greatestPart g)) (C := R_Log) (T := F_Log) (N := 15) hx hb hts i_Log hown hK hP 0 rfl rfl 12 (by decide) (hts _ wf_Log_268) (fun _ h9 => h9) rfl d_Log_writePart_1 ?_
  refine lv_iconst (v := 1) hx hb d_Log_writePart_4 (by decide) ?_
  refine lv_iadd hx hb d_Log_writePart_5 ?_
  refine lv_istore (lv' := [(7, .int ((g_greatestPart g) + 1)), (0, .ref (ad 0)), (1, .int p1), (2, .int p2), (3, .long p3), (5, .int p5), (6, .int p6)]) hx hb d_Log_writePart_6 hl (by decide) rfl (fun ls hl => ?_)
  refine lv_aload_n hx hb d_Log_writePart_8 rfl (lv_at hl 1 rfl) ?_
  refine lv_iload hx hb d_Log_writePart_9 (lv_at hl 0 rfl) ?_
  refine lv_iload_n hx hb d_Log_writePart_11 rfl (lv_at hl 3 rfl) ?_
  refine lv_lload_n hx hb d_Log_writePart_12 rfl (lv_at hl 4 rfl) ?_
  refine lv_iload hx hb d_Log_writePart_13 (lv_at hl 5 rfl) ?_
  refine lv_iload hx hb d_Log_writePart_15 (lv_at hl 6 rfl) ?_
  obtain ⟨q1, hq1, hm⟩ := ob hm
  refine inv_mUa (C := R_Log) (As := [.int ((g_greatestPart g) + 1), .int p2, .long p3, .int p5, .int p6]) (rest := []) X (c_Log_drawPart l D ca ad _ g ((g_greatestPart g) + 1) p2 p3 p5 p6 q1 hq1) g_Log_277 yo_Log_drawPart ⟨Nat.le_of_ble_eq_true rfl, Nat.le_of_ble_eq_true rfl⟩ hl hP hD rfl (ci := 5) rfl rfl hS hA rfl rfl (Nat.le_of_ble_eq_true rfl) ⟨Nat.zero_le _, Nat.zero_le _⟩ d_Log_writePart_17 (fun H locs hP hD hS => ?_)
  refine lv_aload_n hx hb d_Log_writePart_20 rfl (lv_at hl 1 rfl) ?_
  refine lv_iload_n hx hb d_Log_writePart_21 rfl (lv_at hl 2 rfl) ?_
  refine lv_iload hx hb d_Log_writePart_22 (lv_at hl 6 rfl) ?_
  obtain ⟨q2, hq2, hm⟩ := ob hm
  refine inv_rS (As := [.int p6]) (rest := [.int p1, .ref (ad 0)]) (v := .int q2) X (c_Log_rowsOfPart l D ca  _ p6 q2 hq2) g_Log_270 yo_Log_rowsOfPart ⟨Nat.le_of_ble_eq_true rfl, Nat.le_of_ble_eq_true rfl⟩ hl hP hD [] rfl rfl hS hA rfl rfl (Nat.le_of_ble_eq_true rfl) ⟨Nat.zero_le _, Nat.zero_le _⟩ d_Log_writePart_24 (fun H locs hP hS => ?_)
  obtain ⟨q3, hq3, hm⟩ := ob hm
  refine inv_mVa (C := R_Log) (As := [.int p1, .int q2]) (rest := []) (v := .int q3.1) X (c_Log_writeImage l D ca ad _ q1 p1 q2 q3 hq3) g_Log_114 yo_Log_writeImage ⟨Nat.le_of_ble_eq_true rfl, Nat.le_of_ble_eq_true rfl⟩ hl hP hD rfl (ci := 5) rfl rfl hS hA rfl rfl (Nat.le_of_ble_eq_true rfl) ⟨Nat.zero_le _, Nat.zero_le _⟩ d_Log_writePart_27 (fun H locs hP hD hS => ?_)
  refine lv_if_ne (tgt := 35) hx hb d_Log_writePart_30 (by decide) (fun c4 => ?_) (fun c4 => ?_)
  · replace hm := ineg c4 hm
    refine lv_aload_n hx hb d_Log_writePart_35 rfl (lv_at hl 1 rfl) ?_
    refine va_get (D := D) (ci := 5) (v := .ref (ad 15)) (C := R_Log) (T := F_Log) (N := 15) hx hb hts i_Log hown hK hP 0 rfl rfl 7 (by decide) (hts _ wf_Log_51) (fun _ h9 => h9) rfl d_Log_writePart_36 ?_
    refine lv_iload hx hb d_Log_writePart_39 (lv_at hl 0 rfl) ?_
    refine lv_iload_n hx hb d_Log_writePart_41 rfl (lv_at hl 3 rfl) ?_
    refine lv_iload hx hb d_Log_writePart_42 (lv_at hl 6 rfl) ?_
    refine lv_iload_n hx hb d_Log_writePart_44 rfl (lv_at hl 2 rfl) ?_
    refine lv_lload_n hx hb d_Log_writePart_45 rfl (lv_at hl 4 rfl) ?_
    obtain ⟨q5, hq5, hm⟩ := ob hm
    refine inv_mU (C := R_Parts) (As := [.int ((g_greatestPart g) + 1), .int p2, .int p6, .int p1, .long p3]) (rest := []) (ws' := wl_Log ca ad (s_parts q3.2 q5)) X (c_Parts_add l D ca (ad 15) (ad 16) (ad 17) (ad 18) (ad 19) (ad 20) _ (g_parts q3.2) ((g_greatestPart g) + 1) p2 p6 p1 p3 q5 hq5) g_Log_281 yo_Parts_add ⟨Nat.le_of_ble_eq_true rfl, Nat.le_of_ble_eq_true rfl⟩ hl hP hD [15, 16, 17, 18, 19, 20] rfl rfl rfl rfl (ci := 3) rfl rfl hS hA rfl rfl (Nat.le_of_ble_eq_true rfl) ⟨Nat.zero_le _, Nat.zero_le _⟩ d_Log_writePart_46 (fun H locs hP hD hS => ?_)
    refine lv_aload_n hx hb d_Log_writePart_49 rfl (lv_at hl 1 rfl) ?_
    refine lv_iload hx hb d_Log_writePart_50 (lv_at hl 0 rfl) ?_
    refine va_put (D := D) (ci := 5) (v := .int ((g_greatestPart g) + 1)) (ty := .int) (C := R_Log) (T := F_Log) (N := 15) hx hb hts i_Log t_Log t_Log_ok n_Log hown hK hP hD hS 0 rfl rfl 12 (by decide) (hts _ wf_Log_268) (fun _ h9 => h9) rfl (by decide +kernel) rfl rfl (Nat.le_of_ble_eq_true rfl) d_Log_writePart_52 (fun H locs hP hD hS => ?_)
    replace hP : va_P D classes (wl_Log ca ad (s_greatestPart (s_parts q3.2 q5) ((g_greatestPart g) + 1))) H := hP
    replace hD : va_D A (wl_Log ca ad (s_greatestPart (s_parts q3.2 q5) ((g_greatestPart g) + 1))) := hD
    refine lv_iconst (v := 1) hx hb d_Log_writePart_55 (by decide) ?_
    cases hm
    exact ret_mz X nz1 hP hS d_Log_writePart_56
  · replace hm := ip c4 hm
    refine lv_iconst (v := 0) hx hb d_Log_writePart_33 (by decide) ?_
    cases hm
    exact ret_mz X nz0 hP hS d_Log_writePart_34
set_option maxHeartbeats 4000000 in
set_option maxRecDepth 100000 in
theorem c_Log_writeTape (l : Launch) (D : va_G) (ca : Nat → ClassId) (ad : Nat → Nat) (sz : Nat) (g : St_Log) (p1 : Int32) (p2 : Int64) (res : Int32 × St_Log) (hm : m_Log_writeTape g p1 p2 = some res) : Met l y_Log_writeTape (cws y_Log_writeTape b_Log_writeTape 6 (some .int)) (RM 6 136) (PreW D ca (wl_Log ca ad g) [.ref (ad 0), .int p1, .long p2] sz) (QRm D (some (.int res.1)) (wl_Log ca ad res.2) (va_A (wl_Log ca ad g) sz)) 0 0 (va_A (wl_Log ca ad g) sz) := by
  refine met_ofM (own := R_Log) (by decide) rfl (Nat.le_of_ble_eq_true rfl) ?_
  intro p e s m below meth c A X hA hP hD ls hl
  obtain ⟨hx, hb, hml, hr, hown, hts, hK, hlocks⟩ := id X
  have hS : va_S A s.heap s.heap [] := va_S.rf
  have hl : lv_has ls 6 [(0, .ref (ad 0)), (1, .int p1), (2, .long p2)] := hl
  unfold m_Log_writeTape at hm
  refine lv_aload_n hx hb d_Log_writeTape_0 rfl (lv_at hl 0 rfl) ?_
  refine va_get (D := D) (ci := 5) (v := .ref (ad 3)) (C := R_Log) (T := F_Log) (N := 15) hx hb hts i_Log hown hK hP 0 rfl rfl 1 (by decide) (hts _ wf_Log_21) (fun _ h9 => h9) rfl d_Log_writeTape_1 ?_
  obtain ⟨q1, hq1, hm⟩ := ob hm
  refine inv_rV (C := R_Bytes) (As := []) (rest := []) (v := .int q1) X (c_Bytes_size l D ca (ad 3) (ad 4) _ (g_tape g) q1 hq1) g_Log_73 yo_Bytes_size ⟨Nat.le_of_ble_eq_true rfl, Nat.le_of_ble_eq_true rfl⟩ hl hP hD [3, 4] rfl rfl (ci := 1) rfl rfl hS hA rfl rfl (Nat.le_of_ble_eq_true rfl) ⟨Nat.zero_le _, Nat.zero_le _⟩ d_Log_writeTape_4 (fun H locs hP hS => ?_)
  refine lv_istore (lv' := [(4, .int q1), (0, .ref (ad 0)), (1, .int p1), (2, .long p2)]) hx hb d_Log_writeTape_7 hl (by decide) rfl (fun ls hl => ?_)
  refine lv_iload_n hx hb d_Log_writeTape_9 rfl (lv_at hl 2 rfl) ?_
  obtain ⟨q2, hq2, hm⟩ := ob hm
  refine inv_rS (As := [.int p1]) (rest := []) (v := .int q2) X (c_Log_isGroup l D ca  _ p1 q2 hq2) g_Log_132 yo_Log_isGroup ⟨Nat.le_of_ble_eq_true rfl, Nat.le_of_ble_eq_true rfl⟩ hl hP hD [] rfl rfl hS hA rfl rfl (Nat.le_of_ble_eq_true rfl) ⟨Nat.zero_le _, Nat.zero_le _⟩ d_Log_writeTape_10 (fun H locs hP hS => ?_)
  refine lv_if_eq (tgt := 24) hx hb d_Log_writeTape_13 (by decide) (fun c3 => ?_) (fun c3 => ?_)
  · replace hm := ip c3 hm
    refine lv_bipush (v := (-2)) hx hb d_Log_writeTape_24 (by decide) ?_
    cases hm
    exact ret_mi X hP hS d_Log_writeTape_26
  · replace hm := ineg c3 hm
    refine lv_iload hx hb d_Log_writeTape_16 (lv_at hl 0 rfl) ?_
    refine lv_sipush (v := 155) hx hb d_Log_writeTape_18 (by decide) ?_
    refine lv_icmp_le (tgt := 27) hx hb d_Log_writeTape_21 (by decide) (fun c4 => ?_) (fun c4 => ?_)
    · replace hm := ip c4 hm
      refine lv_aload_n hx hb d_Log_writeTape_27 rfl (lv_at hl 1 rfl) ?_
      refine va_get (D := D) (ci := 5) (v := .int (g_greatestPart g)) (C := R_Log) (T := F_Log) (N := 15) hx hb hts i_Log hown hK hP 0 rfl rfl 12 (by decide) (hts _ wf_Log_268) (fun _ h9 => h9) rfl d_Log_writeTape_28 ?_
      refine lv_ldc hx hb hown (hts _ wc_Log_93) d_Log_writeTape_31 ?_
      refine lv_icmp_lt (tgt := 39) hx hb d_Log_writeTape_33 (by decide) (fun c5 => ?_) (fun c5 => ?_)
      · replace hm := ip c5 hm
        refine lv_aload_n hx hb d_Log_writeTape_39 rfl (lv_at hl 1 rfl) ?_
        refine va_get (D := D) (ci := 5) (v := .ref (ad 11)) (C := R_Log) (T := F_Log) (N := 15) hx hb hts i_Log hown hK hP 0 rfl rfl 5 (by decide) (hts _ wf_Log_41) (fun _ h9 => h9) rfl d_Log_writeTape_40 ?_
        refine lv_iload hx hb d_Log_writeTape_43 (lv_at hl 0 rfl) ?_
        obtain ⟨q6, hq6, hm⟩ := ob hm
        refine inv_rS (As := [.int q1]) (rest := [.ref (ad 11)]) (v := .int q6) X (c_Log_rowsOfPart l D ca  _ q1 q6 hq6) g_Log_270 yo_Log_rowsOfPart ⟨Nat.le_of_ble_eq_true rfl, Nat.le_of_ble_eq_true rfl⟩ hl hP hD [] rfl rfl hS hA rfl rfl (Nat.le_of_ble_eq_true rfl) ⟨Nat.zero_le _, Nat.zero_le _⟩ d_Log_writeTape_45 (fun H locs hP hS => ?_)
        obtain ⟨q7, hq7, hm⟩ := ob hm
        refine inv_rV (C := R_Room) (As := [.int q6]) (rest := []) (v := .int q7) X (c_Room_firstRun l D ca (ad 11) (ad 12) _ (g_room g) q6 q7 hq7) g_Log_107 yo_Room_firstRun ⟨Nat.le_of_ble_eq_true rfl, Nat.le_of_ble_eq_true rfl⟩ hl hP hD [11, 12] rfl rfl (ci := 2) rfl rfl hS hA rfl rfl (Nat.le_of_ble_eq_true rfl) ⟨Nat.zero_le _, Nat.zero_le _⟩ d_Log_writeTape_48 (fun H locs hP hS => ?_)
        refine lv_istore (lv' := [(5, .int q7), (4, .int q1), (0, .ref (ad 0)), (1, .int p1), (2, .long p2)]) hx hb d_Log_writeTape_51 hl (by decide) rfl (fun ls hl => ?_)
        refine lv_iload hx hb d_Log_writeTape_53 (lv_at hl 0 rfl) ?_
        refine lv_iconst (v := (-1)) hx hb d_Log_writeTape_55 (by decide) ?_
        refine lv_icmp_ne (tgt := 62) hx hb d_Log_writeTape_56 (by decide) (fun c8 => ?_) (fun c8 => ?_)
        · replace hm := ineg c8 hm
          refine lv_aload_n hx hb d_Log_writeTape_62 rfl (lv_at hl 2 rfl) ?_
          refine lv_iload hx hb d_Log_writeTape_63 (lv_at hl 0 rfl) ?_
          refine lv_iload_n hx hb d_Log_writeTape_65 rfl (lv_at hl 3 rfl) ?_
          refine lv_lload_n hx hb d_Log_writeTape_66 rfl (lv_at hl 4 rfl) ?_
          refine lv_iconst (v := 0) hx hb d_Log_writeTape_67 (by decide) ?_
          refine lv_iload hx hb d_Log_writeTape_68 (lv_at hl 1 rfl) ?_
          obtain ⟨q9, hq9, hm⟩ := ob hm
          refine inv_mVa (C := R_Log) (As := [.int q7, .int p1, .long p2, .int 0, .int q1]) (rest := []) (v := .int q9.1) X (c_Log_writePart l D ca ad _ g q7 p1 p2 0 q1 q9 hq9) g_Log_273 yo_Log_writePart ⟨Nat.le_of_ble_eq_true rfl, Nat.le_of_ble_eq_true rfl⟩ hl hP hD rfl (ci := 5) rfl rfl hS hA rfl rfl (Nat.le_of_ble_eq_true rfl) ⟨Nat.zero_le _, Nat.zero_le _⟩ d_Log_writeTape_70 (fun H locs hP hD hS => ?_)
          refine lv_if_eq (tgt := 83) hx hb d_Log_writeTape_73 (by decide) (fun c10 => ?_) (fun c10 => ?_)
          · replace hm := ip c10 hm
            refine lv_bipush (v := (-5)) hx hb d_Log_writeTape_83 (by decide) ?_
            cases hm
            exact ret_mi X hP hS d_Log_writeTape_85
          · replace hm := ineg c10 hm
            refine lv_aload_n hx hb d_Log_writeTape_76 rfl (lv_at hl 2 rfl) ?_
            refine va_get (D := D) (ci := 5) (v := .int (g_greatestPart q9.2)) (C := R_Log) (T := F_Log) (N := 15) hx hb hts i_Log hown hK hP 0 rfl rfl 12 (by decide) (hts _ wf_Log_268) (fun _ h9 => h9) rfl d_Log_writeTape_77 ?_
            refine lv_goto (tgt := 85) hx hb d_Log_writeTape_80 (by decide) ?_
            cases hm
            exact ret_mi X hP hS d_Log_writeTape_85
        · replace hm := ip c8 hm
          refine lv_bipush (v := (-4)) hx hb d_Log_writeTape_59 (by decide) ?_
          cases hm
          exact ret_mi X hP hS d_Log_writeTape_61
      · replace hm := ineg c5 hm
        refine lv_bipush (v := (-4)) hx hb d_Log_writeTape_36 (by decide) ?_
        cases hm
        exact ret_mi X hP hS d_Log_writeTape_38
    · replace hm := ineg c4 hm
      refine lv_bipush (v := (-2)) hx hb d_Log_writeTape_24 (by decide) ?_
      cases hm
      exact ret_mi X hP hS d_Log_writeTape_26
set_option maxHeartbeats 4000000 in
set_option maxRecDepth 100000 in
theorem c_Log_part (l : Launch) (D : va_G) (ca : Nat → ClassId) (ad : Nat → Nat) (sz : Nat) (g : St_Log) (p1 : Int32) (p2 : Int64) (res : Int32 × St_Log) (hm : m_Log_part g p1 p2 = some res) : Met l y_Log_part (cws y_Log_part b_Log_part 5 (some .int)) (RM 7 161) (PreW D ca (wl_Log ca ad g) [.ref (ad 0), .int p1, .long p2] sz) (QRm D (some (.int res.1)) (wl_Log ca ad res.2) (va_A (wl_Log ca ad g) sz)) 0 0 (va_A (wl_Log ca ad g) sz) := by
  refine met_ofM (own := R_Log) (by decide) rfl (Nat.le_of_ble_eq_true rfl) ?_
  intro p e s m below meth c A X hA hP hD ls hl
  obtain ⟨hx, hb, hml, hr, hown, hts, hK, hlocks⟩ := id X
  have hS : va_S A s.heap s.heap [] := va_S.rf
  have hl : lv_has ls 5 [(0, .ref (ad 0)), (1, .int p1), (2, .long p2)] := hl
  unfold m_Log_part at hm
  refine lv_aload_n hx hb d_Log_part_0 rfl (lv_at hl 0 rfl) ?_
  refine va_get (D := D) (ci := 5) (v := .int (g_isOpen g)) (C := R_Log) (T := F_Log) (N := 15) hx hb hts i_Log hown hK hP 0 rfl rfl 14 (by decide) (hts _ wf_Log_69) (fun _ h9 => h9) rfl d_Log_part_1 ?_
  refine lv_if_eq (tgt := 16) hx hb d_Log_part_4 (by decide) (fun c1 => ?_) (fun c1 => ?_)
  · replace hm := ip c1 hm
    refine lv_bipush (v := (-3)) hx hb d_Log_part_16 (by decide) ?_
    refine lv_istore (lv' := [(4, .int (-3)), (0, .ref (ad 0)), (1, .int p1), (2, .long p2)]) hx hb d_Log_part_18 hl (by decide) rfl (fun ls hl => ?_)
    refine lv_aload_n hx hb d_Log_part_20 rfl (lv_at hl 1 rfl) ?_
    refine va_get (D := D) (ci := 5) (v := .ref (ad 3)) (C := R_Log) (T := F_Log) (N := 15) hx hb hts i_Log hown hK hP 0 rfl rfl 1 (by decide) (hts _ wf_Log_21) (fun _ h9 => h9) rfl d_Log_part_21 ?_
    obtain ⟨q2, hq2, hm⟩ := ob hm
    refine inv_mU (C := R_Bytes) (As := []) (rest := []) (ws' := wl_Log ca ad (s_tape g q2)) X (c_Bytes_clear l D ca (ad 3) (ad 4) _ (g_tape g) q2 hq2) g_Log_80 yo_Bytes_clear ⟨Nat.le_of_ble_eq_true rfl, Nat.le_of_ble_eq_true rfl⟩ hl hP hD [3, 4] rfl rfl rfl rfl (ci := 1) rfl rfl hS hA rfl rfl (Nat.le_of_ble_eq_true rfl) ⟨Nat.zero_le _, Nat.zero_le _⟩ d_Log_part_24 (fun H locs hP hD hS => ?_)
    refine lv_iload hx hb d_Log_part_27 (lv_at hl 0 rfl) ?_
    cases hm
    exact ret_mi X hP hS d_Log_part_29
  · replace hm := ineg c1 hm
    refine lv_aload_n hx hb d_Log_part_7 rfl (lv_at hl 0 rfl) ?_
    refine lv_iload_n hx hb d_Log_part_8 rfl (lv_at hl 1 rfl) ?_
    refine lv_lload_n hx hb d_Log_part_9 rfl (lv_at hl 2 rfl) ?_
    obtain ⟨q3, hq3, hm⟩ := ob hm
    refine inv_mVa (C := R_Log) (As := [.int p1, .long p2]) (rest := []) (v := .int q3.1) X (c_Log_writeTape l D ca ad _ g p1 p2 q3 hq3) g_Log_83 yo_Log_writeTape ⟨Nat.le_of_ble_eq_true rfl, Nat.le_of_ble_eq_true rfl⟩ hl hP hD rfl (ci := 5) rfl rfl hS hA rfl rfl (Nat.le_of_ble_eq_true rfl) ⟨Nat.zero_le _, Nat.zero_le _⟩ d_Log_part_10 (fun H locs hP hD hS => ?_)
    refine lv_goto (tgt := 18) hx hb d_Log_part_13 (by decide) ?_
    refine lv_istore (lv' := [(4, .int q3.1), (0, .ref (ad 0)), (1, .int p1), (2, .long p2)]) hx hb d_Log_part_18 hl (by decide) rfl (fun ls hl => ?_)
    refine lv_aload_n hx hb d_Log_part_20 rfl (lv_at hl 1 rfl) ?_
    refine va_get (D := D) (ci := 5) (v := .ref (ad 3)) (C := R_Log) (T := F_Log) (N := 15) hx hb hts i_Log hown hK hP 0 rfl rfl 1 (by decide) (hts _ wf_Log_21) (fun _ h9 => h9) rfl d_Log_part_21 ?_
    obtain ⟨q4, hq4, hm⟩ := ob hm
    refine inv_mU (C := R_Bytes) (As := []) (rest := []) (ws' := wl_Log ca ad (s_tape q3.2 q4)) X (c_Bytes_clear l D ca (ad 3) (ad 4) _ (g_tape q3.2) q4 hq4) g_Log_80 yo_Bytes_clear ⟨Nat.le_of_ble_eq_true rfl, Nat.le_of_ble_eq_true rfl⟩ hl hP hD [3, 4] rfl rfl rfl rfl (ci := 1) rfl rfl hS hA rfl rfl (Nat.le_of_ble_eq_true rfl) ⟨Nat.zero_le _, Nat.zero_le _⟩ d_Log_part_24 (fun H locs hP hD hS => ?_)
    refine lv_iload hx hb d_Log_part_27 (lv_at hl 0 rfl) ?_
    cases hm
    exact ret_mi X hP hS d_Log_part_29
set_option maxHeartbeats 4000000 in
set_option maxRecDepth 100000 in
theorem k_m_Log_makeMark_L38 {p : Program} {l : Launch} {e : Env} {s : State} {m : MethodId} {args : Array Value} {below : List Frame} {meth : Method} {c : Code} {D : va_G} {ca : Nat → ClassId} {ad : Nat → Nat} {A : Nat → Prop} (X : Cx p s m args meth c R_Log b_Log_makeMark 5 (some .int) D ca) (hA : ∀ q, s.heap.size ≤ q → A q)  : ∀ (n : Nat) (g : St_Log) (v1 : Int32) (v2 : Int32) (v3 : Int32) (v4 : Int32) (res : Int32 × St_Log), m_Log_makeMark_L38  n g v1 v2 v3 v4 = some res → ∀ (H : Heap) (locs : List Loc), va_P D classes (wl_Log ca ad g) H → va_D A (wl_Log ca ad g) → va_S A s.heap H locs → ∀ ls : Array Slot, lv_has ls 5 [(0, .ref (ad 0)), (1, .int v1), (2, .int v2), (3, .int v3), (4, .int v4)] → W p l e (RM 3 71) s m args below meth c H locs 0 0 (MQ below (QRm D (some (.int res.1)) (wl_Log ca ad res.2) A) args s 0 0 A) (F0 m 38 ls []) := by
  obtain ⟨hx, hb, hml, hr, hown, hts, hK, hlocks⟩ := id X
  intro n
  induction n with
  | zero =>
    intro g v1 v2 v3 v4 res hm
    rw [m_Log_makeMark_L38] at hm
    cases hm
  | succ n ih =>
    intro g v1 v2 v3 v4 res hm H locs hP hD hS ls hl
    rw [m_Log_makeMark_L38] at hm
    refine lv_iload hx hb d_Log_makeMark_38 (lv_at hl 4 rfl) ?_
    refine lv_iload_n hx hb d_Log_makeMark_40 rfl (lv_at hl 1 rfl) ?_
    refine lv_icmp_ge (tgt := 71) hx hb d_Log_makeMark_41 (by decide) (fun c3 => ?_) (fun c3 => ?_)
    · replace hm := ip c3 hm
      refine lv_aload_n hx hb d_Log_makeMark_71 rfl (lv_at hl 0 rfl) ?_
      refine va_get (D := D) (ci := 5) (v := .int (g_greatestMark g)) (C := R_Log) (T := F_Log) (N := 15) hx hb hts i_Log hown hK hP 0 rfl rfl 13 (by decide) (hts _ wf_Log_89) (fun _ h9 => h9) rfl d_Log_makeMark_72 ?_
      cases hm
      exact ret_mi X hP hS d_Log_makeMark_75
    · replace hm := ineg c3 hm
      refine lv_aload_n hx hb d_Log_makeMark_44 rfl (lv_at hl 0 rfl) ?_
      refine va_get (D := D) (ci := 5) (v := .ref (ad 27)) (C := R_Log) (T := F_Log) (N := 15) hx hb hts i_Log hown hK hP 0 rfl rfl 9 (by decide) (hts _ wf_Log_62) (fun _ h9 => h9) rfl d_Log_makeMark_45 ?_
      refine lv_iload_n hx hb d_Log_makeMark_48 rfl (lv_at hl 2 rfl) ?_
      refine lv_iload hx hb d_Log_makeMark_49 (lv_at hl 4 rfl) ?_
      refine lv_aload_n hx hb d_Log_makeMark_51 rfl (lv_at hl 0 rfl) ?_
      refine va_get (D := D) (ci := 5) (v := .ref (ad 15)) (C := R_Log) (T := F_Log) (N := 15) hx hb hts i_Log hown hK hP 0 rfl rfl 7 (by decide) (hts _ wf_Log_51) (fun _ h9 => h9) rfl d_Log_makeMark_52 ?_
      refine lv_iload_n hx hb d_Log_makeMark_55 rfl (lv_at hl 3 rfl) ?_
      refine lv_iload hx hb d_Log_makeMark_56 (lv_at hl 4 rfl) ?_
      refine lv_iadd hx hb d_Log_makeMark_58 ?_
      obtain ⟨q4, hq4, hm⟩ := ob hm
      refine inv_rV (C := R_Parts) (As := [.int (v3 + v4)]) (rest := [.int v4, .int v2, .ref (ad 27)]) (v := .int q4) X (c_Parts_numberAt l D ca (ad 15) (ad 16) (ad 17) (ad 18) (ad 19) (ad 20) _ (g_parts g) (v3 + v4) q4 hq4) g_Log_330 yo_Parts_numberAt ⟨Nat.le_of_ble_eq_true rfl, Nat.le_of_ble_eq_true rfl⟩ hl hP hD [15, 16, 17, 18, 19, 20] rfl rfl (ci := 3) rfl rfl hS hA rfl rfl (Nat.le_of_ble_eq_true rfl) ⟨Nat.zero_le _, Nat.zero_le _⟩ d_Log_makeMark_59 (fun H locs hP hS => ?_)
      obtain ⟨q5, hq5, hm⟩ := ob hm
      refine inv_mU (C := R_Marks) (As := [.int v2, .int v4, .int q4]) (rest := []) (ws' := wl_Log ca ad (s_made g q5)) X (c_Marks_setPart l D ca (ad 27) (ad 28) (ad 29) (ad 30) (ad 31) (ad 32) _ (g_made g) v2 v4 q4 q5 hq5) g_Log_125 yo_Marks_setPart ⟨Nat.le_of_ble_eq_true rfl, Nat.le_of_ble_eq_true rfl⟩ hl hP hD [27, 28, 29, 30, 31, 32] rfl rfl rfl rfl (ci := 4) rfl rfl hS hA rfl rfl (Nat.le_of_ble_eq_true rfl) ⟨Nat.zero_le _, Nat.zero_le _⟩ d_Log_makeMark_62 (fun H locs hP hD hS => ?_)
      refine lv_iinc (v := (v4 + 1)) (lv' := [(4, .int (v4 + 1)), (0, .ref (ad 0)), (1, .int v1), (2, .int v2), (3, .int v3)]) hx hb d_Log_makeMark_65 hl (k := 4) rfl rfl (by decide) rfl (fun ls hl => ?_)
      refine lv_goto (tgt := 38) hx hb d_Log_makeMark_68 (by decide) ?_
      exact ih (s_made g q5) v1 v2 v3 (v4 + 1) _ hm _ _ hP hD hS ls (lv_sub hl [1, 2, 3, 4, 0] rfl)
set_option maxHeartbeats 4000000 in
set_option maxRecDepth 100000 in
theorem c_Log_makeMark (l : Launch) (D : va_G) (ca : Nat → ClassId) (ad : Nat → Nat) (sz : Nat) (g : St_Log) (p1 : Int32) (res : Int32 × St_Log) (hm : m_Log_makeMark g p1 = some res) : Met l y_Log_makeMark (cws y_Log_makeMark b_Log_makeMark 5 (some .int)) (RM 3 71) (PreW D ca (wl_Log ca ad g) [.ref (ad 0), .int p1] sz) (QRm D (some (.int res.1)) (wl_Log ca ad res.2) (va_A (wl_Log ca ad g) sz)) 0 0 (va_A (wl_Log ca ad g) sz) := by
  refine met_ofM (own := R_Log) (by decide) rfl (Nat.le_of_ble_eq_true rfl) ?_
  intro p e s m below meth c A X hA hP hD ls hl
  obtain ⟨hx, hb, hml, hr, hown, hts, hK, hlocks⟩ := id X
  have hS : va_S A s.heap s.heap [] := va_S.rf
  have hl : lv_has ls 5 [(0, .ref (ad 0)), (1, .int p1)] := hl
  unfold m_Log_makeMark at hm
  refine lv_aload_n hx hb d_Log_makeMark_0 rfl (lv_at hl 0 rfl) ?_
  refine lv_dup hx hb d_Log_makeMark_1 rfl ?_
  refine va_get (D := D) (ci := 5) (v := .int (g_greatestMark g)) (C := R_Log) (T := F_Log) (N := 15) hx hb hts i_Log hown hK hP 0 rfl rfl 13 (by decide) (hts _ wf_Log_89) (fun _ h9 => h9) rfl d_Log_makeMark_2 ?_
  refine lv_iconst (v := 1) hx hb d_Log_makeMark_5 (by decide) ?_
  refine lv_iadd hx hb d_Log_makeMark_6 ?_
  refine va_put (D := D) (ci := 5) (v := .int ((g_greatestMark g) + 1)) (ty := .int) (C := R_Log) (T := F_Log) (N := 15) hx hb hts i_Log t_Log t_Log_ok n_Log hown hK hP hD hS 0 rfl rfl 13 (by decide) (hts _ wf_Log_89) (fun _ h9 => h9) rfl (by decide +kernel) rfl rfl (Nat.le_of_ble_eq_true rfl) d_Log_makeMark_7 (fun H locs hP hD hS => ?_)
  replace hP : va_P D classes (wl_Log ca ad (s_greatestMark g ((g_greatestMark g) + 1))) H := hP
  replace hD : va_D A (wl_Log ca ad (s_greatestMark g ((g_greatestMark g) + 1))) := hD
  refine lv_aload_n hx hb d_Log_makeMark_10 rfl (lv_at hl 0 rfl) ?_
  refine va_get (D := D) (ci := 5) (v := .ref (ad 27)) (C := R_Log) (T := F_Log) (N := 15) hx hb hts i_Log hown hK hP 0 rfl rfl 9 (by decide) (hts _ wf_Log_62) (fun _ h9 => h9) rfl d_Log_makeMark_11 ?_
  refine lv_aload_n hx hb d_Log_makeMark_14 rfl (lv_at hl 0 rfl) ?_
  refine va_get (D := D) (ci := 5) (v := .int ((g_greatestMark g) + 1)) (C := R_Log) (T := F_Log) (N := 15) hx hb hts i_Log hown hK hP 0 rfl rfl 13 (by decide) (hts _ wf_Log_89) (fun _ h9 => h9) rfl d_Log_makeMark_15 ?_
  refine lv_iload_n hx hb d_Log_makeMark_18 rfl (lv_at hl 1 rfl) ?_
  refine lv_iconst (v := (-1)) hx hb d_Log_makeMark_19 (by decide) ?_
  refine lv_lconst (v := 0) hx hb d_Log_makeMark_20 (by decide) ?_
  obtain ⟨q1, hq1, hm⟩ := ob hm
  refine inv_mV (C := R_Marks) (As := [.int ((g_greatestMark g) + 1), .int p1, .int (-1), .long 0]) (rest := []) (v := .int q1.1) (ws' := wl_Log ca ad (s_made (s_greatestMark g ((g_greatestMark g) + 1)) q1.2)) X (c_Marks_add l D ca (ad 27) (ad 28) (ad 29) (ad 30) (ad 31) (ad 32) _ (g_made g) ((g_greatestMark g) + 1) p1 (-1) 0 q1 hq1) g_Log_118 yo_Marks_add ⟨Nat.le_of_ble_eq_true rfl, Nat.le_of_ble_eq_true rfl⟩ hl hP hD [27, 28, 29, 30, 31, 32] rfl rfl rfl rfl (ci := 4) rfl rfl hS hA rfl rfl (Nat.le_of_ble_eq_true rfl) ⟨Nat.zero_le _, Nat.zero_le _⟩ d_Log_makeMark_21 (fun H locs hP hD hS => ?_)
  refine lv_istore_n (lv' := [(2, .int q1.1), (0, .ref (ad 0)), (1, .int p1)]) hx hb d_Log_makeMark_24 rfl hl (by decide) rfl (fun ls hl => ?_)
  refine lv_aload_n hx hb d_Log_makeMark_25 rfl (lv_at hl 1 rfl) ?_
  refine va_get (D := D) (ci := 5) (v := .ref (ad 15)) (C := R_Log) (T := F_Log) (N := 15) hx hb hts i_Log hown hK hP 0 rfl rfl 7 (by decide) (hts _ wf_Log_51) (fun _ h9 => h9) rfl d_Log_makeMark_26 ?_
  obtain ⟨q2, hq2, hm⟩ := ob hm
  refine inv_rV (C := R_Parts) (As := []) (rest := []) (v := .int q2) X (c_Parts_size l D ca (ad 15) (ad 16) (ad 17) (ad 18) (ad 19) (ad 20) _ (g_parts g) q2 hq2) g_Log_87 yo_Parts_size ⟨Nat.le_of_ble_eq_true rfl, Nat.le_of_ble_eq_true rfl⟩ hl hP hD [15, 16, 17, 18, 19, 20] rfl rfl (ci := 3) rfl rfl hS hA rfl rfl (Nat.le_of_ble_eq_true rfl) ⟨Nat.zero_le _, Nat.zero_le _⟩ d_Log_makeMark_29 (fun H locs hP hS => ?_)
  refine lv_iload_n hx hb d_Log_makeMark_32 rfl (lv_at hl 2 rfl) ?_
  refine lv_isub hx hb d_Log_makeMark_33 ?_
  refine lv_istore_n (lv' := [(3, .int (q2 - p1)), (2, .int q1.1), (0, .ref (ad 0)), (1, .int p1)]) hx hb d_Log_makeMark_34 rfl hl (by decide) rfl (fun ls hl => ?_)
  refine lv_iconst (v := 0) hx hb d_Log_makeMark_35 (by decide) ?_
  refine lv_istore (lv' := [(4, .int 0), (3, .int (q2 - p1)), (2, .int q1.1), (0, .ref (ad 0)), (1, .int p1)]) hx hb d_Log_makeMark_36 hl (by decide) rfl (fun ls hl => ?_)
  exact k_m_Log_makeMark_L38 X hA FU (s_made (s_greatestMark g ((g_greatestMark g) + 1)) q1.2) p1 q1.1 (q2 - p1) 0 _ hm _ _ hP hD hS ls (lv_sub hl [3, 4, 2, 1, 0] rfl)
set_option maxHeartbeats 4000000 in
set_option maxRecDepth 100000 in
theorem c_Log_mark (l : Launch) (D : va_G) (ca : Nat → ClassId) (ad : Nat → Nat) (sz : Nat) (g : St_Log) (p1 : Int32) (res : Int32 × St_Log) (hm : m_Log_mark g p1 = some res) : Met l y_Log_mark (cws y_Log_mark b_Log_mark 2 (some .int)) (RM 4 95) (PreW D ca (wl_Log ca ad g) [.ref (ad 0), .int p1] sz) (QRm D (some (.int res.1)) (wl_Log ca ad res.2) (va_A (wl_Log ca ad g) sz)) 0 0 (va_A (wl_Log ca ad g) sz) := by
  refine met_ofM (own := R_Log) (by decide) rfl (Nat.le_of_ble_eq_true rfl) ?_
  intro p e s m below meth c A X hA hP hD ls hl
  obtain ⟨hx, hb, hml, hr, hown, hts, hK, hlocks⟩ := id X
  have hS : va_S A s.heap s.heap [] := va_S.rf
  have hl : lv_has ls 2 [(0, .ref (ad 0)), (1, .int p1)] := hl
  unfold m_Log_mark at hm
  refine lv_aload_n hx hb d_Log_mark_0 rfl (lv_at hl 0 rfl) ?_
  refine va_get (D := D) (ci := 5) (v := .int (g_isOpen g)) (C := R_Log) (T := F_Log) (N := 15) hx hb hts i_Log hown hK hP 0 rfl rfl 14 (by decide) (hts _ wf_Log_69) (fun _ h9 => h9) rfl d_Log_mark_1 ?_
  refine lv_if_ne (tgt := 10) hx hb d_Log_mark_4 (by decide) (fun c1 => ?_) (fun c1 => ?_)
  · replace hm := ineg c1 hm
    refine lv_iload_n hx hb d_Log_mark_10 rfl (lv_at hl 1 rfl) ?_
    refine lv_iconst (v := 1) hx hb d_Log_mark_11 (by decide) ?_
    refine lv_icmp_lt (tgt := 21) hx hb d_Log_mark_12 (by decide) (fun c2 => ?_) (fun c2 => ?_)
    · replace hm := ip c2 hm
      refine lv_bipush (v := (-2)) hx hb d_Log_mark_21 (by decide) ?_
      cases hm
      exact ret_mi X hP hS d_Log_mark_23
    · replace hm := ineg c2 hm
      refine lv_iload_n hx hb d_Log_mark_15 rfl (lv_at hl 1 rfl) ?_
      refine lv_bipush (v := 12) hx hb d_Log_mark_16 (by decide) ?_
      refine lv_icmp_le (tgt := 24) hx hb d_Log_mark_18 (by decide) (fun c3 => ?_) (fun c3 => ?_)
      · replace hm := ip c3 hm
        refine lv_aload_n hx hb d_Log_mark_24 rfl (lv_at hl 0 rfl) ?_
        refine va_get (D := D) (ci := 5) (v := .ref (ad 15)) (C := R_Log) (T := F_Log) (N := 15) hx hb hts i_Log hown hK hP 0 rfl rfl 7 (by decide) (hts _ wf_Log_51) (fun _ h9 => h9) rfl d_Log_mark_25 ?_
        obtain ⟨q4, hq4, hm⟩ := ob hm
        refine inv_rV (C := R_Parts) (As := []) (rest := []) (v := .int q4) X (c_Parts_size l D ca (ad 15) (ad 16) (ad 17) (ad 18) (ad 19) (ad 20) _ (g_parts g) q4 hq4) g_Log_87 yo_Parts_size ⟨Nat.le_of_ble_eq_true rfl, Nat.le_of_ble_eq_true rfl⟩ hl hP hD [15, 16, 17, 18, 19, 20] rfl rfl (ci := 3) rfl rfl hS hA rfl rfl (Nat.le_of_ble_eq_true rfl) ⟨Nat.zero_le _, Nat.zero_le _⟩ d_Log_mark_28 (fun H locs hP hS => ?_)
        refine lv_iload_n hx hb d_Log_mark_31 rfl (lv_at hl 1 rfl) ?_
        refine lv_icmp_ge (tgt := 37) hx hb d_Log_mark_32 (by decide) (fun c5 => ?_) (fun c5 => ?_)
        · replace hm := ip c5 hm
          refine lv_aload_n hx hb d_Log_mark_37 rfl (lv_at hl 0 rfl) ?_
          refine va_get (D := D) (ci := 5) (v := .ref (ad 27)) (C := R_Log) (T := F_Log) (N := 15) hx hb hts i_Log hown hK hP 0 rfl rfl 9 (by decide) (hts _ wf_Log_62) (fun _ h9 => h9) rfl d_Log_mark_38 ?_
          obtain ⟨q6, hq6, hm⟩ := ob hm
          refine inv_rV (C := R_Marks) (As := []) (rest := []) (v := .int q6) X (c_Marks_size l D ca (ad 27) (ad 28) (ad 29) (ad 30) (ad 31) (ad 32) _ (g_made g) q6 hq6) g_Log_88 yo_Marks_size ⟨Nat.le_of_ble_eq_true rfl, Nat.le_of_ble_eq_true rfl⟩ hl hP hD [27, 28, 29, 30, 31, 32] rfl rfl (ci := 4) rfl rfl hS hA rfl rfl (Nat.le_of_ble_eq_true rfl) ⟨Nat.zero_le _, Nat.zero_le _⟩ d_Log_mark_41 (fun H locs hP hS => ?_)
          refine lv_bipush (v := 6) hx hb d_Log_mark_44 (by decide) ?_
          refine lv_icmp_ge (tgt := 58) hx hb d_Log_mark_46 (by decide) (fun c7 => ?_) (fun c7 => ?_)
          · replace hm := ip c7 hm
            refine lv_bipush (v := (-4)) hx hb d_Log_mark_58 (by decide) ?_
            cases hm
            exact ret_mi X hP hS d_Log_mark_60
          · replace hm := ineg c7 hm
            refine lv_aload_n hx hb d_Log_mark_49 rfl (lv_at hl 0 rfl) ?_
            refine va_get (D := D) (ci := 5) (v := .int (g_greatestMark g)) (C := R_Log) (T := F_Log) (N := 15) hx hb hts i_Log hown hK hP 0 rfl rfl 13 (by decide) (hts _ wf_Log_89) (fun _ h9 => h9) rfl d_Log_mark_50 ?_
            refine lv_ldc hx hb hown (hts _ wc_Log_93) d_Log_mark_53 ?_
            refine lv_icmp_lt (tgt := 61) hx hb d_Log_mark_55 (by decide) (fun c8 => ?_) (fun c8 => ?_)
            · replace hm := ip c8 hm
              refine lv_aload_n hx hb d_Log_mark_61 rfl (lv_at hl 0 rfl) ?_
              refine lv_iload_n hx hb d_Log_mark_62 rfl (lv_at hl 1 rfl) ?_
              obtain ⟨q9, hq9, hm⟩ := ob hm
              refine inv_mVa (C := R_Log) (As := [.int p1]) (rest := []) (v := .int q9.1) X (c_Log_makeMark l D ca ad _ g p1 q9 hq9) g_Log_94 yo_Log_makeMark ⟨Nat.le_of_ble_eq_true rfl, Nat.le_of_ble_eq_true rfl⟩ hl hP hD rfl (ci := 5) rfl rfl hS hA rfl rfl (Nat.le_of_ble_eq_true rfl) ⟨Nat.zero_le _, Nat.zero_le _⟩ d_Log_mark_63 (fun H locs hP hD hS => ?_)
              cases hm
              exact ret_mi X hP hS d_Log_mark_66
            · replace hm := ineg c8 hm
              refine lv_bipush (v := (-4)) hx hb d_Log_mark_58 (by decide) ?_
              cases hm
              exact ret_mi X hP hS d_Log_mark_60
        · replace hm := ineg c5 hm
          refine lv_iconst (v := (-1)) hx hb d_Log_mark_35 (by decide) ?_
          cases hm
          exact ret_mi X hP hS d_Log_mark_36
      · replace hm := ineg c3 hm
        refine lv_bipush (v := (-2)) hx hb d_Log_mark_21 (by decide) ?_
        cases hm
        exact ret_mi X hP hS d_Log_mark_23
  · replace hm := ip c1 hm
    refine lv_bipush (v := (-3)) hx hb d_Log_mark_7 (by decide) ?_
    cases hm
    exact ret_mi X hP hS d_Log_mark_9
set_option maxHeartbeats 4000000 in
set_option maxRecDepth 100000 in
theorem c_Log_drawEntry (l : Launch) (D : va_G) (ca : Nat → ClassId) (ad : Nat → Nat) (sz : Nat) (g : St_Log) (p1 : Int32) (p2 : Int32) (res : St_Log) (hm : m_Log_drawEntry g p1 p2 = some res) : Met l y_Log_drawEntry (cws y_Log_drawEntry b_Log_drawEntry 5 none) (RM 3 70) (PreW D ca (wl_Log ca ad g) [.ref (ad 0), .int p1, .int p2] sz) (QRm D none (wl_Log ca ad res) (va_A (wl_Log ca ad g) sz)) 0 0 (va_A (wl_Log ca ad g) sz) := by
  refine met_ofM (own := R_Log) (by decide) rfl (Nat.le_of_ble_eq_true rfl) ?_
  intro p e s m below meth c A X hA hP hD ls hl
  obtain ⟨hx, hb, hml, hr, hown, hts, hK, hlocks⟩ := id X
  have hS : va_S A s.heap s.heap [] := va_S.rf
  have hl : lv_has ls 5 [(0, .ref (ad 0)), (1, .int p1), (2, .int p2)] := hl
  unfold m_Log_drawEntry at hm
  refine lv_aload_n hx hb d_Log_drawEntry_0 rfl (lv_at hl 0 rfl) ?_
  refine va_get (D := D) (ci := 5) (v := .ref (ad 15)) (C := R_Log) (T := F_Log) (N := 15) hx hb hts i_Log hown hK hP 0 rfl rfl 7 (by decide) (hts _ wf_Log_51) (fun _ h9 => h9) rfl d_Log_drawEntry_1 ?_
  refine lv_aload_n hx hb d_Log_drawEntry_4 rfl (lv_at hl 0 rfl) ?_
  refine va_get (D := D) (ci := 5) (v := .ref (ad 15)) (C := R_Log) (T := F_Log) (N := 15) hx hb hts i_Log hown hK hP 0 rfl rfl 7 (by decide) (hts _ wf_Log_51) (fun _ h9 => h9) rfl d_Log_drawEntry_5 ?_
  refine lv_iload_n hx hb d_Log_drawEntry_8 rfl (lv_at hl 2 rfl) ?_
  obtain ⟨q1, hq1, hm⟩ := ob hm
  refine inv_rV (C := R_Parts) (As := [.int p2]) (rest := [.ref (ad 15)]) (v := .int q1) X (c_Parts_find l D ca (ad 15) (ad 16) (ad 17) (ad 18) (ad 19) (ad 20) _ (g_parts g) p2 q1 hq1) g_Log_186 yo_Parts_find ⟨Nat.le_of_ble_eq_true rfl, Nat.le_of_ble_eq_true rfl⟩ hl hP hD [15, 16, 17, 18, 19, 20] rfl rfl (ci := 3) rfl rfl hS hA rfl rfl (Nat.le_of_ble_eq_true rfl) ⟨Nat.zero_le _, Nat.zero_le _⟩ d_Log_drawEntry_9 (fun H locs hP hS => ?_)
  obtain ⟨q2, hq2, hm⟩ := ob hm
  refine inv_rV (C := R_Parts) (As := [.int q1]) (rest := []) (v := .int q2) X (c_Parts_rowAt l D ca (ad 15) (ad 16) (ad 17) (ad 18) (ad 19) (ad 20) _ (g_parts g) q1 q2 hq2) g_Log_198 yo_Parts_rowAt ⟨Nat.le_of_ble_eq_true rfl, Nat.le_of_ble_eq_true rfl⟩ hl hP hD [15, 16, 17, 18, 19, 20] rfl rfl (ci := 3) rfl rfl hS hA rfl rfl (Nat.le_of_ble_eq_true rfl) ⟨Nat.zero_le _, Nat.zero_le _⟩ d_Log_drawEntry_12 (fun H locs hP hS => ?_)
  refine lv_istore_n (lv' := [(3, .int q2), (0, .ref (ad 0)), (1, .int p1), (2, .int p2)]) hx hb d_Log_drawEntry_15 rfl hl (by decide) rfl (fun ls hl => ?_)
  refine lv_bipush (v := 32) hx hb d_Log_drawEntry_16 (by decide) ?_
  refine lv_iconst (v := 0) hx hb d_Log_drawEntry_18 (by decide) ?_
  refine lv_iload_n hx hb d_Log_drawEntry_19 rfl (lv_at hl 2 rfl) ?_
  obtain ⟨q3, hq3, hm⟩ := ob hm
  refine inv_rS (As := [.int 0, .int p1]) (rest := [.int 32]) (v := .int q3) X (c_Log_entryRow l D ca  _ 0 p1 q3 hq3) g_Log_303 yo_Log_entryRow ⟨Nat.le_of_ble_eq_true rfl, Nat.le_of_ble_eq_true rfl⟩ hl hP hD [] rfl rfl hS hA rfl rfl (Nat.le_of_ble_eq_true rfl) ⟨Nat.zero_le _, Nat.zero_le _⟩ d_Log_drawEntry_20 (fun H locs hP hS => ?_)
  refine lv_imul hx hb d_Log_drawEntry_23 ?_
  refine lv_istore (lv' := [(4, .int (32 * q3)), (3, .int q2), (0, .ref (ad 0)), (1, .int p1), (2, .int p2)]) hx hb d_Log_drawEntry_24 hl (by decide) rfl (fun ls hl => ?_)
  refine lv_aload_n hx hb d_Log_drawEntry_26 rfl (lv_at hl 2 rfl) ?_
  refine va_get (D := D) (ci := 5) (v := .ref (ad 5)) (C := R_Log) (T := F_Log) (N := 15) hx hb hts i_Log hown hK hP 0 rfl rfl 2 (by decide) (hts _ wf_Log_25) (fun _ h9 => h9) rfl d_Log_drawEntry_27 ?_
  refine lv_iload hx hb d_Log_drawEntry_30 (lv_at hl 0 rfl) ?_
  refine lv_ldc2 hx hb hown (hts _ wc_Log_306) d_Log_drawEntry_32 ?_
  refine lv_iconst (v := 1) hx hb d_Log_drawEntry_35 (by decide) ?_
  obtain ⟨q4, hq4, hm⟩ := ob hm
  refine inv_mU (C := R_Bytes) (As := [.int (32 * q3), .long 6, .int 1]) (rest := []) (ws' := wl_Log ca ad (s_image g q4)) X (c_Bytes_put l D ca (ad 5) (ad 6) _ (g_image g) (32 * q3) 6 1 q4 hq4) g_Log_286 yo_Bytes_put ⟨Nat.le_of_ble_eq_true rfl, Nat.le_of_ble_eq_true rfl⟩ hl hP hD [5, 6] rfl rfl rfl rfl (ci := 1) rfl rfl hS hA rfl rfl (Nat.le_of_ble_eq_true rfl) ⟨Nat.zero_le _, Nat.zero_le _⟩ d_Log_drawEntry_36 (fun H locs hP hD hS => ?_)
  refine lv_iload hx hb d_Log_drawEntry_39 (lv_at hl 0 rfl) ?_
  refine lv_iload_n hx hb d_Log_drawEntry_41 rfl (lv_at hl 3 rfl) ?_
  obtain ⟨q5, hq5, hm⟩ := ob hm
  refine inv_rS (As := [.int p1]) (rest := [.int (32 * q3)]) (v := .int q5) X (c_Log_entryByte l D ca  _ p1 q5 hq5) g_Log_308 yo_Log_entryByte ⟨Nat.le_of_ble_eq_true rfl, Nat.le_of_ble_eq_true rfl⟩ hl hP hD [] rfl rfl hS hA rfl rfl (Nat.le_of_ble_eq_true rfl) ⟨Nat.zero_le _, Nat.zero_le _⟩ d_Log_drawEntry_42 (fun H locs hP hS => ?_)
  refine lv_iadd hx hb d_Log_drawEntry_45 ?_
  refine lv_istore (lv' := [(4, .int ((32 * q3) + q5)), (3, .int q2), (0, .ref (ad 0)), (1, .int p1), (2, .int p2)]) hx hb d_Log_drawEntry_46 hl (by decide) rfl (fun ls hl => ?_)
  refine lv_aload_n hx hb d_Log_drawEntry_48 rfl (lv_at hl 2 rfl) ?_
  refine va_get (D := D) (ci := 5) (v := .ref (ad 5)) (C := R_Log) (T := F_Log) (N := 15) hx hb hts i_Log hown hK hP 0 rfl rfl 2 (by decide) (hts _ wf_Log_25) (fun _ h9 => h9) rfl d_Log_drawEntry_49 ?_
  refine lv_iload hx hb d_Log_drawEntry_52 (lv_at hl 0 rfl) ?_
  refine lv_iload_n hx hb d_Log_drawEntry_54 rfl (lv_at hl 4 rfl) ?_
  refine lv_i2l (v := ((p2).toInt64)) hx hb d_Log_drawEntry_55 rfl ?_
  refine lv_iconst (v := 4) hx hb d_Log_drawEntry_56 (by decide) ?_
  obtain ⟨q6, hq6, hm⟩ := ob hm
  refine inv_mU (C := R_Bytes) (As := [.int ((32 * q3) + q5), .long ((p2).toInt64), .int 4]) (rest := []) (ws' := wl_Log ca ad (s_image (s_image g q4) q6)) X (c_Bytes_put l D ca (ad 5) (ad 6) _ q4 ((32 * q3) + q5) ((p2).toInt64) 4 q6 hq6) g_Log_286 yo_Bytes_put ⟨Nat.le_of_ble_eq_true rfl, Nat.le_of_ble_eq_true rfl⟩ hl hP hD [5, 6] rfl rfl rfl rfl (ci := 1) rfl rfl hS hA rfl rfl (Nat.le_of_ble_eq_true rfl) ⟨Nat.zero_le _, Nat.zero_le _⟩ d_Log_drawEntry_57 (fun H locs hP hD hS => ?_)
  refine lv_aload_n hx hb d_Log_drawEntry_60 rfl (lv_at hl 2 rfl) ?_
  refine va_get (D := D) (ci := 5) (v := .ref (ad 5)) (C := R_Log) (T := F_Log) (N := 15) hx hb hts i_Log hown hK hP 0 rfl rfl 2 (by decide) (hts _ wf_Log_25) (fun _ h9 => h9) rfl d_Log_drawEntry_61 ?_
  refine lv_iload hx hb d_Log_drawEntry_64 (lv_at hl 0 rfl) ?_
  refine lv_iconst (v := 4) hx hb d_Log_drawEntry_66 (by decide) ?_
  refine lv_iadd hx hb d_Log_drawEntry_67 ?_
  refine lv_iload_n hx hb d_Log_drawEntry_68 rfl (lv_at hl 1 rfl) ?_
  refine lv_i2l (v := ((q2).toInt64)) hx hb d_Log_drawEntry_69 rfl ?_
  refine lv_iconst (v := 2) hx hb d_Log_drawEntry_70 (by decide) ?_
  obtain ⟨q7, hq7, hm⟩ := ob hm
  refine inv_mU (C := R_Bytes) (As := [.int (((32 * q3) + q5) + 4), .long ((q2).toInt64), .int 2]) (rest := []) (ws' := wl_Log ca ad (s_image (s_image (s_image g q4) q6) q7)) X (c_Bytes_put l D ca (ad 5) (ad 6) _ q6 (((32 * q3) + q5) + 4) ((q2).toInt64) 2 q7 hq7) g_Log_286 yo_Bytes_put ⟨Nat.le_of_ble_eq_true rfl, Nat.le_of_ble_eq_true rfl⟩ hl hP hD [5, 6] rfl rfl rfl rfl (ci := 1) rfl rfl hS hA rfl rfl (Nat.le_of_ble_eq_true rfl) ⟨Nat.zero_le _, Nat.zero_le _⟩ d_Log_drawEntry_71 (fun H locs hP hD hS => ?_)
  refine lv_aload_n hx hb d_Log_drawEntry_74 rfl (lv_at hl 2 rfl) ?_
  refine va_get (D := D) (ci := 5) (v := .ref (ad 5)) (C := R_Log) (T := F_Log) (N := 15) hx hb hts i_Log hown hK hP 0 rfl rfl 2 (by decide) (hts _ wf_Log_25) (fun _ h9 => h9) rfl d_Log_drawEntry_75 ?_
  refine lv_iload hx hb d_Log_drawEntry_78 (lv_at hl 0 rfl) ?_
  refine lv_bipush (v := 6) hx hb d_Log_drawEntry_80 (by decide) ?_
  refine lv_iadd hx hb d_Log_drawEntry_82 ?_
  refine lv_aload_n hx hb d_Log_drawEntry_83 rfl (lv_at hl 2 rfl) ?_
  refine va_get (D := D) (ci := 5) (v := .ref (ad 1)) (C := R_Log) (T := F_Log) (N := 15) hx hb hts i_Log hown hK hP 0 rfl rfl 0 (by decide) (hts _ wf_Log_14) (fun _ h9 => h9) rfl d_Log_drawEntry_84 ?_
  refine lv_iload_n hx hb d_Log_drawEntry_87 rfl (lv_at hl 1 rfl) ?_
  refine lv_bipush (v := 16) hx hb d_Log_drawEntry_88 (by decide) ?_
  refine lv_bipush (v := 8) hx hb d_Log_drawEntry_90 (by decide) ?_
  obtain ⟨q8, hq8, hm⟩ := ob hm
  refine inv_rV (C := R_Medium) (As := [.int q2, .int 16, .int 8]) (rest := [.int (((32 * q3) + q5) + 6), .ref (ad 5)]) (v := .long q8) X (c_Medium_number l D ca (ad 1) (ad 2) _ (g_medium g) q2 16 8 q8 hq8) g_Log_311 yo_Medium_number ⟨Nat.le_of_ble_eq_true rfl, Nat.le_of_ble_eq_true rfl⟩ hl hP hD [1, 2] rfl rfl (ci := 0) rfl rfl hS hA rfl rfl (Nat.le_of_ble_eq_true rfl) ⟨Nat.zero_le _, Nat.zero_le _⟩ d_Log_drawEntry_92 (fun H locs hP hS => ?_)
  refine lv_bipush (v := 8) hx hb d_Log_drawEntry_95 (by decide) ?_
  obtain ⟨q9, hq9, hm⟩ := ob hm
  refine inv_mU (C := R_Bytes) (As := [.int (((32 * q3) + q5) + 6), .long q8, .int 8]) (rest := []) (ws' := wl_Log ca ad (s_image (s_image (s_image (s_image g q4) q6) q7) q9)) X (c_Bytes_put l D ca (ad 5) (ad 6) _ q7 (((32 * q3) + q5) + 6) q8 8 q9 hq9) g_Log_286 yo_Bytes_put ⟨Nat.le_of_ble_eq_true rfl, Nat.le_of_ble_eq_true rfl⟩ hl hP hD [5, 6] rfl rfl rfl rfl (ci := 1) rfl rfl hS hA rfl rfl (Nat.le_of_ble_eq_true rfl) ⟨Nat.zero_le _, Nat.zero_le _⟩ d_Log_drawEntry_97 (fun H locs hP hD hS => ?_)
  cases hm
  exact ret_mv X hP hS d_Log_drawEntry_100
set_option maxHeartbeats 4000000 in
set_option maxRecDepth 100000 in
theorem k_m_Log_drawMark_L18 {p : Program} {l : Launch} {e : Env} {s : State} {m : MethodId} {args : Array Value} {below : List Frame} {meth : Method} {c : Code} {D : va_G} {ca : Nat → ClassId} {ad : Nat → Nat} {A : Nat → Prop} (X : Cx p s m args meth c R_Log b_Log_drawMark 5 (some .long) D ca) (hA : ∀ q, s.heap.size ≤ q → A q)  : ∀ (n : Nat) (g : St_Log) (v1 : Int32) (v2 : Int32) (v3 : Int32) (res : Int64 × St_Log), m_Log_drawMark_L18  n g v1 v2 v3 = some res → ∀ (H : Heap) (locs : List Loc), va_P D classes (wl_Log ca ad g) H → va_D A (wl_Log ca ad g) → va_S A s.heap H locs → ∀ ls : Array Slot, lv_has ls 5 [(0, .ref (ad 0)), (1, .int v1), (2, .int v2), (3, .int v3)] → W p l e (RM 4 94) s m args below meth c H locs 0 0 (MQ below (QRm D (some (.long res.1)) (wl_Log ca ad res.2) A) args s 0 0 A) (F0 m 18 ls []) := by
  obtain ⟨hx, hb, hml, hr, hown, hts, hK, hlocks⟩ := id X
  intro n
  induction n with
  | zero =>
    intro g v1 v2 v3 res hm
    rw [m_Log_drawMark_L18] at hm
    cases hm
  | succ n ih =>
    intro g v1 v2 v3 res hm H locs hP hD hS ls hl
    rw [m_Log_drawMark_L18] at hm
    refine lv_iload_n hx hb d_Log_drawMark_18 rfl (lv_at hl 3 rfl) ?_
    refine lv_iload_n hx hb d_Log_drawMark_19 rfl (lv_at hl 2 rfl) ?_
    refine lv_icmp_ge (tgt := 43) hx hb d_Log_drawMark_20 (by decide) (fun c3 => ?_) (fun c3 => ?_)
    · replace hm := ip c3 hm
      refine lv_aload_n hx hb d_Log_drawMark_43 rfl (lv_at hl 0 rfl) ?_
      refine va_get (D := D) (ci := 5) (v := .ref (ad 5)) (C := R_Log) (T := F_Log) (N := 15) hx hb hts i_Log hown hK hP 0 rfl rfl 2 (by decide) (hts _ wf_Log_25) (fun _ h9 => h9) rfl d_Log_drawMark_44 ?_
      refine lv_bipush (v := 32) hx hb d_Log_drawMark_47 (by decide) ?_
      refine lv_bipush (v := 32) hx hb d_Log_drawMark_49 (by decide) ?_
      refine lv_iload_n hx hb d_Log_drawMark_51 rfl (lv_at hl 2 rfl) ?_
      obtain ⟨q4, hq4, hm⟩ := ob hm
      refine inv_rS (As := [.int v2]) (rest := [.int 32, .int 32, .ref (ad 5)]) (v := .int q4) X (c_Log_rowsOfMark l D ca  _ v2 q4 hq4) g_Log_104 yo_Log_rowsOfMark ⟨Nat.le_of_ble_eq_true rfl, Nat.le_of_ble_eq_true rfl⟩ hl hP hD [] rfl rfl hS hA rfl rfl (Nat.le_of_ble_eq_true rfl) ⟨Nat.zero_le _, Nat.zero_le _⟩ d_Log_drawMark_52 (fun H locs hP hS => ?_)
      refine lv_imul hx hb d_Log_drawMark_55 ?_
      obtain ⟨q5, hq5, hm⟩ := ob hm
      refine inv_rV (C := R_Bytes) (As := [.int 32, .int (32 * q4)]) (rest := []) (v := .long q5) X (c_Bytes_digest l D ca (ad 5) (ad 6) _ (g_image g) 32 (32 * q4) q5 hq5) g_Log_290 yo_Bytes_digest ⟨Nat.le_of_ble_eq_true rfl, Nat.le_of_ble_eq_true rfl⟩ hl hP hD [5, 6] rfl rfl (ci := 1) rfl rfl hS hA rfl rfl (Nat.le_of_ble_eq_true rfl) ⟨Nat.zero_le _, Nat.zero_le _⟩ d_Log_drawMark_56 (fun H locs hP hS => ?_)
      refine lv_lstore_n (lv' := [(3, .long q5), (0, .ref (ad 0)), (1, .int v1), (2, .int v2)]) hx hb d_Log_drawMark_59 rfl hl (by decide) rfl (fun ls hl => ?_)
      refine lv_aload_n hx hb d_Log_drawMark_60 rfl (lv_at hl 1 rfl) ?_
      refine va_get (D := D) (ci := 5) (v := .ref (ad 5)) (C := R_Log) (T := F_Log) (N := 15) hx hb hts i_Log hown hK hP 0 rfl rfl 2 (by decide) (hts _ wf_Log_25) (fun _ h9 => h9) rfl d_Log_drawMark_61 ?_
      refine lv_iconst (v := 0) hx hb d_Log_drawMark_64 (by decide) ?_
      refine lv_ldc2 hx hb hown (hts _ wc_Log_301) d_Log_drawMark_65 ?_
      refine lv_iconst (v := 1) hx hb d_Log_drawMark_68 (by decide) ?_
      obtain ⟨q6, hq6, hm⟩ := ob hm
      refine inv_mU (C := R_Bytes) (As := [.int 0, .long 2, .int 1]) (rest := []) (ws' := wl_Log ca ad (s_image g q6)) X (c_Bytes_put l D ca (ad 5) (ad 6) _ (g_image g) 0 2 1 q6 hq6) g_Log_286 yo_Bytes_put ⟨Nat.le_of_ble_eq_true rfl, Nat.le_of_ble_eq_true rfl⟩ hl hP hD [5, 6] rfl rfl rfl rfl (ci := 1) rfl rfl hS hA rfl rfl (Nat.le_of_ble_eq_true rfl) ⟨Nat.zero_le _, Nat.zero_le _⟩ d_Log_drawMark_69 (fun H locs hP hD hS => ?_)
      refine lv_aload_n hx hb d_Log_drawMark_72 rfl (lv_at hl 1 rfl) ?_
      refine va_get (D := D) (ci := 5) (v := .ref (ad 5)) (C := R_Log) (T := F_Log) (N := 15) hx hb hts i_Log hown hK hP 0 rfl rfl 2 (by decide) (hts _ wf_Log_25) (fun _ h9 => h9) rfl d_Log_drawMark_73 ?_
      refine lv_iconst (v := 1) hx hb d_Log_drawMark_76 (by decide) ?_
      refine lv_iload_n hx hb d_Log_drawMark_77 rfl (lv_at hl 3 rfl) ?_
      refine lv_i2l (v := ((v2).toInt64)) hx hb d_Log_drawMark_78 rfl ?_
      refine lv_iconst (v := 1) hx hb d_Log_drawMark_79 (by decide) ?_
      obtain ⟨q7, hq7, hm⟩ := ob hm
      refine inv_mU (C := R_Bytes) (As := [.int 1, .long ((v2).toInt64), .int 1]) (rest := []) (ws' := wl_Log ca ad (s_image (s_image g q6) q7)) X (c_Bytes_put l D ca (ad 5) (ad 6) _ q6 1 ((v2).toInt64) 1 q7 hq7) g_Log_286 yo_Bytes_put ⟨Nat.le_of_ble_eq_true rfl, Nat.le_of_ble_eq_true rfl⟩ hl hP hD [5, 6] rfl rfl rfl rfl (ci := 1) rfl rfl hS hA rfl rfl (Nat.le_of_ble_eq_true rfl) ⟨Nat.zero_le _, Nat.zero_le _⟩ d_Log_drawMark_80 (fun H locs hP hD hS => ?_)
      refine lv_aload_n hx hb d_Log_drawMark_83 rfl (lv_at hl 1 rfl) ?_
      refine va_get (D := D) (ci := 5) (v := .ref (ad 5)) (C := R_Log) (T := F_Log) (N := 15) hx hb hts i_Log hown hK hP 0 rfl rfl 2 (by decide) (hts _ wf_Log_25) (fun _ h9 => h9) rfl d_Log_drawMark_84 ?_
      refine lv_iconst (v := 4) hx hb d_Log_drawMark_87 (by decide) ?_
      refine lv_aload_n hx hb d_Log_drawMark_88 rfl (lv_at hl 1 rfl) ?_
      refine va_get (D := D) (ci := 5) (v := .ref (ad 27)) (C := R_Log) (T := F_Log) (N := 15) hx hb hts i_Log hown hK hP 0 rfl rfl 9 (by decide) (hts _ wf_Log_62) (fun _ h9 => h9) rfl d_Log_drawMark_89 ?_
      refine lv_iload_n hx hb d_Log_drawMark_92 rfl (lv_at hl 2 rfl) ?_
      obtain ⟨q8, hq8, hm⟩ := ob hm
      refine inv_rV (C := R_Marks) (As := [.int v1]) (rest := [.int 4, .ref (ad 5)]) (v := .int q8) X (c_Marks_numberAt l D ca (ad 27) (ad 28) (ad 29) (ad 30) (ad 31) (ad 32) _ (g_made g) v1 q8 hq8) g_Log_172 yo_Marks_numberAt ⟨Nat.le_of_ble_eq_true rfl, Nat.le_of_ble_eq_true rfl⟩ hl hP hD [27, 28, 29, 30, 31, 32] rfl rfl (ci := 4) rfl rfl hS hA rfl rfl (Nat.le_of_ble_eq_true rfl) ⟨Nat.zero_le _, Nat.zero_le _⟩ d_Log_drawMark_93 (fun H locs hP hS => ?_)
      refine lv_i2l (v := ((q8).toInt64)) hx hb d_Log_drawMark_96 rfl ?_
      refine lv_iconst (v := 4) hx hb d_Log_drawMark_97 (by decide) ?_
      obtain ⟨q9, hq9, hm⟩ := ob hm
      refine inv_mU (C := R_Bytes) (As := [.int 4, .long ((q8).toInt64), .int 4]) (rest := []) (ws' := wl_Log ca ad (s_image (s_image (s_image g q6) q7) q9)) X (c_Bytes_put l D ca (ad 5) (ad 6) _ q7 4 ((q8).toInt64) 4 q9 hq9) g_Log_286 yo_Bytes_put ⟨Nat.le_of_ble_eq_true rfl, Nat.le_of_ble_eq_true rfl⟩ hl hP hD [5, 6] rfl rfl rfl rfl (ci := 1) rfl rfl hS hA rfl rfl (Nat.le_of_ble_eq_true rfl) ⟨Nat.zero_le _, Nat.zero_le _⟩ d_Log_drawMark_98 (fun H locs hP hD hS => ?_)
      refine lv_aload_n hx hb d_Log_drawMark_101 rfl (lv_at hl 1 rfl) ?_
      refine va_get (D := D) (ci := 5) (v := .ref (ad 5)) (C := R_Log) (T := F_Log) (N := 15) hx hb hts i_Log hown hK hP 0 rfl rfl 2 (by decide) (hts _ wf_Log_25) (fun _ h9 => h9) rfl d_Log_drawMark_102 ?_
      refine lv_bipush (v := 8) hx hb d_Log_drawMark_105 (by decide) ?_
      refine lv_lload_n hx hb d_Log_drawMark_107 rfl (lv_at hl 0 rfl) ?_
      refine lv_bipush (v := 8) hx hb d_Log_drawMark_108 (by decide) ?_
      obtain ⟨q10, hq10, hm⟩ := ob hm
      refine inv_mU (C := R_Bytes) (As := [.int 8, .long q5, .int 8]) (rest := []) (ws' := wl_Log ca ad (s_image (s_image (s_image (s_image g q6) q7) q9) q10)) X (c_Bytes_put l D ca (ad 5) (ad 6) _ q9 8 q5 8 q10 hq10) g_Log_286 yo_Bytes_put ⟨Nat.le_of_ble_eq_true rfl, Nat.le_of_ble_eq_true rfl⟩ hl hP hD [5, 6] rfl rfl rfl rfl (ci := 1) rfl rfl hS hA rfl rfl (Nat.le_of_ble_eq_true rfl) ⟨Nat.zero_le _, Nat.zero_le _⟩ d_Log_drawMark_110 (fun H locs hP hD hS => ?_)
      refine lv_aload_n hx hb d_Log_drawMark_113 rfl (lv_at hl 1 rfl) ?_
      obtain ⟨q11, hq11, hm⟩ := ob hm
      refine inv_mUa (C := R_Log) (As := []) (rest := []) X (c_Log_drawSum l D ca ad _ (s_image (s_image (s_image (s_image g q6) q7) q9) q10) q11 hq11) g_Log_294 yo_Log_drawSum ⟨Nat.le_of_ble_eq_true rfl, Nat.le_of_ble_eq_true rfl⟩ hl hP hD rfl (ci := 5) rfl rfl hS hA rfl rfl (Nat.le_of_ble_eq_true rfl) ⟨Nat.zero_le _, Nat.zero_le _⟩ d_Log_drawMark_114 (fun H locs hP hD hS => ?_)
      refine lv_lload_n hx hb d_Log_drawMark_117 rfl (lv_at hl 0 rfl) ?_
      cases hm
      exact ret_ml X hP hS d_Log_drawMark_118
    · replace hm := ineg c3 hm
      refine lv_aload_n hx hb d_Log_drawMark_23 rfl (lv_at hl 0 rfl) ?_
      refine lv_iload_n hx hb d_Log_drawMark_24 rfl (lv_at hl 3 rfl) ?_
      refine lv_aload_n hx hb d_Log_drawMark_25 rfl (lv_at hl 0 rfl) ?_
      refine va_get (D := D) (ci := 5) (v := .ref (ad 27)) (C := R_Log) (T := F_Log) (N := 15) hx hb hts i_Log hown hK hP 0 rfl rfl 9 (by decide) (hts _ wf_Log_62) (fun _ h9 => h9) rfl d_Log_drawMark_26 ?_
      refine lv_iload_n hx hb d_Log_drawMark_29 rfl (lv_at hl 1 rfl) ?_
      refine lv_iload_n hx hb d_Log_drawMark_30 rfl (lv_at hl 3 rfl) ?_
      obtain ⟨q12, hq12, hm⟩ := ob hm
      refine inv_rV (C := R_Marks) (As := [.int v1, .int v3]) (rest := [.int v3, .ref (ad 0)]) (v := .int q12) X (c_Marks_partAt l D ca (ad 27) (ad 28) (ad 29) (ad 30) (ad 31) (ad 32) _ (g_made g) v1 v3 q12 hq12) g_Log_121 yo_Marks_partAt ⟨Nat.le_of_ble_eq_true rfl, Nat.le_of_ble_eq_true rfl⟩ hl hP hD [27, 28, 29, 30, 31, 32] rfl rfl (ci := 4) rfl rfl hS hA rfl rfl (Nat.le_of_ble_eq_true rfl) ⟨Nat.zero_le _, Nat.zero_le _⟩ d_Log_drawMark_31 (fun H locs hP hS => ?_)
      obtain ⟨q13, hq13, hm⟩ := ob hm
      refine inv_mUa (C := R_Log) (As := [.int v3, .int q12]) (rest := []) X (c_Log_drawEntry l D ca ad _ g v3 q12 q13 hq13) g_Log_297 yo_Log_drawEntry ⟨Nat.le_of_ble_eq_true rfl, Nat.le_of_ble_eq_true rfl⟩ hl hP hD rfl (ci := 5) rfl rfl hS hA rfl rfl (Nat.le_of_ble_eq_true rfl) ⟨Nat.zero_le _, Nat.zero_le _⟩ d_Log_drawMark_34 (fun H locs hP hD hS => ?_)
      refine lv_iinc (v := (v3 + 1)) (lv' := [(3, .int (v3 + 1)), (0, .ref (ad 0)), (1, .int v1), (2, .int v2)]) hx hb d_Log_drawMark_37 hl (k := 3) rfl rfl (by decide) rfl (fun ls hl => ?_)
      refine lv_goto (tgt := 18) hx hb d_Log_drawMark_40 (by decide) ?_
      exact ih q13 v1 v2 (v3 + 1) _ hm _ _ hP hD hS ls (lv_sub hl [1, 2, 3, 0] rfl)
set_option maxHeartbeats 4000000 in
set_option maxRecDepth 100000 in
theorem c_Log_drawMark (l : Launch) (D : va_G) (ca : Nat → ClassId) (ad : Nat → Nat) (sz : Nat) (g : St_Log) (p1 : Int32) (res : Int64 × St_Log) (hm : m_Log_drawMark g p1 = some res) : Met l y_Log_drawMark (cws y_Log_drawMark b_Log_drawMark 5 (some .long)) (RM 4 94) (PreW D ca (wl_Log ca ad g) [.ref (ad 0), .int p1] sz) (QRm D (some (.long res.1)) (wl_Log ca ad res.2) (va_A (wl_Log ca ad g) sz)) 0 0 (va_A (wl_Log ca ad g) sz) := by
  refine met_ofM (own := R_Log) (by decide) rfl (Nat.le_of_ble_eq_true rfl) ?_
  intro p e s m below meth c A X hA hP hD ls hl
  obtain ⟨hx, hb, hml, hr, hown, hts, hK, hlocks⟩ := id X
  have hS : va_S A s.heap s.heap [] := va_S.rf
  have hl : lv_has ls 5 [(0, .ref (ad 0)), (1, .int p1)] := hl
  unfold m_Log_drawMark at hm
  refine lv_aload_n hx hb d_Log_drawMark_0 rfl (lv_at hl 0 rfl) ?_
  refine va_get (D := D) (ci := 5) (v := .ref (ad 27)) (C := R_Log) (T := F_Log) (N := 15) hx hb hts i_Log hown hK hP 0 rfl rfl 9 (by decide) (hts _ wf_Log_62) (fun _ h9 => h9) rfl d_Log_drawMark_1 ?_
  refine lv_iload_n hx hb d_Log_drawMark_4 rfl (lv_at hl 1 rfl) ?_
  obtain ⟨q1, hq1, hm⟩ := ob hm
  refine inv_rV (C := R_Marks) (As := [.int p1]) (rest := []) (v := .int q1) X (c_Marks_countAt l D ca (ad 27) (ad 28) (ad 29) (ad 30) (ad 31) (ad 32) _ (g_made g) p1 q1 hq1) g_Log_101 yo_Marks_countAt ⟨Nat.le_of_ble_eq_true rfl, Nat.le_of_ble_eq_true rfl⟩ hl hP hD [27, 28, 29, 30, 31, 32] rfl rfl (ci := 4) rfl rfl hS hA rfl rfl (Nat.le_of_ble_eq_true rfl) ⟨Nat.zero_le _, Nat.zero_le _⟩ d_Log_drawMark_5 (fun H locs hP hS => ?_)
  refine lv_istore_n (lv' := [(2, .int q1), (0, .ref (ad 0)), (1, .int p1)]) hx hb d_Log_drawMark_8 rfl hl (by decide) rfl (fun ls hl => ?_)
  refine lv_aload_n hx hb d_Log_drawMark_9 rfl (lv_at hl 1 rfl) ?_
  refine va_get (D := D) (ci := 5) (v := .ref (ad 5)) (C := R_Log) (T := F_Log) (N := 15) hx hb hts i_Log hown hK hP 0 rfl rfl 2 (by decide) (hts _ wf_Log_25) (fun _ h9 => h9) rfl d_Log_drawMark_10 ?_
  obtain ⟨q2, hq2, hm⟩ := ob hm
  refine inv_mU (C := R_Bytes) (As := []) (rest := []) (ws' := wl_Log ca ad (s_image g q2)) X (c_Bytes_clear l D ca (ad 5) (ad 6) _ (g_image g) q2 hq2) g_Log_80 yo_Bytes_clear ⟨Nat.le_of_ble_eq_true rfl, Nat.le_of_ble_eq_true rfl⟩ hl hP hD [5, 6] rfl rfl rfl rfl (ci := 1) rfl rfl hS hA rfl rfl (Nat.le_of_ble_eq_true rfl) ⟨Nat.zero_le _, Nat.zero_le _⟩ d_Log_drawMark_13 (fun H locs hP hD hS => ?_)
  refine lv_iconst (v := 0) hx hb d_Log_drawMark_16 (by decide) ?_
  refine lv_istore_n (lv' := [(3, .int 0), (2, .int q1), (0, .ref (ad 0)), (1, .int p1)]) hx hb d_Log_drawMark_17 rfl hl (by decide) rfl (fun ls hl => ?_)
  exact k_m_Log_drawMark_L18 X hA FU (s_image g q2) p1 q1 0 _ hm _ _ hP hD hS ls (lv_sub hl [2, 3, 1, 0] rfl)
set_option maxHeartbeats 4000000 in
set_option maxRecDepth 100000 in
theorem k_m_Log_keep_L98 {p : Program} {l : Launch} {e : Env} {s : State} {m : MethodId} {args : Array Value} {below : List Frame} {meth : Method} {c : Code} {D : va_G} {ca : Nat → ClassId} {ad : Nat → Nat} {A : Nat → Prop} (X : Cx p s m args meth c R_Log b_Log_keep 9 (some .int) D ca) (hA : ∀ q, s.heap.size ≤ q → A q)  : ∀ (n : Nat) (g : St_Log) (v2 : Int32) (v3 : Int32) (v7 : Int32) (v8 : Int32) (res : Int32 × St_Log), m_Log_keep_L98  n g v2 v3 v7 v8 = some res → ∀ (H : Heap) (locs : List Loc), va_P D classes (wl_Log ca ad g) H → va_D A (wl_Log ca ad g) → va_S A s.heap H locs → ∀ ls : Array Slot, lv_has ls 9 [(0, .ref (ad 0)), (2, .int v2), (3, .int v3), (7, .int v7), (8, .int v8)] → W p l e (RM 5 118) s m args below meth c H locs 0 0 (MQ below (QRm D (some (.int res.1)) (wl_Log ca ad res.2) A) args s 0 0 A) (F0 m 98 ls []) := by
  obtain ⟨hx, hb, hml, hr, hown, hts, hK, hlocks⟩ := id X
  intro n
  induction n with
  | zero =>
    intro g v2 v3 v7 v8 res hm
    rw [m_Log_keep_L98] at hm
    cases hm
  | succ n ih =>
    intro g v2 v3 v7 v8 res hm H locs hP hD hS ls hl
    rw [m_Log_keep_L98] at hm
    refine lv_iload hx hb d_Log_keep_98 (lv_at hl 4 rfl) ?_
    refine lv_iload_n hx hb d_Log_keep_100 rfl (lv_at hl 2 rfl) ?_
    refine lv_icmp_ge (tgt := 131) hx hb d_Log_keep_101 (by decide) (fun c13 => ?_) (fun c13 => ?_)
    · replace hm := ip c13 hm
      refine lv_aload_n hx hb d_Log_keep_131 rfl (lv_at hl 0 rfl) ?_
      refine va_get (D := D) (ci := 5) (v := .ref (ad 27)) (C := R_Log) (T := F_Log) (N := 15) hx hb hts i_Log hown hK hP 0 rfl rfl 9 (by decide) (hts _ wf_Log_62) (fun _ h9 => h9) rfl d_Log_keep_132 ?_
      refine lv_iload_n hx hb d_Log_keep_135 rfl (lv_at hl 1 rfl) ?_
      obtain ⟨q14, hq14, hm⟩ := ob hm
      refine inv_mU (C := R_Marks) (As := [.int v2]) (rest := []) (ws' := wl_Log ca ad (s_made g q14)) X (c_Marks_remove l D ca (ad 27) (ad 28) (ad 29) (ad 30) (ad 31) (ad 32) _ (g_made g) v2 q14 hq14) g_Log_129 yo_Marks_remove ⟨Nat.le_of_ble_eq_true rfl, Nat.le_of_ble_eq_true rfl⟩ hl hP hD [27, 28, 29, 30, 31, 32] rfl rfl rfl rfl (ci := 4) rfl rfl hS hA rfl rfl (Nat.le_of_ble_eq_true rfl) ⟨Nat.zero_le _, Nat.zero_le _⟩ d_Log_keep_136 (fun H locs hP hD hS => ?_)
      refine lv_iconst (v := 1) hx hb d_Log_keep_139 (by decide) ?_
      cases hm
      exact ret_mi X hP hS d_Log_keep_140
    · replace hm := ineg c13 hm
      refine lv_aload_n hx hb d_Log_keep_104 rfl (lv_at hl 0 rfl) ?_
      refine va_get (D := D) (ci := 5) (v := .ref (ad 21)) (C := R_Log) (T := F_Log) (N := 15) hx hb hts i_Log hown hK hP 0 rfl rfl 8 (by decide) (hts _ wf_Log_58) (fun _ h9 => h9) rfl d_Log_keep_105 ?_
      refine lv_iload hx hb d_Log_keep_108 (lv_at hl 3 rfl) ?_
      refine lv_iload hx hb d_Log_keep_110 (lv_at hl 4 rfl) ?_
      refine lv_aload_n hx hb d_Log_keep_112 rfl (lv_at hl 0 rfl) ?_
      refine va_get (D := D) (ci := 5) (v := .ref (ad 27)) (C := R_Log) (T := F_Log) (N := 15) hx hb hts i_Log hown hK hP 0 rfl rfl 9 (by decide) (hts _ wf_Log_62) (fun _ h9 => h9) rfl d_Log_keep_113 ?_
      refine lv_iload_n hx hb d_Log_keep_116 rfl (lv_at hl 1 rfl) ?_
      refine lv_iload hx hb d_Log_keep_117 (lv_at hl 4 rfl) ?_
      obtain ⟨q15, hq15, hm⟩ := ob hm
      refine inv_rV (C := R_Marks) (As := [.int v2, .int v8]) (rest := [.int v8, .int v7, .ref (ad 21)]) (v := .int q15) X (c_Marks_partAt l D ca (ad 27) (ad 28) (ad 29) (ad 30) (ad 31) (ad 32) _ (g_made g) v2 v8 q15 hq15) g_Log_121 yo_Marks_partAt ⟨Nat.le_of_ble_eq_true rfl, Nat.le_of_ble_eq_true rfl⟩ hl hP hD [27, 28, 29, 30, 31, 32] rfl rfl (ci := 4) rfl rfl hS hA rfl rfl (Nat.le_of_ble_eq_true rfl) ⟨Nat.zero_le _, Nat.zero_le _⟩ d_Log_keep_119 (fun H locs hP hS => ?_)
      obtain ⟨q16, hq16, hm⟩ := ob hm
      refine inv_mU (C := R_Marks) (As := [.int v7, .int v8, .int q15]) (rest := []) (ws' := wl_Log ca ad (s_kept g q16)) X (c_Marks_setPart l D ca (ad 21) (ad 22) (ad 23) (ad 24) (ad 25) (ad 26) _ (g_kept g) v7 v8 q15 q16 hq16) g_Log_125 yo_Marks_setPart ⟨Nat.le_of_ble_eq_true rfl, Nat.le_of_ble_eq_true rfl⟩ hl hP hD [21, 22, 23, 24, 25, 26] rfl rfl rfl rfl (ci := 4) rfl rfl hS hA rfl rfl (Nat.le_of_ble_eq_true rfl) ⟨Nat.zero_le _, Nat.zero_le _⟩ d_Log_keep_122 (fun H locs hP hD hS => ?_)
      refine lv_iinc (v := (v8 + 1)) (lv' := [(8, .int (v8 + 1)), (0, .ref (ad 0)), (2, .int v2), (3, .int v3), (7, .int v7)]) hx hb d_Log_keep_125 hl (k := 4) rfl rfl (by decide) rfl (fun ls hl => ?_)
      refine lv_goto (tgt := 98) hx hb d_Log_keep_128 (by decide) ?_
      exact ih (s_kept g q16) v2 v3 v7 (v8 + 1) _ hm _ _ hP hD hS ls (lv_sub hl [1, 2, 3, 4, 0] rfl)
set_option maxHeartbeats 4000000 in
set_option maxRecDepth 100000 in
theorem c_Log_keep (l : Launch) (D : va_G) (ca : Nat → ClassId) (ad : Nat → Nat) (sz : Nat) (g : St_Log) (p1 : Int32) (res : Int32 × St_Log) (hm : m_Log_keep g p1 = some res) : Met l y_Log_keep (cws y_Log_keep b_Log_keep 9 (some .int)) (RM 5 118) (PreW D ca (wl_Log ca ad g) [.ref (ad 0), .int p1] sz) (QRm D (some (.int res.1)) (wl_Log ca ad res.2) (va_A (wl_Log ca ad g) sz)) 0 0 (va_A (wl_Log ca ad g) sz) := by
  refine met_ofM (own := R_Log) (by decide) rfl (Nat.le_of_ble_eq_true rfl) ?_
  intro p e s m below meth c A X hA hP hD ls hl
  obtain ⟨hx, hb, hml, hr, hown, hts, hK, hlocks⟩ := id X
  have hS : va_S A s.heap s.heap [] := va_S.rf
  have hl : lv_has ls 9 [(0, .ref (ad 0)), (1, .int p1)] := hl
  unfold m_Log_keep at hm
  refine lv_aload_n hx hb d_Log_keep_0 rfl (lv_at hl 0 rfl) ?_
  refine va_get (D := D) (ci := 5) (v := .int (g_isOpen g)) (C := R_Log) (T := F_Log) (N := 15) hx hb hts i_Log hown hK hP 0 rfl rfl 14 (by decide) (hts _ wf_Log_69) (fun _ h9 => h9) rfl d_Log_keep_1 ?_
  refine lv_if_ne (tgt := 10) hx hb d_Log_keep_4 (by decide) (fun c1 => ?_) (fun c1 => ?_)
  · replace hm := ineg c1 hm
    refine lv_aload_n hx hb d_Log_keep_10 rfl (lv_at hl 0 rfl) ?_
    refine va_get (D := D) (ci := 5) (v := .ref (ad 27)) (C := R_Log) (T := F_Log) (N := 15) hx hb hts i_Log hown hK hP 0 rfl rfl 9 (by decide) (hts _ wf_Log_62) (fun _ h9 => h9) rfl d_Log_keep_11 ?_
    refine lv_iload_n hx hb d_Log_keep_14 rfl (lv_at hl 1 rfl) ?_
    obtain ⟨q2, hq2, hm⟩ := ob hm
    refine inv_rV (C := R_Marks) (As := [.int p1]) (rest := []) (v := .int q2) X (c_Marks_find l D ca (ad 27) (ad 28) (ad 29) (ad 30) (ad 31) (ad 32) _ (g_made g) p1 q2 hq2) g_Log_98 yo_Marks_find ⟨Nat.le_of_ble_eq_true rfl, Nat.le_of_ble_eq_true rfl⟩ hl hP hD [27, 28, 29, 30, 31, 32] rfl rfl (ci := 4) rfl rfl hS hA rfl rfl (Nat.le_of_ble_eq_true rfl) ⟨Nat.zero_le _, Nat.zero_le _⟩ d_Log_keep_15 (fun H locs hP hS => ?_)
    refine lv_istore_n (lv' := [(2, .int q2), (0, .ref (ad 0)), (1, .int p1)]) hx hb d_Log_keep_18 rfl hl (by decide) rfl (fun ls hl => ?_)
    refine lv_iload_n hx hb d_Log_keep_19 rfl (lv_at hl 0 rfl) ?_
    refine lv_iconst (v := (-1)) hx hb d_Log_keep_20 (by decide) ?_
    refine lv_icmp_ne (tgt := 26) hx hb d_Log_keep_21 (by decide) (fun c3 => ?_) (fun c3 => ?_)
    · replace hm := ineg c3 hm
      refine lv_aload_n hx hb d_Log_keep_26 rfl (lv_at hl 1 rfl) ?_
      refine va_get (D := D) (ci := 5) (v := .ref (ad 27)) (C := R_Log) (T := F_Log) (N := 15) hx hb hts i_Log hown hK hP 0 rfl rfl 9 (by decide) (hts _ wf_Log_62) (fun _ h9 => h9) rfl d_Log_keep_27 ?_
      refine lv_iload_n hx hb d_Log_keep_30 rfl (lv_at hl 0 rfl) ?_
      obtain ⟨q4, hq4, hm⟩ := ob hm
      refine inv_rV (C := R_Marks) (As := [.int q2]) (rest := []) (v := .int q4) X (c_Marks_countAt l D ca (ad 27) (ad 28) (ad 29) (ad 30) (ad 31) (ad 32) _ (g_made g) q2 q4 hq4) g_Log_101 yo_Marks_countAt ⟨Nat.le_of_ble_eq_true rfl, Nat.le_of_ble_eq_true rfl⟩ hl hP hD [27, 28, 29, 30, 31, 32] rfl rfl (ci := 4) rfl rfl hS hA rfl rfl (Nat.le_of_ble_eq_true rfl) ⟨Nat.zero_le _, Nat.zero_le _⟩ d_Log_keep_31 (fun H locs hP hS => ?_)
      refine lv_istore_n (lv' := [(3, .int q4), (2, .int q2), (0, .ref (ad 0)), (1, .int p1)]) hx hb d_Log_keep_34 rfl hl (by decide) rfl (fun ls hl => ?_)
      refine lv_aload_n hx hb d_Log_keep_35 rfl (lv_at hl 2 rfl) ?_
      refine va_get (D := D) (ci := 5) (v := .ref (ad 11)) (C := R_Log) (T := F_Log) (N := 15) hx hb hts i_Log hown hK hP 0 rfl rfl 5 (by decide) (hts _ wf_Log_41) (fun _ h9 => h9) rfl d_Log_keep_36 ?_
      refine lv_iload_n hx hb d_Log_keep_39 rfl (lv_at hl 0 rfl) ?_
      obtain ⟨q5, hq5, hm⟩ := ob hm
      refine inv_rS (As := [.int q4]) (rest := [.ref (ad 11)]) (v := .int q5) X (c_Log_rowsOfMark l D ca  _ q4 q5 hq5) g_Log_104 yo_Log_rowsOfMark ⟨Nat.le_of_ble_eq_true rfl, Nat.le_of_ble_eq_true rfl⟩ hl hP hD [] rfl rfl hS hA rfl rfl (Nat.le_of_ble_eq_true rfl) ⟨Nat.zero_le _, Nat.zero_le _⟩ d_Log_keep_40 (fun H locs hP hS => ?_)
      obtain ⟨q6, hq6, hm⟩ := ob hm
      refine inv_rV (C := R_Room) (As := [.int q5]) (rest := []) (v := .int q6) X (c_Room_firstRun l D ca (ad 11) (ad 12) _ (g_room g) q5 q6 hq6) g_Log_107 yo_Room_firstRun ⟨Nat.le_of_ble_eq_true rfl, Nat.le_of_ble_eq_true rfl⟩ hl hP hD [11, 12] rfl rfl (ci := 2) rfl rfl hS hA rfl rfl (Nat.le_of_ble_eq_true rfl) ⟨Nat.zero_le _, Nat.zero_le _⟩ d_Log_keep_43 (fun H locs hP hS => ?_)
      refine lv_istore (lv' := [(4, .int q6), (3, .int q4), (2, .int q2), (0, .ref (ad 0)), (1, .int p1)]) hx hb d_Log_keep_46 hl (by decide) rfl (fun ls hl => ?_)
      refine lv_iload hx hb d_Log_keep_48 (lv_at hl 0 rfl) ?_
      refine lv_iconst (v := (-1)) hx hb d_Log_keep_50 (by decide) ?_
      refine lv_icmp_ne (tgt := 57) hx hb d_Log_keep_51 (by decide) (fun c7 => ?_) (fun c7 => ?_)
      · replace hm := ineg c7 hm
        refine lv_aload_n hx hb d_Log_keep_57 rfl (lv_at hl 3 rfl) ?_
        refine lv_iload_n hx hb d_Log_keep_58 rfl (lv_at hl 2 rfl) ?_
        obtain ⟨q8, hq8, hm⟩ := ob hm
        refine inv_mVa (C := R_Log) (As := [.int q2]) (rest := []) (v := .long q8.1) X (c_Log_drawMark l D ca ad _ g q2 q8 hq8) g_Log_110 yo_Log_drawMark ⟨Nat.le_of_ble_eq_true rfl, Nat.le_of_ble_eq_true rfl⟩ hl hP hD rfl (ci := 5) rfl rfl hS hA rfl rfl (Nat.le_of_ble_eq_true rfl) ⟨Nat.zero_le _, Nat.zero_le _⟩ d_Log_keep_59 (fun H locs hP hD hS => ?_)
        refine lv_lstore (lv' := [(5, .long q8.1), (4, .int q6), (3, .int q4), (2, .int q2), (0, .ref (ad 0)), (1, .int p1)]) hx hb d_Log_keep_62 hl (by decide) rfl (fun ls hl => ?_)
        refine lv_aload_n hx hb d_Log_keep_64 rfl (lv_at hl 4 rfl) ?_
        refine lv_iload hx hb d_Log_keep_65 (lv_at hl 1 rfl) ?_
        refine lv_iload_n hx hb d_Log_keep_67 rfl (lv_at hl 2 rfl) ?_
        obtain ⟨q9, hq9, hm⟩ := ob hm
        refine inv_rS (As := [.int q4]) (rest := [.int q6, .ref (ad 0)]) (v := .int q9) X (c_Log_rowsOfMark l D ca  _ q4 q9 hq9) g_Log_104 yo_Log_rowsOfMark ⟨Nat.le_of_ble_eq_true rfl, Nat.le_of_ble_eq_true rfl⟩ hl hP hD [] rfl rfl hS hA rfl rfl (Nat.le_of_ble_eq_true rfl) ⟨Nat.zero_le _, Nat.zero_le _⟩ d_Log_keep_68 (fun H locs hP hS => ?_)
        obtain ⟨q10, hq10, hm⟩ := ob hm
        refine inv_mVa (C := R_Log) (As := [.int q6, .int q9]) (rest := []) (v := .int q10.1) X (c_Log_writeImage l D ca ad _ q8.2 q6 q9 q10 hq10) g_Log_114 yo_Log_writeImage ⟨Nat.le_of_ble_eq_true rfl, Nat.le_of_ble_eq_true rfl⟩ hl hP hD rfl (ci := 5) rfl rfl hS hA rfl rfl (Nat.le_of_ble_eq_true rfl) ⟨Nat.zero_le _, Nat.zero_le _⟩ d_Log_keep_71 (fun H locs hP hD hS => ?_)
        refine lv_if_ne (tgt := 80) hx hb d_Log_keep_74 (by decide) (fun c11 => ?_) (fun c11 => ?_)
        · replace hm := ineg c11 hm
          refine lv_aload_n hx hb d_Log_keep_80 rfl (lv_at hl 4 rfl) ?_
          refine va_get (D := D) (ci := 5) (v := .ref (ad 21)) (C := R_Log) (T := F_Log) (N := 15) hx hb hts i_Log hown hK hP 0 rfl rfl 8 (by decide) (hts _ wf_Log_58) (fun _ h9 => h9) rfl d_Log_keep_81 ?_
          refine lv_iload_n hx hb d_Log_keep_84 rfl (lv_at hl 5 rfl) ?_
          refine lv_iload_n hx hb d_Log_keep_85 rfl (lv_at hl 2 rfl) ?_
          refine lv_iload hx hb d_Log_keep_86 (lv_at hl 1 rfl) ?_
          refine lv_lload hx hb d_Log_keep_88 (lv_at hl 0 rfl) ?_
          obtain ⟨q12, hq12, hm⟩ := ob hm
          refine inv_mV (C := R_Marks) (As := [.int p1, .int q4, .int q6, .long q8.1]) (rest := []) (v := .int q12.1) (ws' := wl_Log ca ad (s_kept q10.2 q12.2)) X (c_Marks_add l D ca (ad 21) (ad 22) (ad 23) (ad 24) (ad 25) (ad 26) _ (g_kept q10.2) p1 q4 q6 q8.1 q12 hq12) g_Log_118 yo_Marks_add ⟨Nat.le_of_ble_eq_true rfl, Nat.le_of_ble_eq_true rfl⟩ hl hP hD [21, 22, 23, 24, 25, 26] rfl rfl rfl rfl (ci := 4) rfl rfl hS hA rfl rfl (Nat.le_of_ble_eq_true rfl) ⟨Nat.zero_le _, Nat.zero_le _⟩ d_Log_keep_90 (fun H locs hP hD hS => ?_)
          refine lv_istore (lv' := [(7, .int q12.1), (5, .long q8.1), (4, .int q6), (3, .int q4), (2, .int q2), (0, .ref (ad 0)), (1, .int p1)]) hx hb d_Log_keep_93 hl (by decide) rfl (fun ls hl => ?_)
          refine lv_iconst (v := 0) hx hb d_Log_keep_95 (by decide) ?_
          refine lv_istore (lv' := [(8, .int 0), (7, .int q12.1), (5, .long q8.1), (4, .int q6), (3, .int q4), (2, .int q2), (0, .ref (ad 0)), (1, .int p1)]) hx hb d_Log_keep_96 hl (by decide) rfl (fun ls hl => ?_)
          exact k_m_Log_keep_L98 X hA FU (s_kept q10.2 q12.2) q2 q4 q12.1 0 _ hm _ _ hP hD hS ls (lv_sub hl [6, 5, 4, 1, 0] rfl)
        · replace hm := ip c11 hm
          refine lv_bipush (v := (-5)) hx hb d_Log_keep_77 (by decide) ?_
          cases hm
          exact ret_mi X hP hS d_Log_keep_79
      · replace hm := ip c7 hm
        refine lv_bipush (v := (-4)) hx hb d_Log_keep_54 (by decide) ?_
        cases hm
        exact ret_mi X hP hS d_Log_keep_56
    · replace hm := ip c3 hm
      refine lv_iconst (v := (-1)) hx hb d_Log_keep_24 (by decide) ?_
      cases hm
      exact ret_mi X hP hS d_Log_keep_25
  · replace hm := ip c1 hm
    refine lv_bipush (v := (-3)) hx hb d_Log_keep_7 (by decide) ?_
    cases hm
    exact ret_mi X hP hS d_Log_keep_9
set_option maxHeartbeats 4000000 in
set_option maxRecDepth 100000 in
theorem c_Log_give (l : Launch) (D : va_G) (ca : Nat → ClassId) (ad : Nat → Nat) (sz : Nat) (g : St_Log) (p1 : Int32) (res : Int32 × St_Log) (hm : m_Log_give g p1 = some res) : Met l y_Log_give (cws y_Log_give b_Log_give 3 (some .int)) (RM 3 66) (PreW D ca (wl_Log ca ad g) [.ref (ad 0), .int p1] sz) (QRm D (some (.int res.1)) (wl_Log ca ad res.2) (va_A (wl_Log ca ad g) sz)) 0 0 (va_A (wl_Log ca ad g) sz) := by
  refine met_ofM (own := R_Log) (by decide) rfl (Nat.le_of_ble_eq_true rfl) ?_
  intro p e s m below meth c A X hA hP hD ls hl
  obtain ⟨hx, hb, hml, hr, hown, hts, hK, hlocks⟩ := id X
  have hS : va_S A s.heap s.heap [] := va_S.rf
  have hl : lv_has ls 3 [(0, .ref (ad 0)), (1, .int p1)] := hl
  unfold m_Log_give at hm
  refine lv_aload_n hx hb d_Log_give_0 rfl (lv_at hl 0 rfl) ?_
  refine va_get (D := D) (ci := 5) (v := .int (g_isOpen g)) (C := R_Log) (T := F_Log) (N := 15) hx hb hts i_Log hown hK hP 0 rfl rfl 14 (by decide) (hts _ wf_Log_69) (fun _ h9 => h9) rfl d_Log_give_1 ?_
  refine lv_if_ne (tgt := 10) hx hb d_Log_give_4 (by decide) (fun c1 => ?_) (fun c1 => ?_)
  · replace hm := ineg c1 hm
    refine lv_aload_n hx hb d_Log_give_10 rfl (lv_at hl 0 rfl) ?_
    refine va_get (D := D) (ci := 5) (v := .ref (ad 27)) (C := R_Log) (T := F_Log) (N := 15) hx hb hts i_Log hown hK hP 0 rfl rfl 9 (by decide) (hts _ wf_Log_62) (fun _ h9 => h9) rfl d_Log_give_11 ?_
    refine lv_iload_n hx hb d_Log_give_14 rfl (lv_at hl 1 rfl) ?_
    obtain ⟨q2, hq2, hm⟩ := ob hm
    refine inv_rV (C := R_Marks) (As := [.int p1]) (rest := []) (v := .int q2) X (c_Marks_find l D ca (ad 27) (ad 28) (ad 29) (ad 30) (ad 31) (ad 32) _ (g_made g) p1 q2 hq2) g_Log_98 yo_Marks_find ⟨Nat.le_of_ble_eq_true rfl, Nat.le_of_ble_eq_true rfl⟩ hl hP hD [27, 28, 29, 30, 31, 32] rfl rfl (ci := 4) rfl rfl hS hA rfl rfl (Nat.le_of_ble_eq_true rfl) ⟨Nat.zero_le _, Nat.zero_le _⟩ d_Log_give_15 (fun H locs hP hS => ?_)
    refine lv_istore_n (lv' := [(2, .int q2), (0, .ref (ad 0)), (1, .int p1)]) hx hb d_Log_give_18 rfl hl (by decide) rfl (fun ls hl => ?_)
    refine lv_iload_n hx hb d_Log_give_19 rfl (lv_at hl 0 rfl) ?_
    refine lv_iconst (v := (-1)) hx hb d_Log_give_20 (by decide) ?_
    refine lv_icmp_ne (tgt := 26) hx hb d_Log_give_21 (by decide) (fun c3 => ?_) (fun c3 => ?_)
    · replace hm := ineg c3 hm
      refine lv_aload_n hx hb d_Log_give_26 rfl (lv_at hl 1 rfl) ?_
      refine va_get (D := D) (ci := 5) (v := .ref (ad 27)) (C := R_Log) (T := F_Log) (N := 15) hx hb hts i_Log hown hK hP 0 rfl rfl 9 (by decide) (hts _ wf_Log_62) (fun _ h9 => h9) rfl d_Log_give_27 ?_
      refine lv_iload_n hx hb d_Log_give_30 rfl (lv_at hl 0 rfl) ?_
      obtain ⟨q4, hq4, hm⟩ := ob hm
      refine inv_mU (C := R_Marks) (As := [.int q2]) (rest := []) (ws' := wl_Log ca ad (s_made g q4)) X (c_Marks_remove l D ca (ad 27) (ad 28) (ad 29) (ad 30) (ad 31) (ad 32) _ (g_made g) q2 q4 hq4) g_Log_129 yo_Marks_remove ⟨Nat.le_of_ble_eq_true rfl, Nat.le_of_ble_eq_true rfl⟩ hl hP hD [27, 28, 29, 30, 31, 32] rfl rfl rfl rfl (ci := 4) rfl rfl hS hA rfl rfl (Nat.le_of_ble_eq_true rfl) ⟨Nat.zero_le _, Nat.zero_le _⟩ d_Log_give_31 (fun H locs hP hD hS => ?_)
      refine lv_iconst (v := 1) hx hb d_Log_give_34 (by decide) ?_
      cases hm
      exact ret_mi X hP hS d_Log_give_35
    · replace hm := ip c3 hm
      refine lv_iconst (v := (-1)) hx hb d_Log_give_24 (by decide) ?_
      cases hm
      exact ret_mi X hP hS d_Log_give_25
  · replace hm := ip c1 hm
    refine lv_bipush (v := (-3)) hx hb d_Log_give_7 (by decide) ?_
    cases hm
    exact ret_mi X hP hS d_Log_give_9
set_option maxHeartbeats 4000000 in
set_option maxRecDepth 100000 in
theorem k_m_Log_drawHead_L35 {p : Program} {l : Launch} {e : Env} {s : State} {m : MethodId} {args : Array Value} {below : List Frame} {meth : Method} {c : Code} {D : va_G} {ca : Nat → ClassId} {ad : Nat → Nat} {A : Nat → Prop} (X : Cx p s m args meth c R_Log b_Log_drawHead 2 none D ca) (hA : ∀ q, s.heap.size ≤ q → A q)  : ∀ (n : Nat) (g : St_Log) (v1 : Int32) (res : St_Log), m_Log_drawHead_L35  n g v1 = some res → ∀ (H : Heap) (locs : List Loc), va_P D classes (wl_Log ca ad g) H → va_D A (wl_Log ca ad g) → va_S A s.heap H locs → ∀ ls : Array Slot, lv_has ls 2 [(0, .ref (ad 0)), (1, .int v1)] → W p l e (RM 4 82) s m args below meth c H locs 0 0 (MQ below (QRm D none (wl_Log ca ad res) A) args s 0 0 A) (F0 m 35 ls []) := by
  obtain ⟨hx, hb, hml, hr, hown, hts, hK, hlocks⟩ := id X
  intro n
  induction n with
  | zero =>
    intro g v1 res hm
    rw [m_Log_drawHead_L35] at hm
    cases hm
  | succ n ih =>
    intro g v1 res hm H locs hP hD hS ls hl
    rw [m_Log_drawHead_L35] at hm
    refine lv_iload_n hx hb d_Log_drawHead_35 rfl (lv_at hl 1 rfl) ?_
    refine lv_bipush (v := 8) hx hb d_Log_drawHead_36 (by decide) ?_
    refine lv_icmp_ge (tgt := 68) hx hb d_Log_drawHead_38 (by decide) (fun c4 => ?_) (fun c4 => ?_)
    · replace hm := ip c4 hm
      refine lv_aload_n hx hb d_Log_drawHead_68 rfl (lv_at hl 0 rfl) ?_
      obtain ⟨q5, hq5, hm⟩ := ob hm
      refine inv_mUa (C := R_Log) (As := []) (rest := []) X (c_Log_drawSum l D ca ad _ g q5 hq5) g_Log_294 yo_Log_drawSum ⟨Nat.le_of_ble_eq_true rfl, Nat.le_of_ble_eq_true rfl⟩ hl hP hD rfl (ci := 5) rfl rfl hS hA rfl rfl (Nat.le_of_ble_eq_true rfl) ⟨Nat.zero_le _, Nat.zero_le _⟩ d_Log_drawHead_69 (fun H locs hP hD hS => ?_)
      cases hm
      exact ret_mv X hP hS d_Log_drawHead_72
    · replace hm := ineg c4 hm
      refine lv_aload_n hx hb d_Log_drawHead_41 rfl (lv_at hl 0 rfl) ?_
      refine va_get (D := D) (ci := 5) (v := .ref (ad 5)) (C := R_Log) (T := F_Log) (N := 15) hx hb hts i_Log hown hK hP 0 rfl rfl 2 (by decide) (hts _ wf_Log_25) (fun _ h9 => h9) rfl d_Log_drawHead_42 ?_
      refine lv_bipush (v := 8) hx hb d_Log_drawHead_45 (by decide) ?_
      refine lv_iconst (v := 2) hx hb d_Log_drawHead_47 (by decide) ?_
      refine lv_iload_n hx hb d_Log_drawHead_48 rfl (lv_at hl 1 rfl) ?_
      refine lv_imul hx hb d_Log_drawHead_49 ?_
      refine lv_iadd hx hb d_Log_drawHead_50 ?_
      refine lv_aload_n hx hb d_Log_drawHead_51 rfl (lv_at hl 0 rfl) ?_
      refine va_get (D := D) (ci := 5) (v := .ref (ad 33)) (C := R_Log) (T := F_Log) (N := 15) hx hb hts i_Log hown hK hP 0 rfl rfl 10 (by decide) (hts _ wf_Log_65) (fun _ h9 => h9) rfl d_Log_drawHead_52 ?_
      refine lv_iload_n hx hb d_Log_drawHead_55 rfl (lv_at hl 1 rfl) ?_
      obtain ⟨b6, hm⟩ := on hm
      refine va_iald hx hb hK hP 33 2 rfl rfl b6 d_Log_drawHead_56 ?_
      refine lv_i2l (v := ((((g_owners g).2 (v1).toNatClampNeg)).toInt64)) hx hb d_Log_drawHead_57 rfl ?_
      refine lv_iconst (v := 2) hx hb d_Log_drawHead_58 (by decide) ?_
      obtain ⟨q7, hq7, hm⟩ := ob hm
      refine inv_mU (C := R_Bytes) (As := [.int (8 + (2 * v1)), .long ((((g_owners g).2 (v1).toNatClampNeg)).toInt64), .int 2]) (rest := []) (ws' := wl_Log ca ad (s_image g q7)) X (c_Bytes_put l D ca (ad 5) (ad 6) _ (g_image g) (8 + (2 * v1)) ((((g_owners g).2 (v1).toNatClampNeg)).toInt64) 2 q7 hq7) g_Log_286 yo_Bytes_put ⟨Nat.le_of_ble_eq_true rfl, Nat.le_of_ble_eq_true rfl⟩ hl hP hD [5, 6] rfl rfl rfl rfl (ci := 1) rfl rfl hS hA rfl rfl (Nat.le_of_ble_eq_true rfl) ⟨Nat.zero_le _, Nat.zero_le _⟩ d_Log_drawHead_59 (fun H locs hP hD hS => ?_)
      refine lv_iinc (v := (v1 + 1)) (lv' := [(1, .int (v1 + 1)), (0, .ref (ad 0))]) hx hb d_Log_drawHead_62 hl (k := 1) rfl rfl (by decide) rfl (fun ls hl => ?_)
      refine lv_goto (tgt := 35) hx hb d_Log_drawHead_65 (by decide) ?_
      exact ih (s_image g q7) (v1 + 1) _ hm _ _ hP hD hS ls (lv_sub hl [1, 0] rfl)
set_option maxHeartbeats 4000000 in
set_option maxRecDepth 100000 in
theorem c_Log_drawHead (l : Launch) (D : va_G) (ca : Nat → ClassId) (ad : Nat → Nat) (sz : Nat) (g : St_Log)  (res : St_Log) (hm : m_Log_drawHead g = some res) : Met l y_Log_drawHead (cws y_Log_drawHead b_Log_drawHead 2 none) (RM 4 82) (PreW D ca (wl_Log ca ad g) [.ref (ad 0)] sz) (QRm D none (wl_Log ca ad res) (va_A (wl_Log ca ad g) sz)) 0 0 (va_A (wl_Log ca ad g) sz) := by
  refine met_ofM (own := R_Log) (by decide) rfl (Nat.le_of_ble_eq_true rfl) ?_
  intro p e s m below meth c A X hA hP hD ls hl
  obtain ⟨hx, hb, hml, hr, hown, hts, hK, hlocks⟩ := id X
  have hS : va_S A s.heap s.heap [] := va_S.rf
  have hl : lv_has ls 2 [(0, .ref (ad 0))] := hl
  unfold m_Log_drawHead at hm
  refine lv_aload_n hx hb d_Log_drawHead_0 rfl (lv_at hl 0 rfl) ?_
  refine va_get (D := D) (ci := 5) (v := .ref (ad 5)) (C := R_Log) (T := F_Log) (N := 15) hx hb hts i_Log hown hK hP 0 rfl rfl 2 (by decide) (hts _ wf_Log_25) (fun _ h9 => h9) rfl d_Log_drawHead_1 ?_
  obtain ⟨q1, hq1, hm⟩ := ob hm
  refine inv_mU (C := R_Bytes) (As := []) (rest := []) (ws' := wl_Log ca ad (s_image g q1)) X (c_Bytes_clear l D ca (ad 5) (ad 6) _ (g_image g) q1 hq1) g_Log_80 yo_Bytes_clear ⟨Nat.le_of_ble_eq_true rfl, Nat.le_of_ble_eq_true rfl⟩ hl hP hD [5, 6] rfl rfl rfl rfl (ci := 1) rfl rfl hS hA rfl rfl (Nat.le_of_ble_eq_true rfl) ⟨Nat.zero_le _, Nat.zero_le _⟩ d_Log_drawHead_4 (fun H locs hP hD hS => ?_)
  refine lv_aload_n hx hb d_Log_drawHead_7 rfl (lv_at hl 0 rfl) ?_
  refine va_get (D := D) (ci := 5) (v := .ref (ad 5)) (C := R_Log) (T := F_Log) (N := 15) hx hb hts i_Log hown hK hP 0 rfl rfl 2 (by decide) (hts _ wf_Log_25) (fun _ h9 => h9) rfl d_Log_drawHead_8 ?_
  refine lv_iconst (v := 0) hx hb d_Log_drawHead_11 (by decide) ?_
  refine lv_ldc2 hx hb hown (hts _ wc_Log_315) d_Log_drawHead_12 ?_
  refine lv_iconst (v := 1) hx hb d_Log_drawHead_15 (by decide) ?_
  obtain ⟨q2, hq2, hm⟩ := ob hm
  refine inv_mU (C := R_Bytes) (As := [.int 0, .long 4, .int 1]) (rest := []) (ws' := wl_Log ca ad (s_image (s_image g q1) q2)) X (c_Bytes_put l D ca (ad 5) (ad 6) _ q1 0 4 1 q2 hq2) g_Log_286 yo_Bytes_put ⟨Nat.le_of_ble_eq_true rfl, Nat.le_of_ble_eq_true rfl⟩ hl hP hD [5, 6] rfl rfl rfl rfl (ci := 1) rfl rfl hS hA rfl rfl (Nat.le_of_ble_eq_true rfl) ⟨Nat.zero_le _, Nat.zero_le _⟩ d_Log_drawHead_16 (fun H locs hP hD hS => ?_)
  refine lv_aload_n hx hb d_Log_drawHead_19 rfl (lv_at hl 0 rfl) ?_
  refine va_get (D := D) (ci := 5) (v := .ref (ad 5)) (C := R_Log) (T := F_Log) (N := 15) hx hb hts i_Log hown hK hP 0 rfl rfl 2 (by decide) (hts _ wf_Log_25) (fun _ h9 => h9) rfl d_Log_drawHead_20 ?_
  refine lv_iconst (v := 4) hx hb d_Log_drawHead_23 (by decide) ?_
  refine lv_aload_n hx hb d_Log_drawHead_24 rfl (lv_at hl 0 rfl) ?_
  refine va_get (D := D) (ci := 5) (v := .int (g_serial g)) (C := R_Log) (T := F_Log) (N := 15) hx hb hts i_Log hown hK hP 0 rfl rfl 11 (by decide) (hts _ wf_Log_137) (fun _ h9 => h9) rfl d_Log_drawHead_25 ?_
  refine lv_i2l (v := (((g_serial g)).toInt64)) hx hb d_Log_drawHead_28 rfl ?_
  refine lv_iconst (v := 4) hx hb d_Log_drawHead_29 (by decide) ?_
  obtain ⟨q3, hq3, hm⟩ := ob hm
  refine inv_mU (C := R_Bytes) (As := [.int 4, .long (((g_serial g)).toInt64), .int 4]) (rest := []) (ws' := wl_Log ca ad (s_image (s_image (s_image g q1) q2) q3)) X (c_Bytes_put l D ca (ad 5) (ad 6) _ q2 4 (((g_serial g)).toInt64) 4 q3 hq3) g_Log_286 yo_Bytes_put ⟨Nat.le_of_ble_eq_true rfl, Nat.le_of_ble_eq_true rfl⟩ hl hP hD [5, 6] rfl rfl rfl rfl (ci := 1) rfl rfl hS hA rfl rfl (Nat.le_of_ble_eq_true rfl) ⟨Nat.zero_le _, Nat.zero_le _⟩ d_Log_drawHead_30 (fun H locs hP hD hS => ?_)
  refine lv_iconst (v := 0) hx hb d_Log_drawHead_33 (by decide) ?_
  refine lv_istore_n (lv' := [(1, .int 0), (0, .ref (ad 0))]) hx hb d_Log_drawHead_34 rfl hl (by decide) rfl (fun ls hl => ?_)
  exact k_m_Log_drawHead_L35 X hA FU (s_image (s_image (s_image g q1) q2) q3) 0 _ hm _ _ hP hD hS ls (lv_sub hl [1, 0] rfl)
