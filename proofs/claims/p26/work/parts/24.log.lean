set_option maxHeartbeats 4000000 in
set_option maxRecDepth 100000 in
theorem c_Log_in_ (l : Launch) (D : va_G) (ca : Nat → ClassId) (ad : Nat → Nat) (sz : Nat) (g : St_Log)  (res : Int32 × St_Log) (hm : m_Log_in_ g = some res) : Met l y_Log_in_ (cws y_Log_in_ b_Log_in_ 3 (some .int)) (RM 7 161) (PreW D ca (wl_Log ca ad g) [.ref (ad 0)] sz) (QRm D (some (.int res.1)) (wl_Log ca ad res.2) (va_A (wl_Log ca ad g) sz)) 0 0 (va_A (wl_Log ca ad g) sz) := by
  refine met_ofM (own := R_Log) (by decide) rfl (Nat.le_of_ble_eq_true rfl) ?_
  intro p e s m below meth c A X hA hP hD ls hl
  obtain ⟨hx, hb, hml, hr, hown, hts, hK, hlocks⟩ := id X
  have hS : va_S A s.heap s.heap [] := va_S.rf
  have hl : lv_has ls 3 [(0, .ref (ad 0))] := hl
  unfold m_Log_in_ at hm
  refine lv_aload_n hx hb d_Log_in__0 rfl (lv_at hl 0 rfl) ?_
  refine va_get (D := D) (ci := 5) (v := .ref (ad 3)) (C := R_Log) (T := F_Log) (N := 15) hx hb hts i_Log hown hK hP 0 rfl rfl 1 (by decide) (hts _ wf_Log_21) (fun _ h9 => h9) rfl d_Log_in__1 ?_
  refine lv_iconst (v := 1) hx hb d_Log_in__4 (by decide) ?_
  obtain ⟨q1, hq1, hm⟩ := ob hm
  refine inv_rV (C := R_Bytes) (As := [.int 1]) (rest := []) (v := .int q1) X (c_Bytes_at l D ca (ad 3) (ad 4) _ (g_tape g) 1 q1 hq1) g_Log_239 yo_Bytes_at ⟨Nat.le_of_ble_eq_true rfl, Nat.le_of_ble_eq_true rfl⟩ hl hP hD [3, 4] rfl rfl (ci := 1) rfl rfl hS hA rfl rfl (Nat.le_of_ble_eq_true rfl) ⟨Nat.zero_le _, Nat.zero_le _⟩ d_Log_in__5 (fun H locs hP hS => ?_)
  refine lv_istore_n (lv' := [(1, .int q1), (0, .ref (ad 0))]) hx hb d_Log_in__8 rfl hl (by decide) rfl (fun ls hl => ?_)
  refine lv_aload_n hx hb d_Log_in__9 rfl (lv_at hl 1 rfl) ?_
  refine va_get (D := D) (ci := 5) (v := .int (g_isOpen g)) (C := R_Log) (T := F_Log) (N := 15) hx hb hts i_Log hown hK hP 0 rfl rfl 14 (by decide) (hts _ wf_Log_69) (fun _ h9 => h9) rfl d_Log_in__10 ?_
  refine lv_if_ne (tgt := 22) hx hb d_Log_in__13 (by decide) (fun c2 => ?_) (fun c2 => ?_)
  · replace hm := ineg c2 hm
    refine lv_aload_n hx hb d_Log_in__22 rfl (lv_at hl 1 rfl) ?_
    obtain ⟨q3, hq3, hm⟩ := ob hm
    refine inv_rVa (C := R_Log) (As := []) (rest := []) (v := .int q3) X (c_Log_isSavepointOnTape l D ca ad _ g q3 hq3) g_Log_241 yo_Log_isSavepointOnTape ⟨Nat.le_of_ble_eq_true rfl, Nat.le_of_ble_eq_true rfl⟩ hl hP hD (ci := 5) rfl rfl hS hA rfl rfl (Nat.le_of_ble_eq_true rfl) ⟨Nat.zero_le _, Nat.zero_le _⟩ d_Log_in__23 (fun H locs hP hS => ?_)
    refine lv_if_ne (tgt := 35) hx hb d_Log_in__26 (by decide) (fun c4 => ?_) (fun c4 => ?_)
    · replace hm := ineg c4 hm
      refine lv_aload_n hx hb d_Log_in__35 rfl (lv_at hl 1 rfl) ?_
      refine lv_iload_n hx hb d_Log_in__36 rfl (lv_at hl 0 rfl) ?_
      obtain ⟨q5, hq5, hm⟩ := ob hm
      refine inv_mVa (C := R_Log) (As := [.int q1]) (rest := []) (v := .int q5.1) X (c_Log_isRoomForSavepoint l D ca ad _ g q1 q5 hq5) g_Log_245 yo_Log_isRoomForSavepoint ⟨Nat.le_of_ble_eq_true rfl, Nat.le_of_ble_eq_true rfl⟩ hl hP hD rfl (ci := 5) rfl rfl hS hA rfl rfl (Nat.le_of_ble_eq_true rfl) ⟨Nat.zero_le _, Nat.zero_le _⟩ d_Log_in__37 (fun H locs hP hD hS => ?_)
      refine lv_if_ne (tgt := 49) hx hb d_Log_in__40 (by decide) (fun c6 => ?_) (fun c6 => ?_)
      · replace hm := ineg c6 hm
        refine lv_aload_n hx hb d_Log_in__49 rfl (lv_at hl 1 rfl) ?_
        refine lv_iload_n hx hb d_Log_in__50 rfl (lv_at hl 0 rfl) ?_
        obtain ⟨q7, hq7, hm⟩ := ob hm
        refine inv_mVa (C := R_Log) (As := [.int q1]) (rest := []) (v := .int q7.1) X (c_Log_writeSavepoint l D ca ad _ q5.2 q1 q7 hq7) g_Log_248 yo_Log_writeSavepoint ⟨Nat.le_of_ble_eq_true rfl, Nat.le_of_ble_eq_true rfl⟩ hl hP hD rfl (ci := 5) rfl rfl hS hA rfl rfl (Nat.le_of_ble_eq_true rfl) ⟨Nat.zero_le _, Nat.zero_le _⟩ d_Log_in__51 (fun H locs hP hD hS => ?_)
        refine lv_istore_n (lv' := [(2, .int q7.1), (1, .int q1), (0, .ref (ad 0))]) hx hb d_Log_in__54 rfl hl (by decide) rfl (fun ls hl => ?_)
        refine lv_aload_n hx hb d_Log_in__55 rfl (lv_at hl 2 rfl) ?_
        refine va_get (D := D) (ci := 5) (v := .ref (ad 3)) (C := R_Log) (T := F_Log) (N := 15) hx hb hts i_Log hown hK hP 0 rfl rfl 1 (by decide) (hts _ wf_Log_21) (fun _ h9 => h9) rfl d_Log_in__56 ?_
        obtain ⟨q8, hq8, hm⟩ := ob hm
        refine inv_mU (C := R_Bytes) (As := []) (rest := []) (ws' := wl_Log ca ad (s_tape q7.2 q8)) X (c_Bytes_clear l D ca (ad 3) (ad 4) _ (g_tape q7.2) q8 hq8) g_Log_80 yo_Bytes_clear ⟨Nat.le_of_ble_eq_true rfl, Nat.le_of_ble_eq_true rfl⟩ hl hP hD [3, 4] rfl rfl rfl rfl (ci := 1) rfl rfl hS hA rfl rfl (Nat.le_of_ble_eq_true rfl) ⟨Nat.zero_le _, Nat.zero_le _⟩ d_Log_in__59 (fun H locs hP hD hS => ?_)
        refine lv_iload_n hx hb d_Log_in__62 rfl (lv_at hl 0 rfl) ?_
        cases hm
        exact ret_mi X hP hS d_Log_in__63
      · replace hm := ip c6 hm
        refine lv_bipush (v := (-4)) hx hb d_Log_in__43 (by decide) ?_
        refine lv_istore_n (lv' := [(2, .int (-4)), (1, .int q1), (0, .ref (ad 0))]) hx hb d_Log_in__45 rfl hl (by decide) rfl (fun ls hl => ?_)
        refine lv_goto (tgt := 55) hx hb d_Log_in__46 (by decide) ?_
        refine lv_aload_n hx hb d_Log_in__55 rfl (lv_at hl 2 rfl) ?_
        refine va_get (D := D) (ci := 5) (v := .ref (ad 3)) (C := R_Log) (T := F_Log) (N := 15) hx hb hts i_Log hown hK hP 0 rfl rfl 1 (by decide) (hts _ wf_Log_21) (fun _ h9 => h9) rfl d_Log_in__56 ?_
        obtain ⟨q9, hq9, hm⟩ := ob hm
        refine inv_mU (C := R_Bytes) (As := []) (rest := []) (ws' := wl_Log ca ad (s_tape q5.2 q9)) X (c_Bytes_clear l D ca (ad 3) (ad 4) _ (g_tape q5.2) q9 hq9) g_Log_80 yo_Bytes_clear ⟨Nat.le_of_ble_eq_true rfl, Nat.le_of_ble_eq_true rfl⟩ hl hP hD [3, 4] rfl rfl rfl rfl (ci := 1) rfl rfl hS hA rfl rfl (Nat.le_of_ble_eq_true rfl) ⟨Nat.zero_le _, Nat.zero_le _⟩ d_Log_in__59 (fun H locs hP hD hS => ?_)
        refine lv_iload_n hx hb d_Log_in__62 rfl (lv_at hl 0 rfl) ?_
        cases hm
        exact ret_mi X hP hS d_Log_in__63
    · replace hm := ip c4 hm
      refine lv_bipush (v := (-2)) hx hb d_Log_in__29 (by decide) ?_
      refine lv_istore_n (lv' := [(2, .int (-2)), (1, .int q1), (0, .ref (ad 0))]) hx hb d_Log_in__31 rfl hl (by decide) rfl (fun ls hl => ?_)
      refine lv_goto (tgt := 55) hx hb d_Log_in__32 (by decide) ?_
      refine lv_aload_n hx hb d_Log_in__55 rfl (lv_at hl 2 rfl) ?_
      refine va_get (D := D) (ci := 5) (v := .ref (ad 3)) (C := R_Log) (T := F_Log) (N := 15) hx hb hts i_Log hown hK hP 0 rfl rfl 1 (by decide) (hts _ wf_Log_21) (fun _ h9 => h9) rfl d_Log_in__56 ?_
      obtain ⟨q10, hq10, hm⟩ := ob hm
      refine inv_mU (C := R_Bytes) (As := []) (rest := []) (ws' := wl_Log ca ad (s_tape g q10)) X (c_Bytes_clear l D ca (ad 3) (ad 4) _ (g_tape g) q10 hq10) g_Log_80 yo_Bytes_clear ⟨Nat.le_of_ble_eq_true rfl, Nat.le_of_ble_eq_true rfl⟩ hl hP hD [3, 4] rfl rfl rfl rfl (ci := 1) rfl rfl hS hA rfl rfl (Nat.le_of_ble_eq_true rfl) ⟨Nat.zero_le _, Nat.zero_le _⟩ d_Log_in__59 (fun H locs hP hD hS => ?_)
      refine lv_iload_n hx hb d_Log_in__62 rfl (lv_at hl 0 rfl) ?_
      cases hm
      exact ret_mi X hP hS d_Log_in__63
  · replace hm := ip c2 hm
    refine lv_bipush (v := (-3)) hx hb d_Log_in__16 (by decide) ?_
    refine lv_istore_n (lv' := [(2, .int (-3)), (1, .int q1), (0, .ref (ad 0))]) hx hb d_Log_in__18 rfl hl (by decide) rfl (fun ls hl => ?_)
    refine lv_goto (tgt := 55) hx hb d_Log_in__19 (by decide) ?_
    refine lv_aload_n hx hb d_Log_in__55 rfl (lv_at hl 2 rfl) ?_
    refine va_get (D := D) (ci := 5) (v := .ref (ad 3)) (C := R_Log) (T := F_Log) (N := 15) hx hb hts i_Log hown hK hP 0 rfl rfl 1 (by decide) (hts _ wf_Log_21) (fun _ h9 => h9) rfl d_Log_in__56 ?_
    obtain ⟨q11, hq11, hm⟩ := ob hm
    refine inv_mU (C := R_Bytes) (As := []) (rest := []) (ws' := wl_Log ca ad (s_tape g q11)) X (c_Bytes_clear l D ca (ad 3) (ad 4) _ (g_tape g) q11 hq11) g_Log_80 yo_Bytes_clear ⟨Nat.le_of_ble_eq_true rfl, Nat.le_of_ble_eq_true rfl⟩ hl hP hD [3, 4] rfl rfl rfl rfl (ci := 1) rfl rfl hS hA rfl rfl (Nat.le_of_ble_eq_true rfl) ⟨Nat.zero_le _, Nat.zero_le _⟩ d_Log_in__59 (fun H locs hP hD hS => ?_)
    refine lv_iload_n hx hb d_Log_in__62 rfl (lv_at hl 0 rfl) ?_
    cases hm
    exact ret_mi X hP hS d_Log_in__63
set_option maxHeartbeats 4000000 in
set_option maxRecDepth 100000 in
theorem k_m_Log_drawPartOut_otherSavepoint_L47 {p : Program} {l : Launch} {e : Env} {s : State} {m : MethodId} {args : Array Value} {below : List Frame} {meth : Method} {c : Code} {D : va_G} {ca : Nat → ClassId} {ad : Nat → Nat} {A : Nat → Prop} (X : Cx p s m args meth c R_Log b_Log_drawPartOut 5 none D ca) (hA : ∀ q, s.heap.size ≤ q → A q)  : ∀ (n : Nat) (g : St_Log) (v2 : Int32) (v3 : Int32) (v4 : Int32) (res : St_Log), m_Log_drawPartOut_otherSavepoint_L47  n g v2 v3 v4 = some res → ∀ (H : Heap) (locs : List Loc), va_P D classes (wl_Log ca ad g) H → va_D A (wl_Log ca ad g) → va_S A s.heap H locs → ∀ ls : Array Slot, lv_has ls 5 [(0, .ref (ad 0)), (1, .ref (ad 9)), (2, .int v2), (3, .int v3), (4, .int v4)] → W p l e (RM 4 85) s m args below meth c H locs 0 0 (MQ below (QRm D none (wl_Log ca ad res) A) args s 0 0 A) (F0 m 47 ls []) := by
  obtain ⟨hx, hb, hml, hr, hown, hts, hK, hlocks⟩ := id X
  intro n
  induction n with
  | zero =>
    intro g v2 v3 v4 res hm
    rw [m_Log_drawPartOut_otherSavepoint_L47] at hm
    cases hm
  | succ n ih =>
    intro g v2 v3 v4 res hm H locs hP hD hS ls hl
    rw [m_Log_drawPartOut_otherSavepoint_L47] at hm
    refine lv_iload hx hb d_Log_drawPartOut_47 (lv_at hl 4 rfl) ?_
    refine lv_iload_n hx hb d_Log_drawPartOut_49 rfl (lv_at hl 3 rfl) ?_
    refine lv_icmp_ge (tgt := 72) hx hb d_Log_drawPartOut_50 (by decide) (fun c7 => ?_) (fun c7 => ?_)
    · replace hm := ip c7 hm
      cases hm
      exact ret_mv X hP hS d_Log_drawPartOut_72
    · replace hm := ineg c7 hm
      refine lv_aload_n hx hb d_Log_drawPartOut_53 rfl (lv_at hl 1 rfl) ?_
      refine lv_aload_n hx hb d_Log_drawPartOut_54 rfl (lv_at hl 0 rfl) ?_
      refine lv_iload_n hx hb d_Log_drawPartOut_55 rfl (lv_at hl 2 rfl) ?_
      refine lv_iload hx hb d_Log_drawPartOut_56 (lv_at hl 4 rfl) ?_
      obtain ⟨q8, hq8, hm⟩ := ob hm
      refine inv_rVa (C := R_Log) (As := [.int v2, .int v4]) (rest := [.ref (ad 9)]) (v := .int q8) X (c_Log_byteOfPart l D ca ad _ g v2 v4 q8 hq8) g_Log_207 yo_Log_byteOfPart ⟨Nat.le_of_ble_eq_true rfl, Nat.le_of_ble_eq_true rfl⟩ hl hP hD (ci := 5) rfl rfl hS hA rfl rfl (Nat.le_of_ble_eq_true rfl) ⟨Nat.zero_le _, Nat.zero_le _⟩ d_Log_drawPartOut_58 (fun H locs hP hS => ?_)
      refine lv_i2l (v := ((q8).toInt64)) hx hb d_Log_drawPartOut_61 rfl ?_
      refine lv_iconst (v := 1) hx hb d_Log_drawPartOut_62 (by decide) ?_
      obtain ⟨q9, hq9, hm⟩ := ob hm
      refine inv_mU (C := R_Bytes) (As := [.long ((q8).toInt64), .int 1]) (rest := []) (ws' := wl_Log ca ad (s_otherSavepoint g q9)) X (c_Bytes_add l D ca (ad 9) (ad 10) _ (g_otherSavepoint g) ((q8).toInt64) 1 q9 hq9) g_Log_76 yo_Bytes_add ⟨Nat.le_of_ble_eq_true rfl, Nat.le_of_ble_eq_true rfl⟩ hl hP hD [9, 10] rfl rfl rfl rfl (ci := 1) rfl rfl hS hA rfl rfl (Nat.le_of_ble_eq_true rfl) ⟨Nat.zero_le _, Nat.zero_le _⟩ d_Log_drawPartOut_63 (fun H locs hP hD hS => ?_)
      refine lv_iinc (v := (v4 + 1)) (lv' := [(4, .int (v4 + 1)), (0, .ref (ad 0)), (1, .ref (ad 9)), (2, .int v2), (3, .int v3)]) hx hb d_Log_drawPartOut_66 hl (k := 4) rfl rfl (by decide) rfl (fun ls hl => ?_)
      refine lv_goto (tgt := 47) hx hb d_Log_drawPartOut_69 (by decide) ?_
      exact ih (s_otherSavepoint g q9) v2 v3 (v4 + 1) _ hm _ _ hP hD hS ls (lv_sub hl [1, 2, 3, 4, 0] rfl)
set_option maxHeartbeats 4000000 in
set_option maxRecDepth 100000 in
theorem c_Log_drawPartOut_otherSavepoint (l : Launch) (D : va_G) (ca : Nat → ClassId) (ad : Nat → Nat) (sz : Nat) (g : St_Log) (p2 : Int32) (res : St_Log) (hm : m_Log_drawPartOut_otherSavepoint g p2 = some res) : Met l y_Log_drawPartOut (cws y_Log_drawPartOut b_Log_drawPartOut 5 none) (RM 4 85) (PreW D ca (wl_Log ca ad g) [.ref (ad 0), .ref (ad 9), .int p2] sz) (QRm D none (wl_Log ca ad res) (va_A (wl_Log ca ad g) sz)) 0 0 (va_A (wl_Log ca ad g) sz) := by
  refine met_ofM (own := R_Log) (by decide) rfl (Nat.le_of_ble_eq_true rfl) ?_
  intro p e s m below meth c A X hA hP hD ls hl
  obtain ⟨hx, hb, hml, hr, hown, hts, hK, hlocks⟩ := id X
  have hS : va_S A s.heap s.heap [] := va_S.rf
  have hl : lv_has ls 5 [(0, .ref (ad 0)), (1, .ref (ad 9)), (2, .int p2)] := hl
  unfold m_Log_drawPartOut_otherSavepoint at hm
  refine lv_aload_n hx hb d_Log_drawPartOut_0 rfl (lv_at hl 0 rfl) ?_
  refine va_get (D := D) (ci := 5) (v := .ref (ad 15)) (C := R_Log) (T := F_Log) (N := 15) hx hb hts i_Log hown hK hP 0 rfl rfl 7 (by decide) (hts _ wf_Log_51) (fun _ h9 => h9) rfl d_Log_drawPartOut_1 ?_
  refine lv_iload_n hx hb d_Log_drawPartOut_4 rfl (lv_at hl 2 rfl) ?_
  obtain ⟨q1, hq1, hm⟩ := ob hm
  refine inv_rV (C := R_Parts) (As := [.int p2]) (rest := []) (v := .int q1) X (c_Parts_lengthAt l D ca (ad 15) (ad 16) (ad 17) (ad 18) (ad 19) (ad 20) _ (g_parts g) p2 q1 hq1) g_Log_195 yo_Parts_lengthAt ⟨Nat.le_of_ble_eq_true rfl, Nat.le_of_ble_eq_true rfl⟩ hl hP hD [15, 16, 17, 18, 19, 20] rfl rfl (ci := 3) rfl rfl hS hA rfl rfl (Nat.le_of_ble_eq_true rfl) ⟨Nat.zero_le _, Nat.zero_le _⟩ d_Log_drawPartOut_5 (fun H locs hP hS => ?_)
  refine lv_istore_n (lv' := [(3, .int q1), (0, .ref (ad 0)), (1, .ref (ad 9)), (2, .int p2)]) hx hb d_Log_drawPartOut_8 rfl hl (by decide) rfl (fun ls hl => ?_)
  refine lv_aload_n hx hb d_Log_drawPartOut_9 rfl (lv_at hl 2 rfl) ?_
  refine lv_aload_n hx hb d_Log_drawPartOut_10 rfl (lv_at hl 1 rfl) ?_
  refine va_get (D := D) (ci := 5) (v := .ref (ad 15)) (C := R_Log) (T := F_Log) (N := 15) hx hb hts i_Log hown hK hP 0 rfl rfl 7 (by decide) (hts _ wf_Log_51) (fun _ h9 => h9) rfl d_Log_drawPartOut_11 ?_
  refine lv_iload_n hx hb d_Log_drawPartOut_14 rfl (lv_at hl 3 rfl) ?_
  obtain ⟨q2, hq2, hm⟩ := ob hm
  refine inv_rV (C := R_Parts) (As := [.int p2]) (rest := [.ref (ad 9)]) (v := .int q2) X (c_Parts_groupAt l D ca (ad 15) (ad 16) (ad 17) (ad 18) (ad 19) (ad 20) _ (g_parts g) p2 q2 hq2) g_Log_189 yo_Parts_groupAt ⟨Nat.le_of_ble_eq_true rfl, Nat.le_of_ble_eq_true rfl⟩ hl hP hD [15, 16, 17, 18, 19, 20] rfl rfl (ci := 3) rfl rfl hS hA rfl rfl (Nat.le_of_ble_eq_true rfl) ⟨Nat.zero_le _, Nat.zero_le _⟩ d_Log_drawPartOut_15 (fun H locs hP hS => ?_)
  refine lv_i2l (v := ((q2).toInt64)) hx hb d_Log_drawPartOut_18 rfl ?_
  refine lv_iconst (v := 1) hx hb d_Log_drawPartOut_19 (by decide) ?_
  obtain ⟨q3, hq3, hm⟩ := ob hm
  refine inv_mU (C := R_Bytes) (As := [.long ((q2).toInt64), .int 1]) (rest := []) (ws' := wl_Log ca ad (s_otherSavepoint g q3)) X (c_Bytes_add l D ca (ad 9) (ad 10) _ (g_otherSavepoint g) ((q2).toInt64) 1 q3 hq3) g_Log_76 yo_Bytes_add ⟨Nat.le_of_ble_eq_true rfl, Nat.le_of_ble_eq_true rfl⟩ hl hP hD [9, 10] rfl rfl rfl rfl (ci := 1) rfl rfl hS hA rfl rfl (Nat.le_of_ble_eq_true rfl) ⟨Nat.zero_le _, Nat.zero_le _⟩ d_Log_drawPartOut_20 (fun H locs hP hD hS => ?_)
  refine lv_aload_n hx hb d_Log_drawPartOut_23 rfl (lv_at hl 2 rfl) ?_
  refine lv_aload_n hx hb d_Log_drawPartOut_24 rfl (lv_at hl 1 rfl) ?_
  refine va_get (D := D) (ci := 5) (v := .ref (ad 15)) (C := R_Log) (T := F_Log) (N := 15) hx hb hts i_Log hown hK hP 0 rfl rfl 7 (by decide) (hts _ wf_Log_51) (fun _ h9 => h9) rfl d_Log_drawPartOut_25 ?_
  refine lv_iload_n hx hb d_Log_drawPartOut_28 rfl (lv_at hl 3 rfl) ?_
  obtain ⟨q4, hq4, hm⟩ := ob hm
  refine inv_rV (C := R_Parts) (As := [.int p2]) (rest := [.ref (ad 9)]) (v := .long q4) X (c_Parts_positionAt l D ca (ad 15) (ad 16) (ad 17) (ad 18) (ad 19) (ad 20) _ (g_parts g) p2 q4 hq4) g_Log_192 yo_Parts_positionAt ⟨Nat.le_of_ble_eq_true rfl, Nat.le_of_ble_eq_true rfl⟩ hl hP hD [15, 16, 17, 18, 19, 20] rfl rfl (ci := 3) rfl rfl hS hA rfl rfl (Nat.le_of_ble_eq_true rfl) ⟨Nat.zero_le _, Nat.zero_le _⟩ d_Log_drawPartOut_29 (fun H locs hP hS => ?_)
  refine lv_bipush (v := 8) hx hb d_Log_drawPartOut_32 (by decide) ?_
  obtain ⟨q5, hq5, hm⟩ := ob hm
  refine inv_mU (C := R_Bytes) (As := [.long q4, .int 8]) (rest := []) (ws' := wl_Log ca ad (s_otherSavepoint (s_otherSavepoint g q3) q5)) X (c_Bytes_add l D ca (ad 9) (ad 10) _ q3 q4 8 q5 hq5) g_Log_76 yo_Bytes_add ⟨Nat.le_of_ble_eq_true rfl, Nat.le_of_ble_eq_true rfl⟩ hl hP hD [9, 10] rfl rfl rfl rfl (ci := 1) rfl rfl hS hA rfl rfl (Nat.le_of_ble_eq_true rfl) ⟨Nat.zero_le _, Nat.zero_le _⟩ d_Log_drawPartOut_34 (fun H locs hP hD hS => ?_)
  refine lv_aload_n hx hb d_Log_drawPartOut_37 rfl (lv_at hl 2 rfl) ?_
  refine lv_iload_n hx hb d_Log_drawPartOut_38 rfl (lv_at hl 0 rfl) ?_
  refine lv_i2l (v := ((q1).toInt64)) hx hb d_Log_drawPartOut_39 rfl ?_
  refine lv_iconst (v := 2) hx hb d_Log_drawPartOut_40 (by decide) ?_
  obtain ⟨q6, hq6, hm⟩ := ob hm
  refine inv_mU (C := R_Bytes) (As := [.long ((q1).toInt64), .int 2]) (rest := []) (ws' := wl_Log ca ad (s_otherSavepoint (s_otherSavepoint (s_otherSavepoint g q3) q5) q6)) X (c_Bytes_add l D ca (ad 9) (ad 10) _ q5 ((q1).toInt64) 2 q6 hq6) g_Log_76 yo_Bytes_add ⟨Nat.le_of_ble_eq_true rfl, Nat.le_of_ble_eq_true rfl⟩ hl hP hD [9, 10] rfl rfl rfl rfl (ci := 1) rfl rfl hS hA rfl rfl (Nat.le_of_ble_eq_true rfl) ⟨Nat.zero_le _, Nat.zero_le _⟩ d_Log_drawPartOut_41 (fun H locs hP hD hS => ?_)
  refine lv_iconst (v := 0) hx hb d_Log_drawPartOut_44 (by decide) ?_
  refine lv_istore (lv' := [(4, .int 0), (3, .int q1), (0, .ref (ad 0)), (1, .ref (ad 9)), (2, .int p2)]) hx hb d_Log_drawPartOut_45 hl (by decide) rfl (fun ls hl => ?_)
  exact k_m_Log_drawPartOut_otherSavepoint_L47 X hA FU (s_otherSavepoint (s_otherSavepoint (s_otherSavepoint g q3) q5) q6) p2 q1 0 _ hm _ _ hP hD hS ls (lv_sub hl [2, 3, 4, 1, 0] rfl)
set_option maxHeartbeats 4000000 in
set_option maxRecDepth 100000 in
theorem k_m_Log_drawSavepoint_otherSavepoint_L49 {p : Program} {l : Launch} {e : Env} {s : State} {m : MethodId} {args : Array Value} {below : List Frame} {meth : Method} {c : Code} {D : va_G} {ca : Nat → ClassId} {ad : Nat → Nat} {A : Nat → Prop} (X : Cx p s m args meth c R_Log b_Log_drawSavepoint 7 none D ca) (hA : ∀ q, s.heap.size ≤ q → A q)  : ∀ (n : Nat) (g : St_Log) (v4 : Int32) (v5 : Int32) (v6 : Int32) (res : St_Log), m_Log_drawSavepoint_otherSavepoint_L49  n g v4 v5 v6 = some res → ∀ (H : Heap) (locs : List Loc), va_P D classes (wl_Log ca ad g) H → va_D A (wl_Log ca ad g) → va_S A s.heap H locs → ∀ ls : Array Slot, lv_has ls 7 [(0, .ref (ad 0)), (1, .ref (ad 9)), (3, .ref (ad 21)), (4, .int v4), (5, .int v5), (6, .int v6)] → W p l e (RM 5 109) s m args below meth c H locs 0 0 (MQ below (QRm D none (wl_Log ca ad res) A) args s 0 0 A) (F0 m 49 ls []) := by
  obtain ⟨hx, hb, hml, hr, hown, hts, hK, hlocks⟩ := id X
  intro n
  induction n with
  | zero =>
    intro g v4 v5 v6 res hm
    rw [m_Log_drawSavepoint_otherSavepoint_L49] at hm
    cases hm
  | succ n ih =>
    intro g v4 v5 v6 res hm H locs hP hD hS ls hl
    rw [m_Log_drawSavepoint_otherSavepoint_L49] at hm
    refine lv_iload hx hb d_Log_drawSavepoint_49 (lv_at hl 5 rfl) ?_
    refine lv_iload hx hb d_Log_drawSavepoint_51 (lv_at hl 4 rfl) ?_
    refine lv_icmp_ge (tgt := 82) hx hb d_Log_drawSavepoint_53 (by decide) (fun c8 => ?_) (fun c8 => ?_)
    · replace hm := ip c8 hm
      refine lv_aload_n hx hb d_Log_drawSavepoint_82 rfl (lv_at hl 1 rfl) ?_
      refine lv_aload_n hx hb d_Log_drawSavepoint_83 rfl (lv_at hl 1 rfl) ?_
      refine lv_iconst (v := 0) hx hb d_Log_drawSavepoint_84 (by decide) ?_
      refine lv_aload_n hx hb d_Log_drawSavepoint_85 rfl (lv_at hl 1 rfl) ?_
      obtain ⟨q9, hq9, hm⟩ := ob hm
      refine inv_rV (C := R_Bytes) (As := []) (rest := [.int 0, .ref (ad 9), .ref (ad 9)]) (v := .int q9) X (c_Bytes_size l D ca (ad 9) (ad 10) _ (g_otherSavepoint g) q9 hq9) g_Log_73 yo_Bytes_size ⟨Nat.le_of_ble_eq_true rfl, Nat.le_of_ble_eq_true rfl⟩ hl hP hD [9, 10] rfl rfl (ci := 1) rfl rfl hS hA rfl rfl (Nat.le_of_ble_eq_true rfl) ⟨Nat.zero_le _, Nat.zero_le _⟩ d_Log_drawSavepoint_86 (fun H locs hP hS => ?_)
      obtain ⟨q10, hq10, hm⟩ := ob hm
      refine inv_rV (C := R_Bytes) (As := [.int 0, .int q9]) (rest := [.ref (ad 9)]) (v := .long q10) X (c_Bytes_digest l D ca (ad 9) (ad 10) _ (g_otherSavepoint g) 0 q9 q10 hq10) g_Log_290 yo_Bytes_digest ⟨Nat.le_of_ble_eq_true rfl, Nat.le_of_ble_eq_true rfl⟩ hl hP hD [9, 10] rfl rfl (ci := 1) rfl rfl hS hA rfl rfl (Nat.le_of_ble_eq_true rfl) ⟨Nat.zero_le _, Nat.zero_le _⟩ d_Log_drawSavepoint_89 (fun H locs hP hS => ?_)
      refine lv_bipush (v := 8) hx hb d_Log_drawSavepoint_92 (by decide) ?_
      obtain ⟨q11, hq11, hm⟩ := ob hm
      refine inv_mU (C := R_Bytes) (As := [.long q10, .int 8]) (rest := []) (ws' := wl_Log ca ad (s_otherSavepoint g q11)) X (c_Bytes_add l D ca (ad 9) (ad 10) _ (g_otherSavepoint g) q10 8 q11 hq11) g_Log_76 yo_Bytes_add ⟨Nat.le_of_ble_eq_true rfl, Nat.le_of_ble_eq_true rfl⟩ hl hP hD [9, 10] rfl rfl rfl rfl (ci := 1) rfl rfl hS hA rfl rfl (Nat.le_of_ble_eq_true rfl) ⟨Nat.zero_le _, Nat.zero_le _⟩ d_Log_drawSavepoint_94 (fun H locs hP hD hS => ?_)
      cases hm
      exact ret_mv X hP hS d_Log_drawSavepoint_97
    · replace hm := ineg c8 hm
      refine lv_aload_n hx hb d_Log_drawSavepoint_56 rfl (lv_at hl 0 rfl) ?_
      refine lv_aload_n hx hb d_Log_drawSavepoint_57 rfl (lv_at hl 1 rfl) ?_
      refine lv_aload_n hx hb d_Log_drawSavepoint_58 rfl (lv_at hl 0 rfl) ?_
      refine va_get (D := D) (ci := 5) (v := .ref (ad 15)) (C := R_Log) (T := F_Log) (N := 15) hx hb hts i_Log hown hK hP 0 rfl rfl 7 (by decide) (hts _ wf_Log_51) (fun _ h9 => h9) rfl d_Log_drawSavepoint_59 ?_
      refine lv_aload_n hx hb d_Log_drawSavepoint_62 rfl (lv_at hl 2 rfl) ?_
      refine lv_iload hx hb d_Log_drawSavepoint_63 (lv_at hl 3 rfl) ?_
      refine lv_iload hx hb d_Log_drawSavepoint_65 (lv_at hl 5 rfl) ?_
      obtain ⟨q12, hq12, hm⟩ := ob hm
      refine inv_rV (C := R_Marks) (As := [.int v4, .int v6]) (rest := [.ref (ad 15), .ref (ad 9), .ref (ad 0)]) (v := .int q12) X (c_Marks_partAt l D ca (ad 21) (ad 22) (ad 23) (ad 24) (ad 25) (ad 26) _ (g_kept g) v4 v6 q12 hq12) g_Log_121 yo_Marks_partAt ⟨Nat.le_of_ble_eq_true rfl, Nat.le_of_ble_eq_true rfl⟩ hl hP hD [21, 22, 23, 24, 25, 26] rfl rfl (ci := 4) rfl rfl hS hA rfl rfl (Nat.le_of_ble_eq_true rfl) ⟨Nat.zero_le _, Nat.zero_le _⟩ d_Log_drawSavepoint_67 (fun H locs hP hS => ?_)
      obtain ⟨q13, hq13, hm⟩ := ob hm
      refine inv_rV (C := R_Parts) (As := [.int q12]) (rest := [.ref (ad 9), .ref (ad 0)]) (v := .int q13) X (c_Parts_find l D ca (ad 15) (ad 16) (ad 17) (ad 18) (ad 19) (ad 20) _ (g_parts g) q12 q13 hq13) g_Log_186 yo_Parts_find ⟨Nat.le_of_ble_eq_true rfl, Nat.le_of_ble_eq_true rfl⟩ hl hP hD [15, 16, 17, 18, 19, 20] rfl rfl (ci := 3) rfl rfl hS hA rfl rfl (Nat.le_of_ble_eq_true rfl) ⟨Nat.zero_le _, Nat.zero_le _⟩ d_Log_drawSavepoint_70 (fun H locs hP hS => ?_)
      obtain ⟨q14, hq14, hm⟩ := ob hm
      refine inv_mUa (C := R_Log) (As := [.ref (ad 9), .int q13]) (rest := []) X (c_Log_drawPartOut_otherSavepoint l D ca ad _ g q13 q14 hq14) g_Log_385 yo_Log_drawPartOut ⟨Nat.le_of_ble_eq_true rfl, Nat.le_of_ble_eq_true rfl⟩ hl hP hD rfl (ci := 5) rfl rfl hS hA rfl rfl (Nat.le_of_ble_eq_true rfl) ⟨Nat.zero_le _, Nat.zero_le _⟩ d_Log_drawSavepoint_73 (fun H locs hP hD hS => ?_)
      refine lv_iinc (v := (v6 + 1)) (lv' := [(6, .int (v6 + 1)), (0, .ref (ad 0)), (1, .ref (ad 9)), (3, .ref (ad 21)), (4, .int v4), (5, .int v5)]) hx hb d_Log_drawSavepoint_76 hl (k := 5) rfl rfl (by decide) rfl (fun ls hl => ?_)
      refine lv_goto (tgt := 49) hx hb d_Log_drawSavepoint_79 (by decide) ?_
      exact ih q14 v4 v5 (v6 + 1) _ hm _ _ hP hD hS ls (lv_sub hl [1, 2, 3, 4, 5, 0] rfl)
set_option maxHeartbeats 4000000 in
set_option maxRecDepth 100000 in
theorem k_m_Log_drawSavepoint_otherSavepoint_L49a {p : Program} {l : Launch} {e : Env} {s : State} {m : MethodId} {args : Array Value} {below : List Frame} {meth : Method} {c : Code} {D : va_G} {ca : Nat → ClassId} {ad : Nat → Nat} {A : Nat → Prop} (X : Cx p s m args meth c R_Log b_Log_drawSavepoint 7 none D ca) (hA : ∀ q, s.heap.size ≤ q → A q)  : ∀ (n : Nat) (g : St_Log) (v4 : Int32) (v5 : Int32) (v6 : Int32) (res : St_Log), m_Log_drawSavepoint_otherSavepoint_L49a  n g v4 v5 v6 = some res → ∀ (H : Heap) (locs : List Loc), va_P D classes (wl_Log ca ad g) H → va_D A (wl_Log ca ad g) → va_S A s.heap H locs → ∀ ls : Array Slot, lv_has ls 7 [(0, .ref (ad 0)), (1, .ref (ad 9)), (3, .ref (ad 27)), (4, .int v4), (5, .int v5), (6, .int v6)] → W p l e (RM 5 109) s m args below meth c H locs 0 0 (MQ below (QRm D none (wl_Log ca ad res) A) args s 0 0 A) (F0 m 49 ls []) := by
  obtain ⟨hx, hb, hml, hr, hown, hts, hK, hlocks⟩ := id X
  intro n
  induction n with
  | zero =>
    intro g v4 v5 v6 res hm
    rw [m_Log_drawSavepoint_otherSavepoint_L49a] at hm
    cases hm
  | succ n ih =>
    intro g v4 v5 v6 res hm H locs hP hD hS ls hl
    rw [m_Log_drawSavepoint_otherSavepoint_L49a] at hm
    refine lv_iload hx hb d_Log_drawSavepoint_49 (lv_at hl 5 rfl) ?_
    refine lv_iload hx hb d_Log_drawSavepoint_51 (lv_at hl 4 rfl) ?_
    refine lv_icmp_ge (tgt := 82) hx hb d_Log_drawSavepoint_53 (by decide) (fun c20 => ?_) (fun c20 => ?_)
    · replace hm := ip c20 hm
      refine lv_aload_n hx hb d_Log_drawSavepoint_82 rfl (lv_at hl 1 rfl) ?_
      refine lv_aload_n hx hb d_Log_drawSavepoint_83 rfl (lv_at hl 1 rfl) ?_
      refine lv_iconst (v := 0) hx hb d_Log_drawSavepoint_84 (by decide) ?_
      refine lv_aload_n hx hb d_Log_drawSavepoint_85 rfl (lv_at hl 1 rfl) ?_
      obtain ⟨q21, hq21, hm⟩ := ob hm
      refine inv_rV (C := R_Bytes) (As := []) (rest := [.int 0, .ref (ad 9), .ref (ad 9)]) (v := .int q21) X (c_Bytes_size l D ca (ad 9) (ad 10) _ (g_otherSavepoint g) q21 hq21) g_Log_73 yo_Bytes_size ⟨Nat.le_of_ble_eq_true rfl, Nat.le_of_ble_eq_true rfl⟩ hl hP hD [9, 10] rfl rfl (ci := 1) rfl rfl hS hA rfl rfl (Nat.le_of_ble_eq_true rfl) ⟨Nat.zero_le _, Nat.zero_le _⟩ d_Log_drawSavepoint_86 (fun H locs hP hS => ?_)
      obtain ⟨q22, hq22, hm⟩ := ob hm
      refine inv_rV (C := R_Bytes) (As := [.int 0, .int q21]) (rest := [.ref (ad 9)]) (v := .long q22) X (c_Bytes_digest l D ca (ad 9) (ad 10) _ (g_otherSavepoint g) 0 q21 q22 hq22) g_Log_290 yo_Bytes_digest ⟨Nat.le_of_ble_eq_true rfl, Nat.le_of_ble_eq_true rfl⟩ hl hP hD [9, 10] rfl rfl (ci := 1) rfl rfl hS hA rfl rfl (Nat.le_of_ble_eq_true rfl) ⟨Nat.zero_le _, Nat.zero_le _⟩ d_Log_drawSavepoint_89 (fun H locs hP hS => ?_)
      refine lv_bipush (v := 8) hx hb d_Log_drawSavepoint_92 (by decide) ?_
      obtain ⟨q23, hq23, hm⟩ := ob hm
      refine inv_mU (C := R_Bytes) (As := [.long q22, .int 8]) (rest := []) (ws' := wl_Log ca ad (s_otherSavepoint g q23)) X (c_Bytes_add l D ca (ad 9) (ad 10) _ (g_otherSavepoint g) q22 8 q23 hq23) g_Log_76 yo_Bytes_add ⟨Nat.le_of_ble_eq_true rfl, Nat.le_of_ble_eq_true rfl⟩ hl hP hD [9, 10] rfl rfl rfl rfl (ci := 1) rfl rfl hS hA rfl rfl (Nat.le_of_ble_eq_true rfl) ⟨Nat.zero_le _, Nat.zero_le _⟩ d_Log_drawSavepoint_94 (fun H locs hP hD hS => ?_)
      cases hm
      exact ret_mv X hP hS d_Log_drawSavepoint_97
    · replace hm := ineg c20 hm
      refine lv_aload_n hx hb d_Log_drawSavepoint_56 rfl (lv_at hl 0 rfl) ?_
      refine lv_aload_n hx hb d_Log_drawSavepoint_57 rfl (lv_at hl 1 rfl) ?_
      refine lv_aload_n hx hb d_Log_drawSavepoint_58 rfl (lv_at hl 0 rfl) ?_
      refine va_get (D := D) (ci := 5) (v := .ref (ad 15)) (C := R_Log) (T := F_Log) (N := 15) hx hb hts i_Log hown hK hP 0 rfl rfl 7 (by decide) (hts _ wf_Log_51) (fun _ h9 => h9) rfl d_Log_drawSavepoint_59 ?_
      refine lv_aload_n hx hb d_Log_drawSavepoint_62 rfl (lv_at hl 2 rfl) ?_
      refine lv_iload hx hb d_Log_drawSavepoint_63 (lv_at hl 3 rfl) ?_
      refine lv_iload hx hb d_Log_drawSavepoint_65 (lv_at hl 5 rfl) ?_
      obtain ⟨q24, hq24, hm⟩ := ob hm
      refine inv_rV (C := R_Marks) (As := [.int v4, .int v6]) (rest := [.ref (ad 15), .ref (ad 9), .ref (ad 0)]) (v := .int q24) X (c_Marks_partAt l D ca (ad 27) (ad 28) (ad 29) (ad 30) (ad 31) (ad 32) _ (g_made g) v4 v6 q24 hq24) g_Log_121 yo_Marks_partAt ⟨Nat.le_of_ble_eq_true rfl, Nat.le_of_ble_eq_true rfl⟩ hl hP hD [27, 28, 29, 30, 31, 32] rfl rfl (ci := 4) rfl rfl hS hA rfl rfl (Nat.le_of_ble_eq_true rfl) ⟨Nat.zero_le _, Nat.zero_le _⟩ d_Log_drawSavepoint_67 (fun H locs hP hS => ?_)
      obtain ⟨q25, hq25, hm⟩ := ob hm
      refine inv_rV (C := R_Parts) (As := [.int q24]) (rest := [.ref (ad 9), .ref (ad 0)]) (v := .int q25) X (c_Parts_find l D ca (ad 15) (ad 16) (ad 17) (ad 18) (ad 19) (ad 20) _ (g_parts g) q24 q25 hq25) g_Log_186 yo_Parts_find ⟨Nat.le_of_ble_eq_true rfl, Nat.le_of_ble_eq_true rfl⟩ hl hP hD [15, 16, 17, 18, 19, 20] rfl rfl (ci := 3) rfl rfl hS hA rfl rfl (Nat.le_of_ble_eq_true rfl) ⟨Nat.zero_le _, Nat.zero_le _⟩ d_Log_drawSavepoint_70 (fun H locs hP hS => ?_)
      obtain ⟨q26, hq26, hm⟩ := ob hm
      refine inv_mUa (C := R_Log) (As := [.ref (ad 9), .int q25]) (rest := []) X (c_Log_drawPartOut_otherSavepoint l D ca ad _ g q25 q26 hq26) g_Log_385 yo_Log_drawPartOut ⟨Nat.le_of_ble_eq_true rfl, Nat.le_of_ble_eq_true rfl⟩ hl hP hD rfl (ci := 5) rfl rfl hS hA rfl rfl (Nat.le_of_ble_eq_true rfl) ⟨Nat.zero_le _, Nat.zero_le _⟩ d_Log_drawSavepoint_73 (fun H locs hP hD hS => ?_)
      refine lv_iinc (v := (v6 + 1)) (lv' := [(6, .int (v6 + 1)), (0, .ref (ad 0)), (1, .ref (ad 9)), (3, .ref (ad 27)), (4, .int v4), (5, .int v5)]) hx hb d_Log_drawSavepoint_76 hl (k := 5) rfl rfl (by decide) rfl (fun ls hl => ?_)
      refine lv_goto (tgt := 49) hx hb d_Log_drawSavepoint_79 (by decide) ?_
      exact ih q26 v4 v5 (v6 + 1) _ hm _ _ hP hD hS ls (lv_sub hl [1, 2, 3, 4, 5, 0] rfl)
set_option maxHeartbeats 4000000 in
set_option maxRecDepth 100000 in
theorem c_Log_drawSavepoint_otherSavepoint (l : Launch) (D : va_G) (ca : Nat → ClassId) (ad : Nat → Nat) (sz : Nat) (g : St_Log) (p2 : Int32) (res : St_Log) (hm : m_Log_drawSavepoint_otherSavepoint g p2 = some res) : Met l y_Log_drawSavepoint (cws y_Log_drawSavepoint b_Log_drawSavepoint 7 none) (RM 5 109) (PreW D ca (wl_Log ca ad g) [.ref (ad 0), .ref (ad 9), .int p2] sz) (QRm D none (wl_Log ca ad res) (va_A (wl_Log ca ad g) sz)) 0 0 (va_A (wl_Log ca ad g) sz) := by
  refine met_ofM (own := R_Log) (by decide) rfl (Nat.le_of_ble_eq_true rfl) ?_
  intro p e s m below meth c A X hA hP hD ls hl
  obtain ⟨hx, hb, hml, hr, hown, hts, hK, hlocks⟩ := id X
  have hS : va_S A s.heap s.heap [] := va_S.rf
  have hl : lv_has ls 7 [(0, .ref (ad 0)), (1, .ref (ad 9)), (2, .int p2)] := hl
  unfold m_Log_drawSavepoint_otherSavepoint at hm
  refine lv_aload_n hx hb d_Log_drawSavepoint_0 rfl (lv_at hl 1 rfl) ?_
  obtain ⟨q1, hq1, hm⟩ := ob hm
  refine inv_mU (C := R_Bytes) (As := []) (rest := []) (ws' := wl_Log ca ad (s_otherSavepoint g q1)) X (c_Bytes_clear l D ca (ad 9) (ad 10) _ (g_otherSavepoint g) q1 hq1) g_Log_80 yo_Bytes_clear ⟨Nat.le_of_ble_eq_true rfl, Nat.le_of_ble_eq_true rfl⟩ hl hP hD [9, 10] rfl rfl rfl rfl (ci := 1) rfl rfl hS hA rfl rfl (Nat.le_of_ble_eq_true rfl) ⟨Nat.zero_le _, Nat.zero_le _⟩ d_Log_drawSavepoint_1 (fun H locs hP hD hS => ?_)
  refine lv_aload_n hx hb d_Log_drawSavepoint_4 rfl (lv_at hl 0 rfl) ?_
  refine lv_iload_n hx hb d_Log_drawSavepoint_5 rfl (lv_at hl 2 rfl) ?_
  obtain ⟨q2, hq2, hm⟩ := ob hm
  refine inv_rVa (C := R_Log) (As := [.int p2]) (rest := []) (v := tb_Log_tableOf ad q2) X (c_Log_tableOf l D ca ad _ (s_otherSavepoint g q1) p2 q2 hq2) g_Log_175 yo_Log_tableOf ⟨Nat.le_of_ble_eq_true rfl, Nat.le_of_ble_eq_true rfl⟩ hl hP hD (ci := 5) rfl rfl hS hA rfl rfl (Nat.le_of_ble_eq_true rfl) ⟨Nat.zero_le _, Nat.zero_le _⟩ d_Log_drawSavepoint_6 (fun H locs hP hS => ?_)
  by_cases c3 : q2 = 1
  · replace hm := ip c3 hm
    refine W.eq (g2 := F0 m 9 ls [.ref (ad 21)]) (by rw [c3]; rfl) ?_
    refine lv_astore_n (lv' := [(3, .ref (ad 21)), (0, .ref (ad 0)), (1, .ref (ad 9)), (2, .int p2)]) hx hb d_Log_drawSavepoint_9 rfl hl (by decide) rfl (fun ls hl => ?_)
    refine lv_aload_n hx hb d_Log_drawSavepoint_10 rfl (lv_at hl 0 rfl) ?_
    refine lv_ifnonnull (tgt := 15) hx hb d_Log_drawSavepoint_11 (by decide) ?_
    refine lv_aload_n hx hb d_Log_drawSavepoint_15 rfl (lv_at hl 0 rfl) ?_
    refine lv_iload_n hx hb d_Log_drawSavepoint_16 rfl (lv_at hl 3 rfl) ?_
    obtain ⟨q4, hq4, hm⟩ := ob hm
    refine inv_rV (C := R_Marks) (As := [.int p2]) (rest := []) (v := .int q4) X (c_Marks_find l D ca (ad 21) (ad 22) (ad 23) (ad 24) (ad 25) (ad 26) _ (g_kept g) p2 q4 hq4) g_Log_98 yo_Marks_find ⟨Nat.le_of_ble_eq_true rfl, Nat.le_of_ble_eq_true rfl⟩ hl hP hD [21, 22, 23, 24, 25, 26] rfl rfl (ci := 4) rfl rfl hS hA rfl rfl (Nat.le_of_ble_eq_true rfl) ⟨Nat.zero_le _, Nat.zero_le _⟩ d_Log_drawSavepoint_17 (fun H locs hP hS => ?_)
    refine lv_istore (lv' := [(4, .int q4), (3, .ref (ad 21)), (0, .ref (ad 0)), (1, .ref (ad 9)), (2, .int p2)]) hx hb d_Log_drawSavepoint_20 hl (by decide) rfl (fun ls hl => ?_)
    refine lv_aload_n hx hb d_Log_drawSavepoint_22 rfl (lv_at hl 1 rfl) ?_
    refine lv_iload hx hb d_Log_drawSavepoint_23 (lv_at hl 0 rfl) ?_
    obtain ⟨q5, hq5, hm⟩ := ob hm
    refine inv_rV (C := R_Marks) (As := [.int q4]) (rest := []) (v := .int q5) X (c_Marks_countAt l D ca (ad 21) (ad 22) (ad 23) (ad 24) (ad 25) (ad 26) _ (g_kept g) q4 q5 hq5) g_Log_101 yo_Marks_countAt ⟨Nat.le_of_ble_eq_true rfl, Nat.le_of_ble_eq_true rfl⟩ hl hP hD [21, 22, 23, 24, 25, 26] rfl rfl (ci := 4) rfl rfl hS hA rfl rfl (Nat.le_of_ble_eq_true rfl) ⟨Nat.zero_le _, Nat.zero_le _⟩ d_Log_drawSavepoint_25 (fun H locs hP hS => ?_)
    refine lv_istore (lv' := [(5, .int q5), (4, .int q4), (3, .ref (ad 21)), (0, .ref (ad 0)), (1, .ref (ad 9)), (2, .int p2)]) hx hb d_Log_drawSavepoint_28 hl (by decide) rfl (fun ls hl => ?_)
    refine lv_aload_n hx hb d_Log_drawSavepoint_30 rfl (lv_at hl 4 rfl) ?_
    refine lv_ldc2 hx hb hown (hts _ wc_Log_383) d_Log_drawSavepoint_31 ?_
    refine lv_iconst (v := 1) hx hb d_Log_drawSavepoint_34 (by decide) ?_
    obtain ⟨q6, hq6, hm⟩ := ob hm
    refine inv_mU (C := R_Bytes) (As := [.long 77, .int 1]) (rest := []) (ws' := wl_Log ca ad (s_otherSavepoint (s_otherSavepoint g q1) q6)) X (c_Bytes_add l D ca (ad 9) (ad 10) _ q1 77 1 q6 hq6) g_Log_76 yo_Bytes_add ⟨Nat.le_of_ble_eq_true rfl, Nat.le_of_ble_eq_true rfl⟩ hl hP hD [9, 10] rfl rfl rfl rfl (ci := 1) rfl rfl hS hA rfl rfl (Nat.le_of_ble_eq_true rfl) ⟨Nat.zero_le _, Nat.zero_le _⟩ d_Log_drawSavepoint_35 (fun H locs hP hD hS => ?_)
    refine lv_aload_n hx hb d_Log_drawSavepoint_38 rfl (lv_at hl 4 rfl) ?_
    refine lv_iload hx hb d_Log_drawSavepoint_39 (lv_at hl 0 rfl) ?_
    refine lv_i2l (v := ((q5).toInt64)) hx hb d_Log_drawSavepoint_41 rfl ?_
    refine lv_iconst (v := 1) hx hb d_Log_drawSavepoint_42 (by decide) ?_
    obtain ⟨q7, hq7, hm⟩ := ob hm
    refine inv_mU (C := R_Bytes) (As := [.long ((q5).toInt64), .int 1]) (rest := []) (ws' := wl_Log ca ad (s_otherSavepoint (s_otherSavepoint (s_otherSavepoint g q1) q6) q7)) X (c_Bytes_add l D ca (ad 9) (ad 10) _ q6 ((q5).toInt64) 1 q7 hq7) g_Log_76 yo_Bytes_add ⟨Nat.le_of_ble_eq_true rfl, Nat.le_of_ble_eq_true rfl⟩ hl hP hD [9, 10] rfl rfl rfl rfl (ci := 1) rfl rfl hS hA rfl rfl (Nat.le_of_ble_eq_true rfl) ⟨Nat.zero_le _, Nat.zero_le _⟩ d_Log_drawSavepoint_43 (fun H locs hP hD hS => ?_)
    refine lv_iconst (v := 0) hx hb d_Log_drawSavepoint_46 (by decide) ?_
    refine lv_istore (lv' := [(6, .int 0), (5, .int q5), (4, .int q4), (3, .ref (ad 21)), (0, .ref (ad 0)), (1, .ref (ad 9)), (2, .int p2)]) hx hb d_Log_drawSavepoint_47 hl (by decide) rfl (fun ls hl => ?_)
    exact k_m_Log_drawSavepoint_otherSavepoint_L49 X hA FU (s_otherSavepoint (s_otherSavepoint (s_otherSavepoint g q1) q6) q7) q4 q5 0 _ hm _ _ hP hD hS ls (lv_sub hl [4, 5, 3, 2, 1, 0] rfl)
  replace hm := ineg c3 hm
  by_cases c15 : q2 = 2
  · replace hm := ip c15 hm
    refine W.eq (g2 := F0 m 9 ls [.ref (ad 27)]) (by rw [c15]; rfl) ?_
    refine lv_astore_n (lv' := [(3, .ref (ad 27)), (0, .ref (ad 0)), (1, .ref (ad 9)), (2, .int p2)]) hx hb d_Log_drawSavepoint_9 rfl hl (by decide) rfl (fun ls hl => ?_)
    refine lv_aload_n hx hb d_Log_drawSavepoint_10 rfl (lv_at hl 0 rfl) ?_
    refine lv_ifnonnull (tgt := 15) hx hb d_Log_drawSavepoint_11 (by decide) ?_
    refine lv_aload_n hx hb d_Log_drawSavepoint_15 rfl (lv_at hl 0 rfl) ?_
    refine lv_iload_n hx hb d_Log_drawSavepoint_16 rfl (lv_at hl 3 rfl) ?_
    obtain ⟨q16, hq16, hm⟩ := ob hm
    refine inv_rV (C := R_Marks) (As := [.int p2]) (rest := []) (v := .int q16) X (c_Marks_find l D ca (ad 27) (ad 28) (ad 29) (ad 30) (ad 31) (ad 32) _ (g_made g) p2 q16 hq16) g_Log_98 yo_Marks_find ⟨Nat.le_of_ble_eq_true rfl, Nat.le_of_ble_eq_true rfl⟩ hl hP hD [27, 28, 29, 30, 31, 32] rfl rfl (ci := 4) rfl rfl hS hA rfl rfl (Nat.le_of_ble_eq_true rfl) ⟨Nat.zero_le _, Nat.zero_le _⟩ d_Log_drawSavepoint_17 (fun H locs hP hS => ?_)
    refine lv_istore (lv' := [(4, .int q16), (3, .ref (ad 27)), (0, .ref (ad 0)), (1, .ref (ad 9)), (2, .int p2)]) hx hb d_Log_drawSavepoint_20 hl (by decide) rfl (fun ls hl => ?_)
    refine lv_aload_n hx hb d_Log_drawSavepoint_22 rfl (lv_at hl 1 rfl) ?_
    refine lv_iload hx hb d_Log_drawSavepoint_23 (lv_at hl 0 rfl) ?_
    obtain ⟨q17, hq17, hm⟩ := ob hm
    refine inv_rV (C := R_Marks) (As := [.int q16]) (rest := []) (v := .int q17) X (c_Marks_countAt l D ca (ad 27) (ad 28) (ad 29) (ad 30) (ad 31) (ad 32) _ (g_made g) q16 q17 hq17) g_Log_101 yo_Marks_countAt ⟨Nat.le_of_ble_eq_true rfl, Nat.le_of_ble_eq_true rfl⟩ hl hP hD [27, 28, 29, 30, 31, 32] rfl rfl (ci := 4) rfl rfl hS hA rfl rfl (Nat.le_of_ble_eq_true rfl) ⟨Nat.zero_le _, Nat.zero_le _⟩ d_Log_drawSavepoint_25 (fun H locs hP hS => ?_)
    refine lv_istore (lv' := [(5, .int q17), (4, .int q16), (3, .ref (ad 27)), (0, .ref (ad 0)), (1, .ref (ad 9)), (2, .int p2)]) hx hb d_Log_drawSavepoint_28 hl (by decide) rfl (fun ls hl => ?_)
    refine lv_aload_n hx hb d_Log_drawSavepoint_30 rfl (lv_at hl 4 rfl) ?_
    refine lv_ldc2 hx hb hown (hts _ wc_Log_383) d_Log_drawSavepoint_31 ?_
    refine lv_iconst (v := 1) hx hb d_Log_drawSavepoint_34 (by decide) ?_
    obtain ⟨q18, hq18, hm⟩ := ob hm
    refine inv_mU (C := R_Bytes) (As := [.long 77, .int 1]) (rest := []) (ws' := wl_Log ca ad (s_otherSavepoint (s_otherSavepoint g q1) q18)) X (c_Bytes_add l D ca (ad 9) (ad 10) _ q1 77 1 q18 hq18) g_Log_76 yo_Bytes_add ⟨Nat.le_of_ble_eq_true rfl, Nat.le_of_ble_eq_true rfl⟩ hl hP hD [9, 10] rfl rfl rfl rfl (ci := 1) rfl rfl hS hA rfl rfl (Nat.le_of_ble_eq_true rfl) ⟨Nat.zero_le _, Nat.zero_le _⟩ d_Log_drawSavepoint_35 (fun H locs hP hD hS => ?_)
    refine lv_aload_n hx hb d_Log_drawSavepoint_38 rfl (lv_at hl 4 rfl) ?_
    refine lv_iload hx hb d_Log_drawSavepoint_39 (lv_at hl 0 rfl) ?_
    refine lv_i2l (v := ((q17).toInt64)) hx hb d_Log_drawSavepoint_41 rfl ?_
    refine lv_iconst (v := 1) hx hb d_Log_drawSavepoint_42 (by decide) ?_
    obtain ⟨q19, hq19, hm⟩ := ob hm
    refine inv_mU (C := R_Bytes) (As := [.long ((q17).toInt64), .int 1]) (rest := []) (ws' := wl_Log ca ad (s_otherSavepoint (s_otherSavepoint (s_otherSavepoint g q1) q18) q19)) X (c_Bytes_add l D ca (ad 9) (ad 10) _ q18 ((q17).toInt64) 1 q19 hq19) g_Log_76 yo_Bytes_add ⟨Nat.le_of_ble_eq_true rfl, Nat.le_of_ble_eq_true rfl⟩ hl hP hD [9, 10] rfl rfl rfl rfl (ci := 1) rfl rfl hS hA rfl rfl (Nat.le_of_ble_eq_true rfl) ⟨Nat.zero_le _, Nat.zero_le _⟩ d_Log_drawSavepoint_43 (fun H locs hP hD hS => ?_)
    refine lv_iconst (v := 0) hx hb d_Log_drawSavepoint_46 (by decide) ?_
    refine lv_istore (lv' := [(6, .int 0), (5, .int q17), (4, .int q16), (3, .ref (ad 27)), (0, .ref (ad 0)), (1, .ref (ad 9)), (2, .int p2)]) hx hb d_Log_drawSavepoint_47 hl (by decide) rfl (fun ls hl => ?_)
    exact k_m_Log_drawSavepoint_otherSavepoint_L49a X hA FU (s_otherSavepoint (s_otherSavepoint (s_otherSavepoint g q1) q18) q19) q16 q17 0 _ hm _ _ hP hD hS ls (lv_sub hl [4, 5, 3, 2, 1, 0] rfl)
  replace hm := ineg c15 hm
  refine W.eq (g2 := F0 m 9 ls [.null]) (by rw [tb_Log_tableOf, if_neg c3, if_neg c15]) ?_
  refine lv_astore_nN (lv' := [(3, .null), (0, .ref (ad 0)), (1, .ref (ad 9)), (2, .int p2)]) hx hb d_Log_drawSavepoint_9 rfl hl (by decide) rfl (fun ls hl => ?_)
  refine lv_aload_nN hx hb d_Log_drawSavepoint_10 rfl (lv_at hl 0 rfl) ?_
  refine lv_ifnonnullN hx hb d_Log_drawSavepoint_11 ?_
  cases hm
  exact ret_mv X hP hS d_Log_drawSavepoint_14
set_option maxHeartbeats 4000000 in
set_option maxRecDepth 100000 in
theorem c_Log_equal (l : Launch) (D : va_G) (ca : Nat → ClassId) (ad : Nat → Nat) (sz : Nat) (g : St_Log) (p1 : Int32) (p2 : Int32) (res : Int32 × St_Log) (hm : m_Log_equal g p1 p2 = some res) : Met l y_Log_equal (cws y_Log_equal b_Log_equal 3 (some .int)) (RM 7 165) (PreW D ca (wl_Log ca ad g) [.ref (ad 0), .int p1, .int p2] sz) (QRm D (some (.int res.1)) (wl_Log ca ad res.2) (va_A (wl_Log ca ad g) sz)) 0 0 (va_A (wl_Log ca ad g) sz) := by
  refine met_ofM (own := R_Log) (by decide) rfl (Nat.le_of_ble_eq_true rfl) ?_
  intro p e s m below meth c A X hA hP hD ls hl
  obtain ⟨hx, hb, hml, hr, hown, hts, hK, hlocks⟩ := id X
  have hS : va_S A s.heap s.heap [] := va_S.rf
  have hl : lv_has ls 3 [(0, .ref (ad 0)), (1, .int p1), (2, .int p2)] := hl
  unfold m_Log_equal at hm
  refine lv_aload_n hx hb d_Log_equal_0 rfl (lv_at hl 0 rfl) ?_
  refine va_get (D := D) (ci := 5) (v := .int (g_isOpen g)) (C := R_Log) (T := F_Log) (N := 15) hx hb hts i_Log hown hK hP 0 rfl rfl 14 (by decide) (hts _ wf_Log_69) (fun _ h9 => h9) rfl d_Log_equal_1 ?_
  refine lv_if_ne (tgt := 10) hx hb d_Log_equal_4 (by decide) (fun c1 => ?_) (fun c1 => ?_)
  · replace hm := ineg c1 hm
    refine lv_aload_n hx hb d_Log_equal_10 rfl (lv_at hl 0 rfl) ?_
    refine lv_iload_n hx hb d_Log_equal_11 rfl (lv_at hl 1 rfl) ?_
    obtain ⟨q2, hq2, hm⟩ := ob hm
    refine inv_rVa (C := R_Log) (As := [.int p1]) (rest := []) (v := tb_Log_tableOf ad q2) X (c_Log_tableOf l D ca ad _ g p1 q2 hq2) g_Log_175 yo_Log_tableOf ⟨Nat.le_of_ble_eq_true rfl, Nat.le_of_ble_eq_true rfl⟩ hl hP hD (ci := 5) rfl rfl hS hA rfl rfl (Nat.le_of_ble_eq_true rfl) ⟨Nat.zero_le _, Nat.zero_le _⟩ d_Log_equal_12 (fun H locs hP hS => ?_)
    by_cases c3 : q2 = 1
    · replace hm := ip c3 hm
      refine W.eq (g2 := F0 m 15 ls [.ref (ad 21)]) (by rw [c3]; rfl) ?_
      refine lv_ifnull hx hb d_Log_equal_15 ?_
      refine lv_aload_n hx hb d_Log_equal_18 rfl (lv_at hl 0 rfl) ?_
      refine lv_iload_n hx hb d_Log_equal_19 rfl (lv_at hl 2 rfl) ?_
      obtain ⟨q4, hq4, hm⟩ := ob hm
      refine inv_rVa (C := R_Log) (As := [.int p2]) (rest := []) (v := tb_Log_tableOf ad q4) X (c_Log_tableOf l D ca ad _ g p2 q4 hq4) g_Log_175 yo_Log_tableOf ⟨Nat.le_of_ble_eq_true rfl, Nat.le_of_ble_eq_true rfl⟩ hl hP hD (ci := 5) rfl rfl hS hA rfl rfl (Nat.le_of_ble_eq_true rfl) ⟨Nat.zero_le _, Nat.zero_le _⟩ d_Log_equal_20 (fun H locs hP hS => ?_)
      by_cases c5 : q4 = 1
      · replace hm := ip c5 hm
        refine W.eq (g2 := F0 m 23 ls [.ref (ad 21)]) (by rw [c5]; rfl) ?_
        refine lv_ifnonnull (tgt := 28) hx hb d_Log_equal_23 (by decide) ?_
        refine lv_aload_n hx hb d_Log_equal_28 rfl (lv_at hl 0 rfl) ?_
        refine lv_iload_n hx hb d_Log_equal_29 rfl (lv_at hl 1 rfl) ?_
        obtain ⟨q6, hq6, hm⟩ := ob hm
        refine inv_rVa (C := R_Log) (As := [.int p1]) (rest := []) (v := .int q6) X (c_Log_isMarkWhole l D ca ad _ g p1 q6 hq6) g_Log_179 yo_Log_isMarkWhole ⟨Nat.le_of_ble_eq_true rfl, Nat.le_of_ble_eq_true rfl⟩ hl hP hD (ci := 5) rfl rfl hS hA rfl rfl (Nat.le_of_ble_eq_true rfl) ⟨Nat.zero_le _, Nat.zero_le _⟩ d_Log_equal_30 (fun H locs hP hS => ?_)
        refine lv_if_eq (tgt := 44) hx hb d_Log_equal_33 (by decide) (fun c7 => ?_) (fun c7 => ?_)
        · replace hm := ip c7 hm
          refine lv_bipush (v := (-2)) hx hb d_Log_equal_44 (by decide) ?_
          cases hm
          exact ret_mi X hP hS d_Log_equal_46
        · replace hm := ineg c7 hm
          refine lv_aload_n hx hb d_Log_equal_36 rfl (lv_at hl 0 rfl) ?_
          refine lv_iload_n hx hb d_Log_equal_37 rfl (lv_at hl 2 rfl) ?_
          obtain ⟨q8, hq8, hm⟩ := ob hm
          refine inv_rVa (C := R_Log) (As := [.int p2]) (rest := []) (v := .int q8) X (c_Log_isMarkWhole l D ca ad _ g p2 q8 hq8) g_Log_179 yo_Log_isMarkWhole ⟨Nat.le_of_ble_eq_true rfl, Nat.le_of_ble_eq_true rfl⟩ hl hP hD (ci := 5) rfl rfl hS hA rfl rfl (Nat.le_of_ble_eq_true rfl) ⟨Nat.zero_le _, Nat.zero_le _⟩ d_Log_equal_38 (fun H locs hP hS => ?_)
          refine lv_if_ne (tgt := 47) hx hb d_Log_equal_41 (by decide) (fun c9 => ?_) (fun c9 => ?_)
          · replace hm := ineg c9 hm
            refine lv_aload_n hx hb d_Log_equal_47 rfl (lv_at hl 0 rfl) ?_
            refine lv_aload_n hx hb d_Log_equal_48 rfl (lv_at hl 0 rfl) ?_
            refine va_get (D := D) (ci := 5) (v := .ref (ad 7)) (C := R_Log) (T := F_Log) (N := 15) hx hb hts i_Log hown hK hP 0 rfl rfl 3 (by decide) (hts _ wf_Log_28) (fun _ h9 => h9) rfl d_Log_equal_49 ?_
            refine lv_iload_n hx hb d_Log_equal_52 rfl (lv_at hl 1 rfl) ?_
            obtain ⟨q10, hq10, hm⟩ := ob hm
            refine inv_mUa (C := R_Log) (As := [.ref (ad 7), .int p1]) (rest := []) X (c_Log_drawSavepoint_savepoint l D ca ad _ g p1 q10 hq10) g_Log_235 yo_Log_drawSavepoint ⟨Nat.le_of_ble_eq_true rfl, Nat.le_of_ble_eq_true rfl⟩ hl hP hD rfl (ci := 5) rfl rfl hS hA rfl rfl (Nat.le_of_ble_eq_true rfl) ⟨Nat.zero_le _, Nat.zero_le _⟩ d_Log_equal_53 (fun H locs hP hD hS => ?_)
            refine lv_aload_n hx hb d_Log_equal_56 rfl (lv_at hl 0 rfl) ?_
            refine lv_aload_n hx hb d_Log_equal_57 rfl (lv_at hl 0 rfl) ?_
            refine va_get (D := D) (ci := 5) (v := .ref (ad 9)) (C := R_Log) (T := F_Log) (N := 15) hx hb hts i_Log hown hK hP 0 rfl rfl 4 (by decide) (hts _ wf_Log_31) (fun _ h9 => h9) rfl d_Log_equal_58 ?_
            refine lv_iload_n hx hb d_Log_equal_61 rfl (lv_at hl 2 rfl) ?_
            obtain ⟨q11, hq11, hm⟩ := ob hm
            refine inv_mUa (C := R_Log) (As := [.ref (ad 9), .int p2]) (rest := []) X (c_Log_drawSavepoint_otherSavepoint l D ca ad _ q10 p2 q11 hq11) g_Log_235 yo_Log_drawSavepoint ⟨Nat.le_of_ble_eq_true rfl, Nat.le_of_ble_eq_true rfl⟩ hl hP hD rfl (ci := 5) rfl rfl hS hA rfl rfl (Nat.le_of_ble_eq_true rfl) ⟨Nat.zero_le _, Nat.zero_le _⟩ d_Log_equal_62 (fun H locs hP hD hS => ?_)
            refine lv_aload_n hx hb d_Log_equal_65 rfl (lv_at hl 0 rfl) ?_
            refine va_get (D := D) (ci := 5) (v := .ref (ad 7)) (C := R_Log) (T := F_Log) (N := 15) hx hb hts i_Log hown hK hP 0 rfl rfl 3 (by decide) (hts _ wf_Log_28) (fun _ h9 => h9) rfl d_Log_equal_66 ?_
            refine lv_aload_n hx hb d_Log_equal_69 rfl (lv_at hl 0 rfl) ?_
            refine va_get (D := D) (ci := 5) (v := .ref (ad 9)) (C := R_Log) (T := F_Log) (N := 15) hx hb hts i_Log hown hK hP 0 rfl rfl 4 (by decide) (hts _ wf_Log_31) (fun _ h9 => h9) rfl d_Log_equal_70 ?_
            obtain ⟨q12, hq12, hm⟩ := ob hm
            refine inv_rV (C := R_Bytes) (As := [.ref (ad 9)]) (rest := []) (v := .int q12) X (c_Bytes_isSame l D ca (ad 7) (ad 8) (ad 9) (ad 10) _ (g_savepoint q11) (g_otherSavepoint q11) q12 hq12) g_Log_251 yo_Bytes_isSame ⟨Nat.le_of_ble_eq_true rfl, Nat.le_of_ble_eq_true rfl⟩ hl hP hD [7, 8, 9, 10] rfl rfl (ci := 1) rfl rfl hS hA rfl rfl (Nat.le_of_ble_eq_true rfl) ⟨Nat.zero_le _, Nat.zero_le _⟩ d_Log_equal_73 (fun H locs hP hS => ?_)
            refine lv_if_eq (tgt := 83) hx hb d_Log_equal_76 (by decide) (fun c13 => ?_) (fun c13 => ?_)
            · replace hm := ip c13 hm
              refine lv_iconst (v := 0) hx hb d_Log_equal_83 (by decide) ?_
              cases hm
              exact ret_mi X hP hS d_Log_equal_84
            · replace hm := ineg c13 hm
              refine lv_iconst (v := 1) hx hb d_Log_equal_79 (by decide) ?_
              refine lv_goto (tgt := 84) hx hb d_Log_equal_80 (by decide) ?_
              cases hm
              exact ret_mi X hP hS d_Log_equal_84
          · replace hm := ip c9 hm
            refine lv_bipush (v := (-2)) hx hb d_Log_equal_44 (by decide) ?_
            cases hm
            exact ret_mi X hP hS d_Log_equal_46
      replace hm := ineg c5 hm
      by_cases c14 : q4 = 2
      · replace hm := ip c14 hm
        refine W.eq (g2 := F0 m 23 ls [.ref (ad 27)]) (by rw [c14]; rfl) ?_
        refine lv_ifnonnull (tgt := 28) hx hb d_Log_equal_23 (by decide) ?_
        refine lv_aload_n hx hb d_Log_equal_28 rfl (lv_at hl 0 rfl) ?_
        refine lv_iload_n hx hb d_Log_equal_29 rfl (lv_at hl 1 rfl) ?_
        obtain ⟨q15, hq15, hm⟩ := ob hm
        refine inv_rVa (C := R_Log) (As := [.int p1]) (rest := []) (v := .int q15) X (c_Log_isMarkWhole l D ca ad _ g p1 q15 hq15) g_Log_179 yo_Log_isMarkWhole ⟨Nat.le_of_ble_eq_true rfl, Nat.le_of_ble_eq_true rfl⟩ hl hP hD (ci := 5) rfl rfl hS hA rfl rfl (Nat.le_of_ble_eq_true rfl) ⟨Nat.zero_le _, Nat.zero_le _⟩ d_Log_equal_30 (fun H locs hP hS => ?_)
        refine lv_if_eq (tgt := 44) hx hb d_Log_equal_33 (by decide) (fun c16 => ?_) (fun c16 => ?_)
        · replace hm := ip c16 hm
          refine lv_bipush (v := (-2)) hx hb d_Log_equal_44 (by decide) ?_
          cases hm
          exact ret_mi X hP hS d_Log_equal_46
        · replace hm := ineg c16 hm
          refine lv_aload_n hx hb d_Log_equal_36 rfl (lv_at hl 0 rfl) ?_
          refine lv_iload_n hx hb d_Log_equal_37 rfl (lv_at hl 2 rfl) ?_
          obtain ⟨q17, hq17, hm⟩ := ob hm
          refine inv_rVa (C := R_Log) (As := [.int p2]) (rest := []) (v := .int q17) X (c_Log_isMarkWhole l D ca ad _ g p2 q17 hq17) g_Log_179 yo_Log_isMarkWhole ⟨Nat.le_of_ble_eq_true rfl, Nat.le_of_ble_eq_true rfl⟩ hl hP hD (ci := 5) rfl rfl hS hA rfl rfl (Nat.le_of_ble_eq_true rfl) ⟨Nat.zero_le _, Nat.zero_le _⟩ d_Log_equal_38 (fun H locs hP hS => ?_)
          refine lv_if_ne (tgt := 47) hx hb d_Log_equal_41 (by decide) (fun c18 => ?_) (fun c18 => ?_)
          · replace hm := ineg c18 hm
            refine lv_aload_n hx hb d_Log_equal_47 rfl (lv_at hl 0 rfl) ?_
            refine lv_aload_n hx hb d_Log_equal_48 rfl (lv_at hl 0 rfl) ?_
            refine va_get (D := D) (ci := 5) (v := .ref (ad 7)) (C := R_Log) (T := F_Log) (N := 15) hx hb hts i_Log hown hK hP 0 rfl rfl 3 (by decide) (hts _ wf_Log_28) (fun _ h9 => h9) rfl d_Log_equal_49 ?_
            refine lv_iload_n hx hb d_Log_equal_52 rfl (lv_at hl 1 rfl) ?_
            obtain ⟨q19, hq19, hm⟩ := ob hm
            refine inv_mUa (C := R_Log) (As := [.ref (ad 7), .int p1]) (rest := []) X (c_Log_drawSavepoint_savepoint l D ca ad _ g p1 q19 hq19) g_Log_235 yo_Log_drawSavepoint ⟨Nat.le_of_ble_eq_true rfl, Nat.le_of_ble_eq_true rfl⟩ hl hP hD rfl (ci := 5) rfl rfl hS hA rfl rfl (Nat.le_of_ble_eq_true rfl) ⟨Nat.zero_le _, Nat.zero_le _⟩ d_Log_equal_53 (fun H locs hP hD hS => ?_)
            refine lv_aload_n hx hb d_Log_equal_56 rfl (lv_at hl 0 rfl) ?_
            refine lv_aload_n hx hb d_Log_equal_57 rfl (lv_at hl 0 rfl) ?_
            refine va_get (D := D) (ci := 5) (v := .ref (ad 9)) (C := R_Log) (T := F_Log) (N := 15) hx hb hts i_Log hown hK hP 0 rfl rfl 4 (by decide) (hts _ wf_Log_31) (fun _ h9 => h9) rfl d_Log_equal_58 ?_
            refine lv_iload_n hx hb d_Log_equal_61 rfl (lv_at hl 2 rfl) ?_
            obtain ⟨q20, hq20, hm⟩ := ob hm
            refine inv_mUa (C := R_Log) (As := [.ref (ad 9), .int p2]) (rest := []) X (c_Log_drawSavepoint_otherSavepoint l D ca ad _ q19 p2 q20 hq20) g_Log_235 yo_Log_drawSavepoint ⟨Nat.le_of_ble_eq_true rfl, Nat.le_of_ble_eq_true rfl⟩ hl hP hD rfl (ci := 5) rfl rfl hS hA rfl rfl (Nat.le_of_ble_eq_true rfl) ⟨Nat.zero_le _, Nat.zero_le _⟩ d_Log_equal_62 (fun H locs hP hD hS => ?_)
            refine lv_aload_n hx hb d_Log_equal_65 rfl (lv_at hl 0 rfl) ?_
            refine va_get (D := D) (ci := 5) (v := .ref (ad 7)) (C := R_Log) (T := F_Log) (N := 15) hx hb hts i_Log hown hK hP 0 rfl rfl 3 (by decide) (hts _ wf_Log_28) (fun _ h9 => h9) rfl d_Log_equal_66 ?_
            refine lv_aload_n hx hb d_Log_equal_69 rfl (lv_at hl 0 rfl) ?_
            refine va_get (D := D) (ci := 5) (v := .ref (ad 9)) (C := R_Log) (T := F_Log) (N := 15) hx hb hts i_Log hown hK hP 0 rfl rfl 4 (by decide) (hts _ wf_Log_31) (fun _ h9 => h9) rfl d_Log_equal_70 ?_
            obtain ⟨q21, hq21, hm⟩ := ob hm
            refine inv_rV (C := R_Bytes) (As := [.ref (ad 9)]) (rest := []) (v := .int q21) X (c_Bytes_isSame l D ca (ad 7) (ad 8) (ad 9) (ad 10) _ (g_savepoint q20) (g_otherSavepoint q20) q21 hq21) g_Log_251 yo_Bytes_isSame ⟨Nat.le_of_ble_eq_true rfl, Nat.le_of_ble_eq_true rfl⟩ hl hP hD [7, 8, 9, 10] rfl rfl (ci := 1) rfl rfl hS hA rfl rfl (Nat.le_of_ble_eq_true rfl) ⟨Nat.zero_le _, Nat.zero_le _⟩ d_Log_equal_73 (fun H locs hP hS => ?_)
            refine lv_if_eq (tgt := 83) hx hb d_Log_equal_76 (by decide) (fun c22 => ?_) (fun c22 => ?_)
            · replace hm := ip c22 hm
              refine lv_iconst (v := 0) hx hb d_Log_equal_83 (by decide) ?_
              cases hm
              exact ret_mi X hP hS d_Log_equal_84
            · replace hm := ineg c22 hm
              refine lv_iconst (v := 1) hx hb d_Log_equal_79 (by decide) ?_
              refine lv_goto (tgt := 84) hx hb d_Log_equal_80 (by decide) ?_
              cases hm
              exact ret_mi X hP hS d_Log_equal_84
          · replace hm := ip c18 hm
            refine lv_bipush (v := (-2)) hx hb d_Log_equal_44 (by decide) ?_
            cases hm
            exact ret_mi X hP hS d_Log_equal_46
      replace hm := ineg c14 hm
      refine W.eq (g2 := F0 m 23 ls [.null]) (by rw [tb_Log_tableOf, if_neg c5, if_neg c14]) ?_
      refine lv_ifnonnullN hx hb d_Log_equal_23 ?_
      refine lv_iconst (v := (-1)) hx hb d_Log_equal_26 (by decide) ?_
      cases hm
      exact ret_mi X hP hS d_Log_equal_27
    replace hm := ineg c3 hm
    by_cases c23 : q2 = 2
    · replace hm := ip c23 hm
      refine W.eq (g2 := F0 m 15 ls [.ref (ad 27)]) (by rw [c23]; rfl) ?_
      refine lv_ifnull hx hb d_Log_equal_15 ?_
      refine lv_aload_n hx hb d_Log_equal_18 rfl (lv_at hl 0 rfl) ?_
      refine lv_iload_n hx hb d_Log_equal_19 rfl (lv_at hl 2 rfl) ?_
      obtain ⟨q24, hq24, hm⟩ := ob hm
      refine inv_rVa (C := R_Log) (As := [.int p2]) (rest := []) (v := tb_Log_tableOf ad q24) X (c_Log_tableOf l D ca ad _ g p2 q24 hq24) g_Log_175 yo_Log_tableOf ⟨Nat.le_of_ble_eq_true rfl, Nat.le_of_ble_eq_true rfl⟩ hl hP hD (ci := 5) rfl rfl hS hA rfl rfl (Nat.le_of_ble_eq_true rfl) ⟨Nat.zero_le _, Nat.zero_le _⟩ d_Log_equal_20 (fun H locs hP hS => ?_)
      by_cases c25 : q24 = 1
      · replace hm := ip c25 hm
        refine W.eq (g2 := F0 m 23 ls [.ref (ad 21)]) (by rw [c25]; rfl) ?_
        refine lv_ifnonnull (tgt := 28) hx hb d_Log_equal_23 (by decide) ?_
        refine lv_aload_n hx hb d_Log_equal_28 rfl (lv_at hl 0 rfl) ?_
        refine lv_iload_n hx hb d_Log_equal_29 rfl (lv_at hl 1 rfl) ?_
        obtain ⟨q26, hq26, hm⟩ := ob hm
        refine inv_rVa (C := R_Log) (As := [.int p1]) (rest := []) (v := .int q26) X (c_Log_isMarkWhole l D ca ad _ g p1 q26 hq26) g_Log_179 yo_Log_isMarkWhole ⟨Nat.le_of_ble_eq_true rfl, Nat.le_of_ble_eq_true rfl⟩ hl hP hD (ci := 5) rfl rfl hS hA rfl rfl (Nat.le_of_ble_eq_true rfl) ⟨Nat.zero_le _, Nat.zero_le _⟩ d_Log_equal_30 (fun H locs hP hS => ?_)
        refine lv_if_eq (tgt := 44) hx hb d_Log_equal_33 (by decide) (fun c27 => ?_) (fun c27 => ?_)
        · replace hm := ip c27 hm
          refine lv_bipush (v := (-2)) hx hb d_Log_equal_44 (by decide) ?_
          cases hm
          exact ret_mi X hP hS d_Log_equal_46
        · replace hm := ineg c27 hm
          refine lv_aload_n hx hb d_Log_equal_36 rfl (lv_at hl 0 rfl) ?_
          refine lv_iload_n hx hb d_Log_equal_37 rfl (lv_at hl 2 rfl) ?_
          obtain ⟨q28, hq28, hm⟩ := ob hm
          refine inv_rVa (C := R_Log) (As := [.int p2]) (rest := []) (v := .int q28) X (c_Log_isMarkWhole l D ca ad _ g p2 q28 hq28) g_Log_179 yo_Log_isMarkWhole ⟨Nat.le_of_ble_eq_true rfl, Nat.le_of_ble_eq_true rfl⟩ hl hP hD (ci := 5) rfl rfl hS hA rfl rfl (Nat.le_of_ble_eq_true rfl) ⟨Nat.zero_le _, Nat.zero_le _⟩ d_Log_equal_38 (fun H locs hP hS => ?_)
          refine lv_if_ne (tgt := 47) hx hb d_Log_equal_41 (by decide) (fun c29 => ?_) (fun c29 => ?_)
          · replace hm := ineg c29 hm
            refine lv_aload_n hx hb d_Log_equal_47 rfl (lv_at hl 0 rfl) ?_
            refine lv_aload_n hx hb d_Log_equal_48 rfl (lv_at hl 0 rfl) ?_
            refine va_get (D := D) (ci := 5) (v := .ref (ad 7)) (C := R_Log) (T := F_Log) (N := 15) hx hb hts i_Log hown hK hP 0 rfl rfl 3 (by decide) (hts _ wf_Log_28) (fun _ h9 => h9) rfl d_Log_equal_49 ?_
            refine lv_iload_n hx hb d_Log_equal_52 rfl (lv_at hl 1 rfl) ?_
            obtain ⟨q30, hq30, hm⟩ := ob hm
            refine inv_mUa (C := R_Log) (As := [.ref (ad 7), .int p1]) (rest := []) X (c_Log_drawSavepoint_savepoint l D ca ad _ g p1 q30 hq30) g_Log_235 yo_Log_drawSavepoint ⟨Nat.le_of_ble_eq_true rfl, Nat.le_of_ble_eq_true rfl⟩ hl hP hD rfl (ci := 5) rfl rfl hS hA rfl rfl (Nat.le_of_ble_eq_true rfl) ⟨Nat.zero_le _, Nat.zero_le _⟩ d_Log_equal_53 (fun H locs hP hD hS => ?_)
            refine lv_aload_n hx hb d_Log_equal_56 rfl (lv_at hl 0 rfl) ?_
            refine lv_aload_n hx hb d_Log_equal_57 rfl (lv_at hl 0 rfl) ?_
            refine va_get (D := D) (ci := 5) (v := .ref (ad 9)) (C := R_Log) (T := F_Log) (N := 15) hx hb hts i_Log hown hK hP 0 rfl rfl 4 (by decide) (hts _ wf_Log_31) (fun _ h9 => h9) rfl d_Log_equal_58 ?_
            refine lv_iload_n hx hb d_Log_equal_61 rfl (lv_at hl 2 rfl) ?_
            obtain ⟨q31, hq31, hm⟩ := ob hm
            refine inv_mUa (C := R_Log) (As := [.ref (ad 9), .int p2]) (rest := []) X (c_Log_drawSavepoint_otherSavepoint l D ca ad _ q30 p2 q31 hq31) g_Log_235 yo_Log_drawSavepoint ⟨Nat.le_of_ble_eq_true rfl, Nat.le_of_ble_eq_true rfl⟩ hl hP hD rfl (ci := 5) rfl rfl hS hA rfl rfl (Nat.le_of_ble_eq_true rfl) ⟨Nat.zero_le _, Nat.zero_le _⟩ d_Log_equal_62 (fun H locs hP hD hS => ?_)
            refine lv_aload_n hx hb d_Log_equal_65 rfl (lv_at hl 0 rfl) ?_
            refine va_get (D := D) (ci := 5) (v := .ref (ad 7)) (C := R_Log) (T := F_Log) (N := 15) hx hb hts i_Log hown hK hP 0 rfl rfl 3 (by decide) (hts _ wf_Log_28) (fun _ h9 => h9) rfl d_Log_equal_66 ?_
            refine lv_aload_n hx hb d_Log_equal_69 rfl (lv_at hl 0 rfl) ?_
            refine va_get (D := D) (ci := 5) (v := .ref (ad 9)) (C := R_Log) (T := F_Log) (N := 15) hx hb hts i_Log hown hK hP 0 rfl rfl 4 (by decide) (hts _ wf_Log_31) (fun _ h9 => h9) rfl d_Log_equal_70 ?_
            obtain ⟨q32, hq32, hm⟩ := ob hm
            refine inv_rV (C := R_Bytes) (As := [.ref (ad 9)]) (rest := []) (v := .int q32) X (c_Bytes_isSame l D ca (ad 7) (ad 8) (ad 9) (ad 10) _ (g_savepoint q31) (g_otherSavepoint q31) q32 hq32) g_Log_251 yo_Bytes_isSame ⟨Nat.le_of_ble_eq_true rfl, Nat.le_of_ble_eq_true rfl⟩ hl hP hD [7, 8, 9, 10] rfl rfl (ci := 1) rfl rfl hS hA rfl rfl (Nat.le_of_ble_eq_true rfl) ⟨Nat.zero_le _, Nat.zero_le _⟩ d_Log_equal_73 (fun H locs hP hS => ?_)
            refine lv_if_eq (tgt := 83) hx hb d_Log_equal_76 (by decide) (fun c33 => ?_) (fun c33 => ?_)
            · replace hm := ip c33 hm
              refine lv_iconst (v := 0) hx hb d_Log_equal_83 (by decide) ?_
              cases hm
              exact ret_mi X hP hS d_Log_equal_84
            · replace hm := ineg c33 hm
              refine lv_iconst (v := 1) hx hb d_Log_equal_79 (by decide) ?_
              refine lv_goto (tgt := 84) hx hb d_Log_equal_80 (by decide) ?_
              cases hm
              exact ret_mi X hP hS d_Log_equal_84
          · replace hm := ip c29 hm
            refine lv_bipush (v := (-2)) hx hb d_Log_equal_44 (by decide) ?_
            cases hm
            exact ret_mi X hP hS d_Log_equal_46
      replace hm := ineg c25 hm
      by_cases c34 : q24 = 2
      · replace hm := ip c34 hm
        refine W.eq (g2 := F0 m 23 ls [.ref (ad 27)]) (by rw [c34]; rfl) ?_
        refine lv_ifnonnull (tgt := 28) hx hb d_Log_equal_23 (by decide) ?_
        refine lv_aload_n hx hb d_Log_equal_28 rfl (lv_at hl 0 rfl) ?_
        refine lv_iload_n hx hb d_Log_equal_29 rfl (lv_at hl 1 rfl) ?_
        obtain ⟨q35, hq35, hm⟩ := ob hm
        refine inv_rVa (C := R_Log) (As := [.int p1]) (rest := []) (v := .int q35) X (c_Log_isMarkWhole l D ca ad _ g p1 q35 hq35) g_Log_179 yo_Log_isMarkWhole ⟨Nat.le_of_ble_eq_true rfl, Nat.le_of_ble_eq_true rfl⟩ hl hP hD (ci := 5) rfl rfl hS hA rfl rfl (Nat.le_of_ble_eq_true rfl) ⟨Nat.zero_le _, Nat.zero_le _⟩ d_Log_equal_30 (fun H locs hP hS => ?_)
        refine lv_if_eq (tgt := 44) hx hb d_Log_equal_33 (by decide) (fun c36 => ?_) (fun c36 => ?_)
        · replace hm := ip c36 hm
          refine lv_bipush (v := (-2)) hx hb d_Log_equal_44 (by decide) ?_
          cases hm
          exact ret_mi X hP hS d_Log_equal_46
        · replace hm := ineg c36 hm
          refine lv_aload_n hx hb d_Log_equal_36 rfl (lv_at hl 0 rfl) ?_
          refine lv_iload_n hx hb d_Log_equal_37 rfl (lv_at hl 2 rfl) ?_
          obtain ⟨q37, hq37, hm⟩ := ob hm
          refine inv_rVa (C := R_Log) (As := [.int p2]) (rest := []) (v := .int q37) X (c_Log_isMarkWhole l D ca ad _ g p2 q37 hq37) g_Log_179 yo_Log_isMarkWhole ⟨Nat.le_of_ble_eq_true rfl, Nat.le_of_ble_eq_true rfl⟩ hl hP hD (ci := 5) rfl rfl hS hA rfl rfl (Nat.le_of_ble_eq_true rfl) ⟨Nat.zero_le _, Nat.zero_le _⟩ d_Log_equal_38 (fun H locs hP hS => ?_)
          refine lv_if_ne (tgt := 47) hx hb d_Log_equal_41 (by decide) (fun c38 => ?_) (fun c38 => ?_)
          · replace hm := ineg c38 hm
            refine lv_aload_n hx hb d_Log_equal_47 rfl (lv_at hl 0 rfl) ?_
            refine lv_aload_n hx hb d_Log_equal_48 rfl (lv_at hl 0 rfl) ?_
            refine va_get (D := D) (ci := 5) (v := .ref (ad 7)) (C := R_Log) (T := F_Log) (N := 15) hx hb hts i_Log hown hK hP 0 rfl rfl 3 (by decide) (hts _ wf_Log_28) (fun _ h9 => h9) rfl d_Log_equal_49 ?_
            refine lv_iload_n hx hb d_Log_equal_52 rfl (lv_at hl 1 rfl) ?_
            obtain ⟨q39, hq39, hm⟩ := ob hm
            refine inv_mUa (C := R_Log) (As := [.ref (ad 7), .int p1]) (rest := []) X (c_Log_drawSavepoint_savepoint l D ca ad _ g p1 q39 hq39) g_Log_235 yo_Log_drawSavepoint ⟨Nat.le_of_ble_eq_true rfl, Nat.le_of_ble_eq_true rfl⟩ hl hP hD rfl (ci := 5) rfl rfl hS hA rfl rfl (Nat.le_of_ble_eq_true rfl) ⟨Nat.zero_le _, Nat.zero_le _⟩ d_Log_equal_53 (fun H locs hP hD hS => ?_)
            refine lv_aload_n hx hb d_Log_equal_56 rfl (lv_at hl 0 rfl) ?_
            refine lv_aload_n hx hb d_Log_equal_57 rfl (lv_at hl 0 rfl) ?_
            refine va_get (D := D) (ci := 5) (v := .ref (ad 9)) (C := R_Log) (T := F_Log) (N := 15) hx hb hts i_Log hown hK hP 0 rfl rfl 4 (by decide) (hts _ wf_Log_31) (fun _ h9 => h9) rfl d_Log_equal_58 ?_
            refine lv_iload_n hx hb d_Log_equal_61 rfl (lv_at hl 2 rfl) ?_
            obtain ⟨q40, hq40, hm⟩ := ob hm
            refine inv_mUa (C := R_Log) (As := [.ref (ad 9), .int p2]) (rest := []) X (c_Log_drawSavepoint_otherSavepoint l D ca ad _ q39 p2 q40 hq40) g_Log_235 yo_Log_drawSavepoint ⟨Nat.le_of_ble_eq_true rfl, Nat.le_of_ble_eq_true rfl⟩ hl hP hD rfl (ci := 5) rfl rfl hS hA rfl rfl (Nat.le_of_ble_eq_true rfl) ⟨Nat.zero_le _, Nat.zero_le _⟩ d_Log_equal_62 (fun H locs hP hD hS => ?_)
            refine lv_aload_n hx hb d_Log_equal_65 rfl (lv_at hl 0 rfl) ?_
            refine va_get (D := D) (ci := 5) (v := .ref (ad 7)) (C := R_Log) (T := F_Log) (N := 15) hx hb hts i_Log hown hK hP 0 rfl rfl 3 (by decide) (hts _ wf_Log_28) (fun _ h9 => h9) rfl d_Log_equal_66 ?_
            refine lv_aload_n hx hb d_Log_equal_69 rfl (lv_at hl 0 rfl) ?_
            refine va_get (D := D) (ci := 5) (v := .ref (ad 9)) (C := R_Log) (T := F_Log) (N := 15) hx hb hts i_Log hown hK hP 0 rfl rfl 4 (by decide) (hts _ wf_Log_31) (fun _ h9 => h9) rfl d_Log_equal_70 ?_
            obtain ⟨q41, hq41, hm⟩ := ob hm
            refine inv_rV (C := R_Bytes) (As := [.ref (ad 9)]) (rest := []) (v := .int q41) X (c_Bytes_isSame l D ca (ad 7) (ad 8) (ad 9) (ad 10) _ (g_savepoint q40) (g_otherSavepoint q40) q41 hq41) g_Log_251 yo_Bytes_isSame ⟨Nat.le_of_ble_eq_true rfl, Nat.le_of_ble_eq_true rfl⟩ hl hP hD [7, 8, 9, 10] rfl rfl (ci := 1) rfl rfl hS hA rfl rfl (Nat.le_of_ble_eq_true rfl) ⟨Nat.zero_le _, Nat.zero_le _⟩ d_Log_equal_73 (fun H locs hP hS => ?_)
            refine lv_if_eq (tgt := 83) hx hb d_Log_equal_76 (by decide) (fun c42 => ?_) (fun c42 => ?_)
            · replace hm := ip c42 hm
              refine lv_iconst (v := 0) hx hb d_Log_equal_83 (by decide) ?_
              cases hm
              exact ret_mi X hP hS d_Log_equal_84
            · replace hm := ineg c42 hm
              refine lv_iconst (v := 1) hx hb d_Log_equal_79 (by decide) ?_
              refine lv_goto (tgt := 84) hx hb d_Log_equal_80 (by decide) ?_
              cases hm
              exact ret_mi X hP hS d_Log_equal_84
          · replace hm := ip c38 hm
            refine lv_bipush (v := (-2)) hx hb d_Log_equal_44 (by decide) ?_
            cases hm
            exact ret_mi X hP hS d_Log_equal_46
      replace hm := ineg c34 hm
      refine W.eq (g2 := F0 m 23 ls [.null]) (by rw [tb_Log_tableOf, if_neg c25, if_neg c34]) ?_
      refine lv_ifnonnullN hx hb d_Log_equal_23 ?_
      refine lv_iconst (v := (-1)) hx hb d_Log_equal_26 (by decide) ?_
      cases hm
      exact ret_mi X hP hS d_Log_equal_27
    replace hm := ineg c23 hm
    refine W.eq (g2 := F0 m 15 ls [.null]) (by rw [tb_Log_tableOf, if_neg c3, if_neg c23]) ?_
    refine lv_ifnullN (tgt := 26) hx hb d_Log_equal_15 (by decide) ?_
    refine lv_iconst (v := (-1)) hx hb d_Log_equal_26 (by decide) ?_
    cases hm
    exact ret_mi X hP hS d_Log_equal_27
  · replace hm := ip c1 hm
    refine lv_bipush (v := (-3)) hx hb d_Log_equal_7 (by decide) ?_
    cases hm
    exact ret_mi X hP hS d_Log_equal_9
