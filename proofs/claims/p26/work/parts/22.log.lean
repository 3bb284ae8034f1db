set_option maxHeartbeats 4000000 in
set_option maxRecDepth 100000 in
theorem c_Log_learnPart (l : Launch) (D : va_G) (ca : Nat → ClassId) (ad : Nat → Nat) (sz : Nat) (g : St_Log) (p1 : Int32) (res : Int32 × St_Log) (hm : m_Log_learnPart g p1 = some res) : Met l y_Log_learnPart (cws y_Log_learnPart b_Log_learnPart 4 (some .int)) (RM 3 71) (PreW D ca (wl_Log ca ad g) [.ref (ad 0), .int p1] sz) (QRm D (some (.int res.1)) (wl_Log ca ad res.2) (va_A (wl_Log ca ad g) sz)) 0 0 (va_A (wl_Log ca ad g) sz) := by
  refine met_ofM (own := R_Log) (by decide) rfl (Nat.le_of_ble_eq_true rfl) ?_
  intro p e s m below meth c A X hA hP hD ls hl
  obtain ⟨hx, hb, hml, hr, hown, hts, hK, hlocks⟩ := id X
  have hS : va_S A s.heap s.heap [] := va_S.rf
  have hl : lv_has ls 4 [(0, .ref (ad 0)), (1, .int p1)] := hl
  unfold m_Log_learnPart at hm
  refine lv_aload_n hx hb d_Log_learnPart_0 rfl (lv_at hl 0 rfl) ?_
  refine va_get (D := D) (ci := 5) (v := .ref (ad 1)) (C := R_Log) (T := F_Log) (N := 15) hx hb hts i_Log hown hK hP 0 rfl rfl 0 (by decide) (hts _ wf_Log_14) (fun _ h9 => h9) rfl d_Log_learnPart_1 ?_
  refine lv_iload_n hx hb d_Log_learnPart_4 rfl (lv_at hl 1 rfl) ?_
  refine lv_iconst (v := 4) hx hb d_Log_learnPart_5 (by decide) ?_
  refine lv_iconst (v := 4) hx hb d_Log_learnPart_6 (by decide) ?_
  obtain ⟨q1, hq1, hm⟩ := ob hm
  refine inv_rV (C := R_Medium) (As := [.int p1, .int 4, .int 4]) (rest := []) (v := .long q1) X (c_Medium_number l D ca (ad 1) (ad 2) _ (g_medium g) p1 4 4 q1 hq1) g_Log_311 yo_Medium_number ⟨Nat.le_of_ble_eq_true rfl, Nat.le_of_ble_eq_true rfl⟩ hl hP hD [1, 2] rfl rfl (ci := 0) rfl rfl hS hA rfl rfl (Nat.le_of_ble_eq_true rfl) ⟨Nat.zero_le _, Nat.zero_le _⟩ d_Log_learnPart_7 (fun H locs hP hS => ?_)
  refine lv_l2i (v := ((q1).toInt32)) hx hb d_Log_learnPart_10 rfl ?_
  refine lv_istore_n (lv' := [(2, .int ((q1).toInt32)), (0, .ref (ad 0)), (1, .int p1)]) hx hb d_Log_learnPart_11 rfl hl (by decide) rfl (fun ls hl => ?_)
  refine lv_aload_n hx hb d_Log_learnPart_12 rfl (lv_at hl 1 rfl) ?_
  refine va_get (D := D) (ci := 5) (v := .ref (ad 1)) (C := R_Log) (T := F_Log) (N := 15) hx hb hts i_Log hown hK hP 0 rfl rfl 0 (by decide) (hts _ wf_Log_14) (fun _ h9 => h9) rfl d_Log_learnPart_13 ?_
  refine lv_iload_n hx hb d_Log_learnPart_16 rfl (lv_at hl 2 rfl) ?_
  refine lv_iconst (v := 2) hx hb d_Log_learnPart_17 (by decide) ?_
  refine lv_iconst (v := 2) hx hb d_Log_learnPart_18 (by decide) ?_
  obtain ⟨q2, hq2, hm⟩ := ob hm
  refine inv_rV (C := R_Medium) (As := [.int p1, .int 2, .int 2]) (rest := []) (v := .long q2) X (c_Medium_number l D ca (ad 1) (ad 2) _ (g_medium g) p1 2 2 q2 hq2) g_Log_311 yo_Medium_number ⟨Nat.le_of_ble_eq_true rfl, Nat.le_of_ble_eq_true rfl⟩ hl hP hD [1, 2] rfl rfl (ci := 0) rfl rfl hS hA rfl rfl (Nat.le_of_ble_eq_true rfl) ⟨Nat.zero_le _, Nat.zero_le _⟩ d_Log_learnPart_19 (fun H locs hP hS => ?_)
  refine lv_l2i (v := ((q2).toInt32)) hx hb d_Log_learnPart_22 rfl ?_
  refine lv_istore_n (lv' := [(3, .int ((q2).toInt32)), (2, .int ((q1).toInt32)), (0, .ref (ad 0)), (1, .int p1)]) hx hb d_Log_learnPart_23 rfl hl (by decide) rfl (fun ls hl => ?_)
  refine lv_aload_n hx hb d_Log_learnPart_24 rfl (lv_at hl 2 rfl) ?_
  refine va_get (D := D) (ci := 5) (v := .ref (ad 15)) (C := R_Log) (T := F_Log) (N := 15) hx hb hts i_Log hown hK hP 0 rfl rfl 7 (by decide) (hts _ wf_Log_51) (fun _ h9 => h9) rfl d_Log_learnPart_25 ?_
  refine lv_iload_n hx hb d_Log_learnPart_28 rfl (lv_at hl 1 rfl) ?_
  obtain ⟨q3, hq3, hm⟩ := ob hm
  refine inv_rV (C := R_Parts) (As := [.int ((q1).toInt32)]) (rest := []) (v := .int q3) X (c_Parts_find l D ca (ad 15) (ad 16) (ad 17) (ad 18) (ad 19) (ad 20) _ (g_parts g) ((q1).toInt32) q3 hq3) g_Log_186 yo_Parts_find ⟨Nat.le_of_ble_eq_true rfl, Nat.le_of_ble_eq_true rfl⟩ hl hP hD [15, 16, 17, 18, 19, 20] rfl rfl (ci := 3) rfl rfl hS hA rfl rfl (Nat.le_of_ble_eq_true rfl) ⟨Nat.zero_le _, Nat.zero_le _⟩ d_Log_learnPart_29 (fun H locs hP hS => ?_)
  refine lv_iconst (v := (-1)) hx hb d_Log_learnPart_32 (by decide) ?_
  refine lv_icmp_ne (tgt := 91) hx hb d_Log_learnPart_33 (by decide) (fun c4 => ?_) (fun c4 => ?_)
  · replace hm := ineg c4 hm
    refine lv_iload_n hx hb d_Log_learnPart_91 rfl (lv_at hl 0 rfl) ?_
    obtain ⟨q5, hq5, hm⟩ := ob hm
    refine inv_rS (As := [.int ((q2).toInt32)]) (rest := []) (v := .int q5) X (c_Log_rowsOfPart l D ca  _ ((q2).toInt32) q5 hq5) g_Log_270 yo_Log_rowsOfPart ⟨Nat.le_of_ble_eq_true rfl, Nat.le_of_ble_eq_true rfl⟩ hl hP hD [] rfl rfl hS hA rfl rfl (Nat.le_of_ble_eq_true rfl) ⟨Nat.zero_le _, Nat.zero_le _⟩ d_Log_learnPart_92 (fun H locs hP hS => ?_)
    cases hm
    exact ret_mi X hP hS d_Log_learnPart_95
  · replace hm := ip c4 hm
    refine lv_aload_n hx hb d_Log_learnPart_36 rfl (lv_at hl 2 rfl) ?_
    refine va_get (D := D) (ci := 5) (v := .ref (ad 15)) (C := R_Log) (T := F_Log) (N := 15) hx hb hts i_Log hown hK hP 0 rfl rfl 7 (by decide) (hts _ wf_Log_51) (fun _ h9 => h9) rfl d_Log_learnPart_37 ?_
    refine lv_iload_n hx hb d_Log_learnPart_40 rfl (lv_at hl 1 rfl) ?_
    refine lv_aload_n hx hb d_Log_learnPart_41 rfl (lv_at hl 2 rfl) ?_
    refine va_get (D := D) (ci := 5) (v := .ref (ad 1)) (C := R_Log) (T := F_Log) (N := 15) hx hb hts i_Log hown hK hP 0 rfl rfl 0 (by decide) (hts _ wf_Log_14) (fun _ h9 => h9) rfl d_Log_learnPart_42 ?_
    refine lv_iload_n hx hb d_Log_learnPart_45 rfl (lv_at hl 3 rfl) ?_
    refine lv_iconst (v := 1) hx hb d_Log_learnPart_46 (by decide) ?_
    obtain ⟨q6, hq6, hm⟩ := ob hm
    refine inv_rV (C := R_Medium) (As := [.int p1, .int 1]) (rest := [.int ((q1).toInt32), .ref (ad 15)]) (v := .int q6) X (c_Medium_at l D ca (ad 1) (ad 2) _ (g_medium g) p1 1 q6 hq6) g_Log_226 yo_Medium_at ⟨Nat.le_of_ble_eq_true rfl, Nat.le_of_ble_eq_true rfl⟩ hl hP hD [1, 2] rfl rfl (ci := 0) rfl rfl hS hA rfl rfl (Nat.le_of_ble_eq_true rfl) ⟨Nat.zero_le _, Nat.zero_le _⟩ d_Log_learnPart_47 (fun H locs hP hS => ?_)
    refine lv_iload_n hx hb d_Log_learnPart_50 rfl (lv_at hl 0 rfl) ?_
    refine lv_iload_n hx hb d_Log_learnPart_51 rfl (lv_at hl 3 rfl) ?_
    refine lv_aload_n hx hb d_Log_learnPart_52 rfl (lv_at hl 2 rfl) ?_
    refine va_get (D := D) (ci := 5) (v := .ref (ad 1)) (C := R_Log) (T := F_Log) (N := 15) hx hb hts i_Log hown hK hP 0 rfl rfl 0 (by decide) (hts _ wf_Log_14) (fun _ h9 => h9) rfl d_Log_learnPart_53 ?_
    refine lv_iload_n hx hb d_Log_learnPart_56 rfl (lv_at hl 3 rfl) ?_
    refine lv_bipush (v := 8) hx hb d_Log_learnPart_57 (by decide) ?_
    refine lv_bipush (v := 8) hx hb d_Log_learnPart_59 (by decide) ?_
    obtain ⟨q7, hq7, hm⟩ := ob hm
    refine inv_rV (C := R_Medium) (As := [.int p1, .int 8, .int 8]) (rest := [.int p1, .int ((q2).toInt32), .int q6, .int ((q1).toInt32), .ref (ad 15)]) (v := .long q7) X (c_Medium_number l D ca (ad 1) (ad 2) _ (g_medium g) p1 8 8 q7 hq7) g_Log_311 yo_Medium_number ⟨Nat.le_of_ble_eq_true rfl, Nat.le_of_ble_eq_true rfl⟩ hl hP hD [1, 2] rfl rfl (ci := 0) rfl rfl hS hA rfl rfl (Nat.le_of_ble_eq_true rfl) ⟨Nat.zero_le _, Nat.zero_le _⟩ d_Log_learnPart_61 (fun H locs hP hS => ?_)
    obtain ⟨q8, hq8, hm⟩ := ob hm
    refine inv_mU (C := R_Parts) (As := [.int ((q1).toInt32), .int q6, .int ((q2).toInt32), .int p1, .long q7]) (rest := []) (ws' := wl_Log ca ad (s_parts g q8)) X (c_Parts_add l D ca (ad 15) (ad 16) (ad 17) (ad 18) (ad 19) (ad 20) _ (g_parts g) ((q1).toInt32) q6 ((q2).toInt32) p1 q7 q8 hq8) g_Log_281 yo_Parts_add ⟨Nat.le_of_ble_eq_true rfl, Nat.le_of_ble_eq_true rfl⟩ hl hP hD [15, 16, 17, 18, 19, 20] rfl rfl rfl rfl (ci := 3) rfl rfl hS hA rfl rfl (Nat.le_of_ble_eq_true rfl) ⟨Nat.zero_le _, Nat.zero_le _⟩ d_Log_learnPart_64 (fun H locs hP hD hS => ?_)
    refine lv_aload_n hx hb d_Log_learnPart_67 rfl (lv_at hl 2 rfl) ?_
    refine va_get (D := D) (ci := 5) (v := .ref (ad 11)) (C := R_Log) (T := F_Log) (N := 15) hx hb hts i_Log hown hK hP 0 rfl rfl 5 (by decide) (hts _ wf_Log_41) (fun _ h9 => h9) rfl d_Log_learnPart_68 ?_
    refine lv_iload_n hx hb d_Log_learnPart_71 rfl (lv_at hl 3 rfl) ?_
    refine lv_iload_n hx hb d_Log_learnPart_72 rfl (lv_at hl 0 rfl) ?_
    obtain ⟨q9, hq9, hm⟩ := ob hm
    refine inv_rS (As := [.int ((q2).toInt32)]) (rest := [.int p1, .ref (ad 11)]) (v := .int q9) X (c_Log_rowsOfPart l D ca  _ ((q2).toInt32) q9 hq9) g_Log_270 yo_Log_rowsOfPart ⟨Nat.le_of_ble_eq_true rfl, Nat.le_of_ble_eq_true rfl⟩ hl hP hD [] rfl rfl hS hA rfl rfl (Nat.le_of_ble_eq_true rfl) ⟨Nat.zero_le _, Nat.zero_le _⟩ d_Log_learnPart_73 (fun H locs hP hS => ?_)
    obtain ⟨q10, hq10, hm⟩ := ob hm
    refine inv_mU (C := R_Room) (As := [.int p1, .int q9]) (rest := []) (ws' := wl_Log ca ad (s_room (s_parts g q8) q10)) X (c_Room_take l D ca (ad 11) (ad 12) _ (g_room g) p1 q9 q10 hq10) g_Log_321 yo_Room_take ⟨Nat.le_of_ble_eq_true rfl, Nat.le_of_ble_eq_true rfl⟩ hl hP hD [11, 12] rfl rfl rfl rfl (ci := 2) rfl rfl hS hA rfl rfl (Nat.le_of_ble_eq_true rfl) ⟨Nat.zero_le _, Nat.zero_le _⟩ d_Log_learnPart_76 (fun H locs hP hD hS => ?_)
    refine lv_aload_n hx hb d_Log_learnPart_79 rfl (lv_at hl 2 rfl) ?_
    refine lv_aload_n hx hb d_Log_learnPart_80 rfl (lv_at hl 2 rfl) ?_
    refine va_get (D := D) (ci := 5) (v := .int (g_greatestPart g)) (C := R_Log) (T := F_Log) (N := 15) hx hb hts i_Log hown hK hP 0 rfl rfl 12 (by decide) (hts _ wf_Log_268) (fun _ h9 => h9) rfl d_Log_learnPart_81 ?_
    refine lv_iload_n hx hb d_Log_learnPart_84 rfl (lv_at hl 1 rfl) ?_
    refine va_mmax hx hb (hml.trans hl.1.symm) hown (hts _ wm_Log_164) (hts _ w_max_static) (hts _ w_math_init) (hts _ w_max_code) (Nat.le_of_ble_eq_true rfl) (Nat.le_of_ble_eq_true rfl) (Nat.zero_le _) (Nat.zero_le _) d_Log_learnPart_85 ?_
    refine va_put (D := D) (ci := 5) (v := .int (jmax (g_greatestPart g) ((q1).toInt32))) (ty := .int) (C := R_Log) (T := F_Log) (N := 15) hx hb hts i_Log t_Log t_Log_ok n_Log hown hK hP hD hS 0 rfl rfl 12 (by decide) (hts _ wf_Log_268) (fun _ h9 => h9) rfl (by decide +kernel) rfl rfl (Nat.le_of_ble_eq_true rfl) d_Log_learnPart_88 (fun H locs hP hD hS => ?_)
    replace hP : va_P D classes (wl_Log ca ad (s_greatestPart (s_room (s_parts g q8) q10) (jmax (g_greatestPart g) ((q1).toInt32)))) H := hP
    replace hD : va_D A (wl_Log ca ad (s_greatestPart (s_room (s_parts g q8) q10) (jmax (g_greatestPart g) ((q1).toInt32)))) := hD
    refine lv_iload_n hx hb d_Log_learnPart_91 rfl (lv_at hl 0 rfl) ?_
    obtain ⟨q11, hq11, hm⟩ := ob hm
    refine inv_rS (As := [.int ((q2).toInt32)]) (rest := []) (v := .int q11) X (c_Log_rowsOfPart l D ca  _ ((q2).toInt32) q11 hq11) g_Log_270 yo_Log_rowsOfPart ⟨Nat.le_of_ble_eq_true rfl, Nat.le_of_ble_eq_true rfl⟩ hl hP hD [] rfl rfl hS hA rfl rfl (Nat.le_of_ble_eq_true rfl) ⟨Nat.zero_le _, Nat.zero_le _⟩ d_Log_learnPart_92 (fun H locs hP hS => ?_)
    cases hm
    exact ret_mi X hP hS d_Log_learnPart_95
set_option maxHeartbeats 4000000 in
set_option maxRecDepth 100000 in
theorem c_Log_learnRow (l : Launch) (D : va_G) (ca : Nat → ClassId) (ad : Nat → Nat) (sz : Nat) (g : St_Log) (p1 : Int32) (res : Int32 × St_Log) (hm : m_Log_learnRow g p1 = some res) : Met l y_Log_learnRow (cws y_Log_learnRow b_Log_learnRow 2 (some .int)) (RM 5 119) (PreW D ca (wl_Log ca ad g) [.ref (ad 0), .int p1] sz) (QRm D (some (.int res.1)) (wl_Log ca ad res.2) (va_A (wl_Log ca ad g) sz)) 0 0 (va_A (wl_Log ca ad g) sz) := by
  refine met_ofM (own := R_Log) (by decide) rfl (Nat.le_of_ble_eq_true rfl) ?_
  intro p e s m below meth c A X hA hP hD ls hl
  obtain ⟨hx, hb, hml, hr, hown, hts, hK, hlocks⟩ := id X
  have hS : va_S A s.heap s.heap [] := va_S.rf
  have hl : lv_has ls 2 [(0, .ref (ad 0)), (1, .int p1)] := hl
  unfold m_Log_learnRow at hm
  refine lv_aload_n hx hb d_Log_learnRow_0 rfl (lv_at hl 0 rfl) ?_
  refine lv_iload_n hx hb d_Log_learnRow_1 rfl (lv_at hl 1 rfl) ?_
  obtain ⟨q1, hq1, hm⟩ := ob hm
  refine inv_rVa (C := R_Log) (As := [.int p1]) (rest := []) (v := .int q1) X (c_Log_isPartThere l D ca ad _ g p1 q1 hq1) g_Log_353 yo_Log_isPartThere ⟨Nat.le_of_ble_eq_true rfl, Nat.le_of_ble_eq_true rfl⟩ hl hP hD (ci := 5) rfl rfl hS hA rfl rfl (Nat.le_of_ble_eq_true rfl) ⟨Nat.zero_le _, Nat.zero_le _⟩ d_Log_learnRow_2 (fun H locs hP hS => ?_)
  refine lv_if_eq (tgt := 14) hx hb d_Log_learnRow_5 (by decide) (fun c2 => ?_) (fun c2 => ?_)
  · replace hm := ip c2 hm
    refine lv_aload_n hx hb d_Log_learnRow_14 rfl (lv_at hl 0 rfl) ?_
    refine lv_iload_n hx hb d_Log_learnRow_15 rfl (lv_at hl 1 rfl) ?_
    obtain ⟨q3, hq3, hm⟩ := ob hm
    refine inv_rVa (C := R_Log) (As := [.int p1]) (rest := []) (v := .int q3) X (c_Log_isMarkThere l D ca ad _ g p1 q3 hq3) g_Log_359 yo_Log_isMarkThere ⟨Nat.le_of_ble_eq_true rfl, Nat.le_of_ble_eq_true rfl⟩ hl hP hD (ci := 5) rfl rfl hS hA rfl rfl (Nat.le_of_ble_eq_true rfl) ⟨Nat.zero_le _, Nat.zero_le _⟩ d_Log_learnRow_16 (fun H locs hP hS => ?_)
    refine lv_if_eq (tgt := 28) hx hb d_Log_learnRow_19 (by decide) (fun c4 => ?_) (fun c4 => ?_)
    · replace hm := ip c4 hm
      refine lv_iconst (v := 1) hx hb d_Log_learnRow_28 (by decide) ?_
      cases hm
      exact ret_mi X hP hS d_Log_learnRow_29
    · replace hm := ineg c4 hm
      refine lv_aload_n hx hb d_Log_learnRow_22 rfl (lv_at hl 0 rfl) ?_
      refine lv_iload_n hx hb d_Log_learnRow_23 rfl (lv_at hl 1 rfl) ?_
      obtain ⟨q5, hq5, hm⟩ := ob hm
      refine inv_mVa (C := R_Log) (As := [.int p1]) (rest := []) (v := .int q5.1) X (c_Log_learnMark l D ca ad _ g p1 q5 hq5) g_Log_362 yo_Log_learnMark ⟨Nat.le_of_ble_eq_true rfl, Nat.le_of_ble_eq_true rfl⟩ hl hP hD rfl (ci := 5) rfl rfl hS hA rfl rfl (Nat.le_of_ble_eq_true rfl) ⟨Nat.zero_le _, Nat.zero_le _⟩ d_Log_learnRow_24 (fun H locs hP hD hS => ?_)
      cases hm
      exact ret_mi X hP hS d_Log_learnRow_27
  · replace hm := ineg c2 hm
    refine lv_aload_n hx hb d_Log_learnRow_8 rfl (lv_at hl 0 rfl) ?_
    refine lv_iload_n hx hb d_Log_learnRow_9 rfl (lv_at hl 1 rfl) ?_
    obtain ⟨q6, hq6, hm⟩ := ob hm
    refine inv_mVa (C := R_Log) (As := [.int p1]) (rest := []) (v := .int q6.1) X (c_Log_learnPart l D ca ad _ g p1 q6 hq6) g_Log_356 yo_Log_learnPart ⟨Nat.le_of_ble_eq_true rfl, Nat.le_of_ble_eq_true rfl⟩ hl hP hD rfl (ci := 5) rfl rfl hS hA rfl rfl (Nat.le_of_ble_eq_true rfl) ⟨Nat.zero_le _, Nat.zero_le _⟩ d_Log_learnRow_10 (fun H locs hP hD hS => ?_)
    cases hm
    exact ret_mi X hP hS d_Log_learnRow_13
set_option maxHeartbeats 4000000 in
set_option maxRecDepth 100000 in
theorem k_m_Log_open__L12 {p : Program} {l : Launch} {e : Env} {s : State} {m : MethodId} {args : Array Value} {below : List Frame} {meth : Method} {c : Code} {D : va_G} {ca : Nat → ClassId} {ad : Nat → Nat} {A : Nat → Prop} (X : Cx p s m args meth c R_Log b_Log_open_ 3 (some .int) D ca) (hA : ∀ q, s.heap.size ≤ q → A q)  : ∀ (n : Nat) (g : St_Log) (v2 : Int32) (res : Int32 × St_Log), m_Log_open__L12  n g v2 = some res → ∀ (H : Heap) (locs : List Loc), va_P D classes (wl_Log ca ad g) H → va_D A (wl_Log ca ad g) → va_S A s.heap H locs → ∀ ls : Array Slot, lv_has ls 3 [(0, .ref (ad 0)), (2, .int v2)] → W p l e (RM 7 157) s m args below meth c H locs 0 0 (MQ below (QRm D (some (.int res.1)) (wl_Log ca ad res.2) A) args s 0 0 A) (F0 m 12 ls []) := by
  obtain ⟨hx, hb, hml, hr, hown, hts, hK, hlocks⟩ := id X
  intro n
  induction n with
  | zero =>
    intro g v2 res hm
    rw [m_Log_open__L12] at hm
    cases hm
  | succ n ih =>
    intro g v2 res hm H locs hP hD hS ls hl
    rw [m_Log_open__L12] at hm
    refine lv_iload_n hx hb d_Log_open__12 rfl (lv_at hl 1 rfl) ?_
    refine lv_aload_n hx hb d_Log_open__13 rfl (lv_at hl 0 rfl) ?_
    refine va_get (D := D) (ci := 5) (v := .ref (ad 1)) (C := R_Log) (T := F_Log) (N := 15) hx hb hts i_Log hown hK hP 0 rfl rfl 0 (by decide) (hts _ wf_Log_14) (fun _ h9 => h9) rfl d_Log_open__14 ?_
    obtain ⟨q3, hq3, hm⟩ := ob hm
    refine inv_rV (C := R_Medium) (As := []) (rest := [.int v2]) (v := .int q3) X (c_Medium_rows l D ca (ad 1) (ad 2) _ (g_medium g) q3 hq3) g_Log_36 yo_Medium_rows ⟨Nat.le_of_ble_eq_true rfl, Nat.le_of_ble_eq_true rfl⟩ hl hP hD [1, 2] rfl rfl (ci := 0) rfl rfl hS hA rfl rfl (Nat.le_of_ble_eq_true rfl) ⟨Nat.zero_le _, Nat.zero_le _⟩ d_Log_open__17 (fun H locs hP hS => ?_)
    refine lv_icmp_ge (tgt := 40) hx hb d_Log_open__20 (by decide) (fun c4 => ?_) (fun c4 => ?_)
    · replace hm := ip c4 hm
      refine lv_aload_n hx hb d_Log_open__40 rfl (lv_at hl 0 rfl) ?_
      refine lv_iconst (v := 1) hx hb d_Log_open__41 (by decide) ?_
      refine va_put (D := D) (ci := 5) (v := .int 1) (ty := .boolean) (C := R_Log) (T := F_Log) (N := 15) hx hb hts i_Log t_Log t_Log_ok n_Log hown hK hP hD hS 0 rfl rfl 14 (by decide) (hts _ wf_Log_69) (fun _ h9 => h9) rfl (by decide +kernel) rfl rfl (Nat.le_of_ble_eq_true rfl) d_Log_open__42 (fun H locs hP hD hS => ?_)
      replace hP : va_P D classes (wl_Log ca ad (s_isOpen g 1)) H := hP
      replace hD : va_D A (wl_Log ca ad (s_isOpen g 1)) := hD
      refine lv_aload_n hx hb d_Log_open__45 rfl (lv_at hl 0 rfl) ?_
      refine va_get (D := D) (ci := 5) (v := .ref (ad 21)) (C := R_Log) (T := F_Log) (N := 15) hx hb hts i_Log hown hK hP 0 rfl rfl 8 (by decide) (hts _ wf_Log_58) (fun _ h9 => h9) rfl d_Log_open__46 ?_
      obtain ⟨q5, hq5, hm⟩ := ob hm
      refine inv_rV (C := R_Marks) (As := []) (rest := []) (v := .int q5) X (c_Marks_size l D ca (ad 21) (ad 22) (ad 23) (ad 24) (ad 25) (ad 26) _ (g_kept g) q5 hq5) g_Log_88 yo_Marks_size ⟨Nat.le_of_ble_eq_true rfl, Nat.le_of_ble_eq_true rfl⟩ hl hP hD [21, 22, 23, 24, 25, 26] rfl rfl (ci := 4) rfl rfl hS hA rfl rfl (Nat.le_of_ble_eq_true rfl) ⟨Nat.zero_le _, Nat.zero_le _⟩ d_Log_open__49 (fun H locs hP hS => ?_)
      cases hm
      exact ret_mi X hP hS d_Log_open__52
    · replace hm := ineg c4 hm
      refine lv_iconst (v := 1) hx hb d_Log_open__23 (by decide) ?_
      refine lv_aload_n hx hb d_Log_open__24 rfl (lv_at hl 0 rfl) ?_
      refine lv_iload_n hx hb d_Log_open__25 rfl (lv_at hl 1 rfl) ?_
      obtain ⟨q6, hq6, hm⟩ := ob hm
      refine inv_mVa (C := R_Log) (As := [.int v2]) (rest := [.int 1]) (v := .int q6.1) X (c_Log_learnRow l D ca ad _ g v2 q6 hq6) g_Log_161 yo_Log_learnRow ⟨Nat.le_of_ble_eq_true rfl, Nat.le_of_ble_eq_true rfl⟩ hl hP hD rfl (ci := 5) rfl rfl hS hA rfl rfl (Nat.le_of_ble_eq_true rfl) ⟨Nat.zero_le _, Nat.zero_le _⟩ d_Log_open__26 (fun H locs hP hD hS => ?_)
      refine va_mmax hx hb (hml.trans hl.1.symm) hown (hts _ wm_Log_164) (hts _ w_max_static) (hts _ w_math_init) (hts _ w_max_code) (Nat.le_of_ble_eq_true rfl) (Nat.le_of_ble_eq_true rfl) (Nat.zero_le _) (Nat.zero_le _) d_Log_open__29 ?_
      refine lv_istore_n (lv' := [(1, .int (jmax 1 q6.1)), (0, .ref (ad 0)), (2, .int v2)]) hx hb d_Log_open__32 rfl hl (by decide) rfl (fun ls hl => ?_)
      refine lv_iload_n hx hb d_Log_open__33 rfl (lv_at hl 2 rfl) ?_
      refine lv_iload_n hx hb d_Log_open__34 rfl (lv_at hl 0 rfl) ?_
      refine lv_iadd hx hb d_Log_open__35 ?_
      refine lv_istore_n (lv' := [(2, .int (v2 + (jmax 1 q6.1))), (1, .int (jmax 1 q6.1)), (0, .ref (ad 0))]) hx hb d_Log_open__36 rfl hl (by decide) rfl (fun ls hl => ?_)
      refine lv_goto (tgt := 12) hx hb d_Log_open__37 (by decide) ?_
      exact ih q6.2 (v2 + (jmax 1 q6.1)) _ hm _ _ hP hD hS ls (lv_sub hl [2, 0] rfl)
set_option maxHeartbeats 4000000 in
set_option maxRecDepth 100000 in
theorem c_Log_open_ (l : Launch) (D : va_G) (ca : Nat → ClassId) (ad : Nat → Nat) (sz : Nat) (g : St_Log)  (res : Int32 × St_Log) (hm : m_Log_open_ g = some res) : Met l y_Log_open_ (cws y_Log_open_ b_Log_open_ 3 (some .int)) (RM 7 157) (PreW D ca (wl_Log ca ad g) [.ref (ad 0)] sz) (QRm D (some (.int res.1)) (wl_Log ca ad res.2) (va_A (wl_Log ca ad g) sz)) 0 0 (va_A (wl_Log ca ad g) sz) := by
  refine met_ofM (own := R_Log) (by decide) rfl (Nat.le_of_ble_eq_true rfl) ?_
  intro p e s m below meth c A X hA hP hD ls hl
  obtain ⟨hx, hb, hml, hr, hown, hts, hK, hlocks⟩ := id X
  have hS : va_S A s.heap s.heap [] := va_S.rf
  have hl : lv_has ls 3 [(0, .ref (ad 0))] := hl
  unfold m_Log_open_ at hm
  refine lv_aload_n hx hb d_Log_open__0 rfl (lv_at hl 0 rfl) ?_
  obtain ⟨q1, hq1, hm⟩ := ob hm
  refine inv_mUa (C := R_Log) (As := []) (rest := []) X (c_Log_forget l D ca ad _ g q1 hq1) g_Log_155 yo_Log_forget ⟨Nat.le_of_ble_eq_true rfl, Nat.le_of_ble_eq_true rfl⟩ hl hP hD rfl (ci := 5) rfl rfl hS hA rfl rfl (Nat.le_of_ble_eq_true rfl) ⟨Nat.zero_le _, Nat.zero_le _⟩ d_Log_open__1 (fun H locs hP hD hS => ?_)
  refine lv_aload_n hx hb d_Log_open__4 rfl (lv_at hl 0 rfl) ?_
  obtain ⟨q2, hq2, hm⟩ := ob hm
  refine inv_mUa (C := R_Log) (As := []) (rest := []) X (c_Log_readHeads l D ca ad _ q1 q2 hq2) g_Log_158 yo_Log_readHeads ⟨Nat.le_of_ble_eq_true rfl, Nat.le_of_ble_eq_true rfl⟩ hl hP hD rfl (ci := 5) rfl rfl hS hA rfl rfl (Nat.le_of_ble_eq_true rfl) ⟨Nat.zero_le _, Nat.zero_le _⟩ d_Log_open__5 (fun H locs hP hD hS => ?_)
  refine lv_iconst (v := 1) hx hb d_Log_open__8 (by decide) ?_
  refine lv_istore_n (lv' := [(1, .int 1), (0, .ref (ad 0))]) hx hb d_Log_open__9 rfl hl (by decide) rfl (fun ls hl => ?_)
  refine lv_iconst (v := 2) hx hb d_Log_open__10 (by decide) ?_
  refine lv_istore_n (lv' := [(2, .int 2), (1, .int 1), (0, .ref (ad 0))]) hx hb d_Log_open__11 rfl hl (by decide) rfl (fun ls hl => ?_)
  exact k_m_Log_open__L12 X hA FU q2 2 _ hm _ _ hP hD hS ls (lv_sub hl [2, 0] rfl)
set_option maxHeartbeats 4000000 in
set_option maxRecDepth 100000 in
theorem c_Log_isKeptAsFound (l : Launch) (D : va_G) (ca : Nat → ClassId) (ad : Nat → Nat) (sz : Nat) (g : St_Log) (p1 : Int32) (res : Int32) (hm : m_Log_isKeptAsFound g p1 = some res) : Met l y_Log_isKeptAsFound (cws y_Log_isKeptAsFound b_Log_isKeptAsFound 6 (some .boolean)) (RM 4 94) (PreW D ca (wl_Log ca ad g) [.ref (ad 0), .int p1] sz) (QRr (.int res) (va_A [] sz)) 0 0 (va_A [] sz) := by
  refine met_ofR (own := R_Log) (by decide) rfl (Nat.le_of_ble_eq_true rfl) ?_
  intro p e s m below meth c A X hA hP hD ls hl
  obtain ⟨hx, hb, hml, hr, hown, hts, hK, hlocks⟩ := id X
  have hS : va_S A s.heap s.heap [] := va_S.rf
  have hl : lv_has ls 6 [(0, .ref (ad 0)), (1, .int p1)] := hl
  unfold m_Log_isKeptAsFound at hm
  refine lv_aload_n hx hb d_Log_isKeptAsFound_0 rfl (lv_at hl 0 rfl) ?_
  refine va_get (D := D) (ci := 5) (v := .ref (ad 21)) (C := R_Log) (T := F_Log) (N := 15) hx hb hts i_Log hown hK hP 0 rfl rfl 8 (by decide) (hts _ wf_Log_58) (fun _ h9 => h9) rfl d_Log_isKeptAsFound_1 ?_
  refine lv_iload_n hx hb d_Log_isKeptAsFound_4 rfl (lv_at hl 1 rfl) ?_
  obtain ⟨q1, hq1, hm⟩ := ob hm
  refine inv_rV (C := R_Marks) (As := [.int p1]) (rest := []) (v := .int q1) X (c_Marks_rowAt l D ca (ad 21) (ad 22) (ad 23) (ad 24) (ad 25) (ad 26) _ (g_kept g) p1 q1 hq1) g_Log_216 yo_Marks_rowAt ⟨Nat.le_of_ble_eq_true rfl, Nat.le_of_ble_eq_true rfl⟩ hl hP hD [21, 22, 23, 24, 25, 26] rfl rfl (ci := 4) rfl rfl hS hA rfl rfl (Nat.le_of_ble_eq_true rfl) ⟨Nat.zero_le _, Nat.zero_le _⟩ d_Log_isKeptAsFound_5 (fun H locs hP hS => ?_)
  refine lv_istore_n (lv' := [(2, .int q1), (0, .ref (ad 0)), (1, .int p1)]) hx hb d_Log_isKeptAsFound_8 rfl hl (by decide) rfl (fun ls hl => ?_)
  refine lv_aload_n hx hb d_Log_isKeptAsFound_9 rfl (lv_at hl 1 rfl) ?_
  refine va_get (D := D) (ci := 5) (v := .ref (ad 21)) (C := R_Log) (T := F_Log) (N := 15) hx hb hts i_Log hown hK hP 0 rfl rfl 8 (by decide) (hts _ wf_Log_58) (fun _ h9 => h9) rfl d_Log_isKeptAsFound_10 ?_
  refine lv_iload_n hx hb d_Log_isKeptAsFound_13 rfl (lv_at hl 2 rfl) ?_
  obtain ⟨q2, hq2, hm⟩ := ob hm
  refine inv_rV (C := R_Marks) (As := [.int p1]) (rest := []) (v := .int q2) X (c_Marks_countAt l D ca (ad 21) (ad 22) (ad 23) (ad 24) (ad 25) (ad 26) _ (g_kept g) p1 q2 hq2) g_Log_101 yo_Marks_countAt ⟨Nat.le_of_ble_eq_true rfl, Nat.le_of_ble_eq_true rfl⟩ hl hP hD [21, 22, 23, 24, 25, 26] rfl rfl (ci := 4) rfl rfl hS hA rfl rfl (Nat.le_of_ble_eq_true rfl) ⟨Nat.zero_le _, Nat.zero_le _⟩ d_Log_isKeptAsFound_14 (fun H locs hP hS => ?_)
  refine lv_istore_n (lv' := [(3, .int q2), (2, .int q1), (0, .ref (ad 0)), (1, .int p1)]) hx hb d_Log_isKeptAsFound_17 rfl hl (by decide) rfl (fun ls hl => ?_)
  refine lv_aload_n hx hb d_Log_isKeptAsFound_18 rfl (lv_at hl 2 rfl) ?_
  refine va_get (D := D) (ci := 5) (v := .ref (ad 21)) (C := R_Log) (T := F_Log) (N := 15) hx hb hts i_Log hown hK hP 0 rfl rfl 8 (by decide) (hts _ wf_Log_58) (fun _ h9 => h9) rfl d_Log_isKeptAsFound_19 ?_
  refine lv_iload_n hx hb d_Log_isKeptAsFound_22 rfl (lv_at hl 3 rfl) ?_
  obtain ⟨q3, hq3, hm⟩ := ob hm
  refine inv_rV (C := R_Marks) (As := [.int p1]) (rest := []) (v := .long q3) X (c_Marks_digestAt l D ca (ad 21) (ad 22) (ad 23) (ad 24) (ad 25) (ad 26) _ (g_kept g) p1 q3 hq3) g_Log_377 yo_Marks_digestAt ⟨Nat.le_of_ble_eq_true rfl, Nat.le_of_ble_eq_true rfl⟩ hl hP hD [21, 22, 23, 24, 25, 26] rfl rfl (ci := 4) rfl rfl hS hA rfl rfl (Nat.le_of_ble_eq_true rfl) ⟨Nat.zero_le _, Nat.zero_le _⟩ d_Log_isKeptAsFound_23 (fun H locs hP hS => ?_)
  refine lv_lstore (lv' := [(4, .long q3), (3, .int q2), (2, .int q1), (0, .ref (ad 0)), (1, .int p1)]) hx hb d_Log_isKeptAsFound_26 hl (by decide) rfl (fun ls hl => ?_)
  refine lv_aload_n hx hb d_Log_isKeptAsFound_28 rfl (lv_at hl 3 rfl) ?_
  refine va_get (D := D) (ci := 5) (v := .ref (ad 1)) (C := R_Log) (T := F_Log) (N := 15) hx hb hts i_Log hown hK hP 0 rfl rfl 0 (by decide) (hts _ wf_Log_14) (fun _ h9 => h9) rfl d_Log_isKeptAsFound_29 ?_
  refine lv_iload_n hx hb d_Log_isKeptAsFound_32 rfl (lv_at hl 2 rfl) ?_
  refine lv_iconst (v := 0) hx hb d_Log_isKeptAsFound_33 (by decide) ?_
  obtain ⟨q4, hq4, hm⟩ := ob hm
  refine inv_rV (C := R_Medium) (As := [.int q1, .int 0]) (rest := []) (v := .int q4) X (c_Medium_at l D ca (ad 1) (ad 2) _ (g_medium g) q1 0 q4 hq4) g_Log_226 yo_Medium_at ⟨Nat.le_of_ble_eq_true rfl, Nat.le_of_ble_eq_true rfl⟩ hl hP hD [1, 2] rfl rfl (ci := 0) rfl rfl hS hA rfl rfl (Nat.le_of_ble_eq_true rfl) ⟨Nat.zero_le _, Nat.zero_le _⟩ d_Log_isKeptAsFound_34 (fun H locs hP hS => ?_)
  refine lv_iconst (v := 2) hx hb d_Log_isKeptAsFound_37 (by decide) ?_
  refine lv_icmp_ne (tgt := 130) hx hb d_Log_isKeptAsFound_38 (by decide) (fun c5 => ?_) (fun c5 => ?_)
  · replace hm := ineg c5 hm
    refine lv_iconst (v := 0) hx hb d_Log_isKeptAsFound_130 (by decide) ?_
    cases hm
    exact ret_rz X nz0 hS d_Log_isKeptAsFound_131
  · replace hm := ip c5 hm
    refine lv_aload_n hx hb d_Log_isKeptAsFound_41 rfl (lv_at hl 3 rfl) ?_
    refine va_get (D := D) (ci := 5) (v := .ref (ad 1)) (C := R_Log) (T := F_Log) (N := 15) hx hb hts i_Log hown hK hP 0 rfl rfl 0 (by decide) (hts _ wf_Log_14) (fun _ h9 => h9) rfl d_Log_isKeptAsFound_42 ?_
    refine lv_iload_n hx hb d_Log_isKeptAsFound_45 rfl (lv_at hl 2 rfl) ?_
    obtain ⟨q6, hq6, hm⟩ := ob hm
    refine inv_rV (C := R_Medium) (As := [.int q1]) (rest := []) (v := .int q6) X (c_Medium_isSumRight l D ca (ad 1) (ad 2) _ (g_medium g) q1 q6 hq6) g_Log_346 yo_Medium_isSumRight ⟨Nat.le_of_ble_eq_true rfl, Nat.le_of_ble_eq_true rfl⟩ hl hP hD [1, 2] rfl rfl (ci := 0) rfl rfl hS hA rfl rfl (Nat.le_of_ble_eq_true rfl) ⟨Nat.zero_le _, Nat.zero_le _⟩ d_Log_isKeptAsFound_46 (fun H locs hP hS => ?_)
    refine lv_if_eq (tgt := 130) hx hb d_Log_isKeptAsFound_49 (by decide) (fun c7 => ?_) (fun c7 => ?_)
    · replace hm := ip c7 hm
      refine lv_iconst (v := 0) hx hb d_Log_isKeptAsFound_130 (by decide) ?_
      cases hm
      exact ret_rz X nz0 hS d_Log_isKeptAsFound_131
    · replace hm := ineg c7 hm
      refine lv_aload_n hx hb d_Log_isKeptAsFound_52 rfl (lv_at hl 3 rfl) ?_
      refine va_get (D := D) (ci := 5) (v := .ref (ad 1)) (C := R_Log) (T := F_Log) (N := 15) hx hb hts i_Log hown hK hP 0 rfl rfl 0 (by decide) (hts _ wf_Log_14) (fun _ h9 => h9) rfl d_Log_isKeptAsFound_53 ?_
      refine lv_iload_n hx hb d_Log_isKeptAsFound_56 rfl (lv_at hl 2 rfl) ?_
      refine lv_iconst (v := 4) hx hb d_Log_isKeptAsFound_57 (by decide) ?_
      refine lv_iconst (v := 4) hx hb d_Log_isKeptAsFound_58 (by decide) ?_
      obtain ⟨q8, hq8, hm⟩ := ob hm
      refine inv_rV (C := R_Medium) (As := [.int q1, .int 4, .int 4]) (rest := []) (v := .long q8) X (c_Medium_number l D ca (ad 1) (ad 2) _ (g_medium g) q1 4 4 q8 hq8) g_Log_311 yo_Medium_number ⟨Nat.le_of_ble_eq_true rfl, Nat.le_of_ble_eq_true rfl⟩ hl hP hD [1, 2] rfl rfl (ci := 0) rfl rfl hS hA rfl rfl (Nat.le_of_ble_eq_true rfl) ⟨Nat.zero_le _, Nat.zero_le _⟩ d_Log_isKeptAsFound_59 (fun H locs hP hS => ?_)
      refine lv_aload_n hx hb d_Log_isKeptAsFound_62 rfl (lv_at hl 3 rfl) ?_
      refine va_get (D := D) (ci := 5) (v := .ref (ad 21)) (C := R_Log) (T := F_Log) (N := 15) hx hb hts i_Log hown hK hP 0 rfl rfl 8 (by decide) (hts _ wf_Log_58) (fun _ h9 => h9) rfl d_Log_isKeptAsFound_63 ?_
      refine lv_iload_n hx hb d_Log_isKeptAsFound_66 rfl (lv_at hl 4 rfl) ?_
      obtain ⟨q9, hq9, hm⟩ := ob hm
      refine inv_rV (C := R_Marks) (As := [.int p1]) (rest := [.long q8]) (v := .int q9) X (c_Marks_numberAt l D ca (ad 21) (ad 22) (ad 23) (ad 24) (ad 25) (ad 26) _ (g_kept g) p1 q9 hq9) g_Log_172 yo_Marks_numberAt ⟨Nat.le_of_ble_eq_true rfl, Nat.le_of_ble_eq_true rfl⟩ hl hP hD [21, 22, 23, 24, 25, 26] rfl rfl (ci := 4) rfl rfl hS hA rfl rfl (Nat.le_of_ble_eq_true rfl) ⟨Nat.zero_le _, Nat.zero_le _⟩ d_Log_isKeptAsFound_67 (fun H locs hP hS => ?_)
      refine lv_i2l (v := ((q9).toInt64)) hx hb d_Log_isKeptAsFound_70 rfl ?_
      refine W.lcmp hx hb d_Log_isKeptAsFound_71 ?_
      refine lv_if_ne (tgt := 130) hx hb d_Log_isKeptAsFound_72 (by decide) (fun c10 => ?_) (fun c10 => ?_)
      · replace hm := ineg c10 hm
        refine lv_iconst (v := 0) hx hb d_Log_isKeptAsFound_130 (by decide) ?_
        cases hm
        exact ret_rz X nz0 hS d_Log_isKeptAsFound_131
      · replace hm := ip c10 hm
        refine lv_aload_n hx hb d_Log_isKeptAsFound_75 rfl (lv_at hl 3 rfl) ?_
        refine va_get (D := D) (ci := 5) (v := .ref (ad 1)) (C := R_Log) (T := F_Log) (N := 15) hx hb hts i_Log hown hK hP 0 rfl rfl 0 (by decide) (hts _ wf_Log_14) (fun _ h9 => h9) rfl d_Log_isKeptAsFound_76 ?_
        refine lv_iload_n hx hb d_Log_isKeptAsFound_79 rfl (lv_at hl 2 rfl) ?_
        refine lv_iconst (v := 1) hx hb d_Log_isKeptAsFound_80 (by decide) ?_
        obtain ⟨q11, hq11, hm⟩ := ob hm
        refine inv_rV (C := R_Medium) (As := [.int q1, .int 1]) (rest := []) (v := .int q11) X (c_Medium_at l D ca (ad 1) (ad 2) _ (g_medium g) q1 1 q11 hq11) g_Log_226 yo_Medium_at ⟨Nat.le_of_ble_eq_true rfl, Nat.le_of_ble_eq_true rfl⟩ hl hP hD [1, 2] rfl rfl (ci := 0) rfl rfl hS hA rfl rfl (Nat.le_of_ble_eq_true rfl) ⟨Nat.zero_le _, Nat.zero_le _⟩ d_Log_isKeptAsFound_81 (fun H locs hP hS => ?_)
        refine lv_iload_n hx hb d_Log_isKeptAsFound_84 rfl (lv_at hl 1 rfl) ?_
        refine lv_icmp_ne (tgt := 130) hx hb d_Log_isKeptAsFound_85 (by decide) (fun c12 => ?_) (fun c12 => ?_)
        · replace hm := ineg c12 hm
          refine lv_iconst (v := 0) hx hb d_Log_isKeptAsFound_130 (by decide) ?_
          cases hm
          exact ret_rz X nz0 hS d_Log_isKeptAsFound_131
        · replace hm := ip c12 hm
          refine lv_aload_n hx hb d_Log_isKeptAsFound_88 rfl (lv_at hl 3 rfl) ?_
          refine va_get (D := D) (ci := 5) (v := .ref (ad 1)) (C := R_Log) (T := F_Log) (N := 15) hx hb hts i_Log hown hK hP 0 rfl rfl 0 (by decide) (hts _ wf_Log_14) (fun _ h9 => h9) rfl d_Log_isKeptAsFound_89 ?_
          refine lv_iload_n hx hb d_Log_isKeptAsFound_92 rfl (lv_at hl 2 rfl) ?_
          refine lv_bipush (v := 8) hx hb d_Log_isKeptAsFound_93 (by decide) ?_
          refine lv_bipush (v := 8) hx hb d_Log_isKeptAsFound_95 (by decide) ?_
          obtain ⟨q13, hq13, hm⟩ := ob hm
          refine inv_rV (C := R_Medium) (As := [.int q1, .int 8, .int 8]) (rest := []) (v := .long q13) X (c_Medium_number l D ca (ad 1) (ad 2) _ (g_medium g) q1 8 8 q13 hq13) g_Log_311 yo_Medium_number ⟨Nat.le_of_ble_eq_true rfl, Nat.le_of_ble_eq_true rfl⟩ hl hP hD [1, 2] rfl rfl (ci := 0) rfl rfl hS hA rfl rfl (Nat.le_of_ble_eq_true rfl) ⟨Nat.zero_le _, Nat.zero_le _⟩ d_Log_isKeptAsFound_97 (fun H locs hP hS => ?_)
          refine lv_lload hx hb d_Log_isKeptAsFound_100 (lv_at hl 0 rfl) ?_
          refine W.lcmp hx hb d_Log_isKeptAsFound_102 ?_
          refine lv_if_ne (tgt := 130) hx hb d_Log_isKeptAsFound_103 (by decide) (fun c14 => ?_) (fun c14 => ?_)
          · replace hm := ineg c14 hm
            refine lv_iconst (v := 0) hx hb d_Log_isKeptAsFound_130 (by decide) ?_
            cases hm
            exact ret_rz X nz0 hS d_Log_isKeptAsFound_131
          · replace hm := ip c14 hm
            refine lv_aload_n hx hb d_Log_isKeptAsFound_106 rfl (lv_at hl 3 rfl) ?_
            refine va_get (D := D) (ci := 5) (v := .ref (ad 1)) (C := R_Log) (T := F_Log) (N := 15) hx hb hts i_Log hown hK hP 0 rfl rfl 0 (by decide) (hts _ wf_Log_14) (fun _ h9 => h9) rfl d_Log_isKeptAsFound_107 ?_
            refine lv_iload_n hx hb d_Log_isKeptAsFound_110 rfl (lv_at hl 2 rfl) ?_
            refine lv_iconst (v := 1) hx hb d_Log_isKeptAsFound_111 (by decide) ?_
            refine lv_iadd hx hb d_Log_isKeptAsFound_112 ?_
            refine lv_iload_n hx hb d_Log_isKeptAsFound_113 rfl (lv_at hl 1 rfl) ?_
            obtain ⟨q15, hq15, hm⟩ := ob hm
            refine inv_rS (As := [.int q2]) (rest := [.int (q1 + 1), .ref (ad 1)]) (v := .int q15) X (c_Log_entriesOf l D ca  _ q2 q15 hq15) g_Log_262 yo_Log_entriesOf ⟨Nat.le_of_ble_eq_true rfl, Nat.le_of_ble_eq_true rfl⟩ hl hP hD [] rfl rfl hS hA rfl rfl (Nat.le_of_ble_eq_true rfl) ⟨Nat.zero_le _, Nat.zero_le _⟩ d_Log_isKeptAsFound_114 (fun H locs hP hS => ?_)
            obtain ⟨q16, hq16, hm⟩ := ob hm
            refine inv_rV (C := R_Medium) (As := [.int (q1 + 1), .int q15]) (rest := []) (v := .long q16) X (c_Medium_digest l D ca (ad 1) (ad 2) _ (g_medium g) (q1 + 1) q15 q16 hq16) g_Log_365 yo_Medium_digest ⟨Nat.le_of_ble_eq_true rfl, Nat.le_of_ble_eq_true rfl⟩ hl hP hD [1, 2] rfl rfl (ci := 0) rfl rfl hS hA rfl rfl (Nat.le_of_ble_eq_true rfl) ⟨Nat.zero_le _, Nat.zero_le _⟩ d_Log_isKeptAsFound_117 (fun H locs hP hS => ?_)
            refine lv_lload hx hb d_Log_isKeptAsFound_120 (lv_at hl 0 rfl) ?_
            refine W.lcmp hx hb d_Log_isKeptAsFound_122 ?_
            refine lv_if_ne (tgt := 130) hx hb d_Log_isKeptAsFound_123 (by decide) (fun c17 => ?_) (fun c17 => ?_)
            · replace hm := ineg c17 hm
              refine lv_iconst (v := 0) hx hb d_Log_isKeptAsFound_130 (by decide) ?_
              cases hm
              exact ret_rz X nz0 hS d_Log_isKeptAsFound_131
            · replace hm := ip c17 hm
              refine lv_iconst (v := 1) hx hb d_Log_isKeptAsFound_126 (by decide) ?_
              refine lv_goto (tgt := 131) hx hb d_Log_isKeptAsFound_127 (by decide) ?_
              cases hm
              exact ret_rz X nz1 hS d_Log_isKeptAsFound_131
set_option maxHeartbeats 4000000 in
set_option maxRecDepth 100000 in
theorem c_Log_isEntryRight (l : Launch) (D : va_G) (ca : Nat → ClassId) (ad : Nat → Nat) (sz : Nat) (g : St_Log) (p1 : Int32) (p2 : Int32) (p3 : Int32) (res : Int32) (hm : m_Log_isEntryRight g p1 p2 p3 = some res) : Met l y_Log_isEntryRight (cws y_Log_isEntryRight b_Log_isEntryRight 7 (some .boolean)) (RM 3 70) (PreW D ca (wl_Log ca ad g) [.ref (ad 0), .int p1, .int p2, .int p3] sz) (QRr (.int res) (va_A [] sz)) 0 0 (va_A [] sz) := by
  refine met_ofR (own := R_Log) (by decide) rfl (Nat.le_of_ble_eq_true rfl) ?_
  intro p e s m below meth c A X hA hP hD ls hl
  obtain ⟨hx, hb, hml, hr, hown, hts, hK, hlocks⟩ := id X
  have hS : va_S A s.heap s.heap [] := va_S.rf
  have hl : lv_has ls 7 [(0, .ref (ad 0)), (1, .int p1), (2, .int p2), (3, .int p3)] := hl
  unfold m_Log_isEntryRight at hm
  refine lv_iload_n hx hb d_Log_isEntryRight_0 rfl (lv_at hl 1 rfl) ?_
  refine lv_iload_n hx hb d_Log_isEntryRight_1 rfl (lv_at hl 2 rfl) ?_
  obtain ⟨q1, hq1, hm⟩ := ob hm
  refine inv_rS (As := [.int p1, .int p2]) (rest := []) (v := .int q1) X (c_Log_entryRow l D ca  _ p1 p2 q1 hq1) g_Log_303 yo_Log_entryRow ⟨Nat.le_of_ble_eq_true rfl, Nat.le_of_ble_eq_true rfl⟩ hl hP hD [] rfl rfl hS hA rfl rfl (Nat.le_of_ble_eq_true rfl) ⟨Nat.zero_le _, Nat.zero_le _⟩ d_Log_isEntryRight_2 (fun H locs hP hS => ?_)
  refine lv_istore (lv' := [(4, .int q1), (0, .ref (ad 0)), (1, .int p1), (2, .int p2), (3, .int p3)]) hx hb d_Log_isEntryRight_5 hl (by decide) rfl (fun ls hl => ?_)
  refine lv_iload_n hx hb d_Log_isEntryRight_7 rfl (lv_at hl 3 rfl) ?_
  obtain ⟨q2, hq2, hm⟩ := ob hm
  refine inv_rS (As := [.int p2]) (rest := []) (v := .int q2) X (c_Log_entryByte l D ca  _ p2 q2 hq2) g_Log_308 yo_Log_entryByte ⟨Nat.le_of_ble_eq_true rfl, Nat.le_of_ble_eq_true rfl⟩ hl hP hD [] rfl rfl hS hA rfl rfl (Nat.le_of_ble_eq_true rfl) ⟨Nat.zero_le _, Nat.zero_le _⟩ d_Log_isEntryRight_8 (fun H locs hP hS => ?_)
  refine lv_istore (lv' := [(5, .int q2), (4, .int q1), (0, .ref (ad 0)), (1, .int p1), (2, .int p2), (3, .int p3)]) hx hb d_Log_isEntryRight_11 hl (by decide) rfl (fun ls hl => ?_)
  refine lv_aload_n hx hb d_Log_isEntryRight_13 rfl (lv_at hl 2 rfl) ?_
  refine va_get (D := D) (ci := 5) (v := .ref (ad 15)) (C := R_Log) (T := F_Log) (N := 15) hx hb hts i_Log hown hK hP 0 rfl rfl 7 (by decide) (hts _ wf_Log_51) (fun _ h9 => h9) rfl d_Log_isEntryRight_14 ?_
  refine lv_iload_n hx hb d_Log_isEntryRight_17 rfl (lv_at hl 5 rfl) ?_
  obtain ⟨q3, hq3, hm⟩ := ob hm
  refine inv_rV (C := R_Parts) (As := [.int p3]) (rest := []) (v := .int q3) X (c_Parts_rowAt l D ca (ad 15) (ad 16) (ad 17) (ad 18) (ad 19) (ad 20) _ (g_parts g) p3 q3 hq3) g_Log_198 yo_Parts_rowAt ⟨Nat.le_of_ble_eq_true rfl, Nat.le_of_ble_eq_true rfl⟩ hl hP hD [15, 16, 17, 18, 19, 20] rfl rfl (ci := 3) rfl rfl hS hA rfl rfl (Nat.le_of_ble_eq_true rfl) ⟨Nat.zero_le _, Nat.zero_le _⟩ d_Log_isEntryRight_18 (fun H locs hP hS => ?_)
  refine lv_istore (lv' := [(6, .int q3), (5, .int q2), (4, .int q1), (0, .ref (ad 0)), (1, .int p1), (2, .int p2), (3, .int p3)]) hx hb d_Log_isEntryRight_21 hl (by decide) rfl (fun ls hl => ?_)
  refine lv_aload_n hx hb d_Log_isEntryRight_23 rfl (lv_at hl 3 rfl) ?_
  refine va_get (D := D) (ci := 5) (v := .ref (ad 1)) (C := R_Log) (T := F_Log) (N := 15) hx hb hts i_Log hown hK hP 0 rfl rfl 0 (by decide) (hts _ wf_Log_14) (fun _ h9 => h9) rfl d_Log_isEntryRight_24 ?_
  refine lv_iload hx hb d_Log_isEntryRight_27 (lv_at hl 2 rfl) ?_
  refine lv_iload hx hb d_Log_isEntryRight_29 (lv_at hl 1 rfl) ?_
  refine lv_iconst (v := 4) hx hb d_Log_isEntryRight_31 (by decide) ?_
  refine lv_iadd hx hb d_Log_isEntryRight_32 ?_
  refine lv_iconst (v := 2) hx hb d_Log_isEntryRight_33 (by decide) ?_
  obtain ⟨q4, hq4, hm⟩ := ob hm
  refine inv_rV (C := R_Medium) (As := [.int q1, .int (q2 + 4), .int 2]) (rest := []) (v := .long q4) X (c_Medium_number l D ca (ad 1) (ad 2) _ (g_medium g) q1 (q2 + 4) 2 q4 hq4) g_Log_311 yo_Medium_number ⟨Nat.le_of_ble_eq_true rfl, Nat.le_of_ble_eq_true rfl⟩ hl hP hD [1, 2] rfl rfl (ci := 0) rfl rfl hS hA rfl rfl (Nat.le_of_ble_eq_true rfl) ⟨Nat.zero_le _, Nat.zero_le _⟩ d_Log_isEntryRight_34 (fun H locs hP hS => ?_)
  refine lv_iload hx hb d_Log_isEntryRight_37 (lv_at hl 0 rfl) ?_
  refine lv_i2l (v := ((q3).toInt64)) hx hb d_Log_isEntryRight_39 rfl ?_
  refine W.lcmp hx hb d_Log_isEntryRight_40 ?_
  refine lv_if_ne (tgt := 81) hx hb d_Log_isEntryRight_41 (by decide) (fun c5 => ?_) (fun c5 => ?_)
  · replace hm := ineg c5 hm
    refine lv_iconst (v := 0) hx hb d_Log_isEntryRight_81 (by decide) ?_
    cases hm
    exact ret_rz X nz0 hS d_Log_isEntryRight_82
  · replace hm := ip c5 hm
    refine lv_aload_n hx hb d_Log_isEntryRight_44 rfl (lv_at hl 3 rfl) ?_
    refine va_get (D := D) (ci := 5) (v := .ref (ad 1)) (C := R_Log) (T := F_Log) (N := 15) hx hb hts i_Log hown hK hP 0 rfl rfl 0 (by decide) (hts _ wf_Log_14) (fun _ h9 => h9) rfl d_Log_isEntryRight_45 ?_
    refine lv_iload hx hb d_Log_isEntryRight_48 (lv_at hl 2 rfl) ?_
    refine lv_iload hx hb d_Log_isEntryRight_50 (lv_at hl 1 rfl) ?_
    refine lv_bipush (v := 6) hx hb d_Log_isEntryRight_52 (by decide) ?_
    refine lv_iadd hx hb d_Log_isEntryRight_54 ?_
    refine lv_bipush (v := 8) hx hb d_Log_isEntryRight_55 (by decide) ?_
    obtain ⟨q6, hq6, hm⟩ := ob hm
    refine inv_rV (C := R_Medium) (As := [.int q1, .int (q2 + 6), .int 8]) (rest := []) (v := .long q6) X (c_Medium_number l D ca (ad 1) (ad 2) _ (g_medium g) q1 (q2 + 6) 8 q6 hq6) g_Log_311 yo_Medium_number ⟨Nat.le_of_ble_eq_true rfl, Nat.le_of_ble_eq_true rfl⟩ hl hP hD [1, 2] rfl rfl (ci := 0) rfl rfl hS hA rfl rfl (Nat.le_of_ble_eq_true rfl) ⟨Nat.zero_le _, Nat.zero_le _⟩ d_Log_isEntryRight_57 (fun H locs hP hS => ?_)
    refine lv_aload_n hx hb d_Log_isEntryRight_60 rfl (lv_at hl 3 rfl) ?_
    refine va_get (D := D) (ci := 5) (v := .ref (ad 1)) (C := R_Log) (T := F_Log) (N := 15) hx hb hts i_Log hown hK hP 0 rfl rfl 0 (by decide) (hts _ wf_Log_14) (fun _ h9 => h9) rfl d_Log_isEntryRight_61 ?_
    refine lv_iload hx hb d_Log_isEntryRight_64 (lv_at hl 0 rfl) ?_
    refine lv_bipush (v := 16) hx hb d_Log_isEntryRight_66 (by decide) ?_
    refine lv_bipush (v := 8) hx hb d_Log_isEntryRight_68 (by decide) ?_
    obtain ⟨q7, hq7, hm⟩ := ob hm
    refine inv_rV (C := R_Medium) (As := [.int q3, .int 16, .int 8]) (rest := [.long q6]) (v := .long q7) X (c_Medium_number l D ca (ad 1) (ad 2) _ (g_medium g) q3 16 8 q7 hq7) g_Log_311 yo_Medium_number ⟨Nat.le_of_ble_eq_true rfl, Nat.le_of_ble_eq_true rfl⟩ hl hP hD [1, 2] rfl rfl (ci := 0) rfl rfl hS hA rfl rfl (Nat.le_of_ble_eq_true rfl) ⟨Nat.zero_le _, Nat.zero_le _⟩ d_Log_isEntryRight_70 (fun H locs hP hS => ?_)
    refine W.lcmp hx hb d_Log_isEntryRight_73 ?_
    refine lv_if_ne (tgt := 81) hx hb d_Log_isEntryRight_74 (by decide) (fun c8 => ?_) (fun c8 => ?_)
    · replace hm := ineg c8 hm
      refine lv_iconst (v := 0) hx hb d_Log_isEntryRight_81 (by decide) ?_
      cases hm
      exact ret_rz X nz0 hS d_Log_isEntryRight_82
    · replace hm := ip c8 hm
      refine lv_iconst (v := 1) hx hb d_Log_isEntryRight_77 (by decide) ?_
      refine lv_goto (tgt := 82) hx hb d_Log_isEntryRight_78 (by decide) ?_
      cases hm
      exact ret_rz X nz1 hS d_Log_isEntryRight_82
set_option maxHeartbeats 4000000 in
set_option maxRecDepth 100000 in
theorem c_Log_isPartWhole (l : Launch) (D : va_G) (ca : Nat → ClassId) (ad : Nat → Nat) (sz : Nat) (g : St_Log) (p1 : Int32) (res : Int32) (hm : m_Log_isPartWhole g p1 = some res) : Met l y_Log_isPartWhole (cws y_Log_isPartWhole b_Log_isPartWhole 4 (some .boolean)) (RM 4 94) (PreW D ca (wl_Log ca ad g) [.ref (ad 0), .int p1] sz) (QRr (.int res) (va_A [] sz)) 0 0 (va_A [] sz) := by
  refine met_ofR (own := R_Log) (by decide) rfl (Nat.le_of_ble_eq_true rfl) ?_
  intro p e s m below meth c A X hA hP hD ls hl
  obtain ⟨hx, hb, hml, hr, hown, hts, hK, hlocks⟩ := id X
  have hS : va_S A s.heap s.heap [] := va_S.rf
  have hl : lv_has ls 4 [(0, .ref (ad 0)), (1, .int p1)] := hl
  unfold m_Log_isPartWhole at hm
  refine lv_aload_n hx hb d_Log_isPartWhole_0 rfl (lv_at hl 0 rfl) ?_
  refine va_get (D := D) (ci := 5) (v := .ref (ad 15)) (C := R_Log) (T := F_Log) (N := 15) hx hb hts i_Log hown hK hP 0 rfl rfl 7 (by decide) (hts _ wf_Log_51) (fun _ h9 => h9) rfl d_Log_isPartWhole_1 ?_
  refine lv_iload_n hx hb d_Log_isPartWhole_4 rfl (lv_at hl 1 rfl) ?_
  obtain ⟨q1, hq1, hm⟩ := ob hm
  refine inv_rV (C := R_Parts) (As := [.int p1]) (rest := []) (v := .int q1) X (c_Parts_rowAt l D ca (ad 15) (ad 16) (ad 17) (ad 18) (ad 19) (ad 20) _ (g_parts g) p1 q1 hq1) g_Log_198 yo_Parts_rowAt ⟨Nat.le_of_ble_eq_true rfl, Nat.le_of_ble_eq_true rfl⟩ hl hP hD [15, 16, 17, 18, 19, 20] rfl rfl (ci := 3) rfl rfl hS hA rfl rfl (Nat.le_of_ble_eq_true rfl) ⟨Nat.zero_le _, Nat.zero_le _⟩ d_Log_isPartWhole_5 (fun H locs hP hS => ?_)
  refine lv_istore_n (lv' := [(2, .int q1), (0, .ref (ad 0)), (1, .int p1)]) hx hb d_Log_isPartWhole_8 rfl hl (by decide) rfl (fun ls hl => ?_)
  refine lv_aload_n hx hb d_Log_isPartWhole_9 rfl (lv_at hl 1 rfl) ?_
  refine va_get (D := D) (ci := 5) (v := .ref (ad 15)) (C := R_Log) (T := F_Log) (N := 15) hx hb hts i_Log hown hK hP 0 rfl rfl 7 (by decide) (hts _ wf_Log_51) (fun _ h9 => h9) rfl d_Log_isPartWhole_10 ?_
  refine lv_iload_n hx hb d_Log_isPartWhole_13 rfl (lv_at hl 2 rfl) ?_
  obtain ⟨q2, hq2, hm⟩ := ob hm
  refine inv_rV (C := R_Parts) (As := [.int p1]) (rest := []) (v := .int q2) X (c_Parts_lengthAt l D ca (ad 15) (ad 16) (ad 17) (ad 18) (ad 19) (ad 20) _ (g_parts g) p1 q2 hq2) g_Log_195 yo_Parts_lengthAt ⟨Nat.le_of_ble_eq_true rfl, Nat.le_of_ble_eq_true rfl⟩ hl hP hD [15, 16, 17, 18, 19, 20] rfl rfl (ci := 3) rfl rfl hS hA rfl rfl (Nat.le_of_ble_eq_true rfl) ⟨Nat.zero_le _, Nat.zero_le _⟩ d_Log_isPartWhole_14 (fun H locs hP hS => ?_)
  refine lv_istore_n (lv' := [(3, .int q2), (2, .int q1), (0, .ref (ad 0)), (1, .int p1)]) hx hb d_Log_isPartWhole_17 rfl hl (by decide) rfl (fun ls hl => ?_)
  refine lv_aload_n hx hb d_Log_isPartWhole_18 rfl (lv_at hl 2 rfl) ?_
  refine va_get (D := D) (ci := 5) (v := .ref (ad 1)) (C := R_Log) (T := F_Log) (N := 15) hx hb hts i_Log hown hK hP 0 rfl rfl 0 (by decide) (hts _ wf_Log_14) (fun _ h9 => h9) rfl d_Log_isPartWhole_19 ?_
  refine lv_iload_n hx hb d_Log_isPartWhole_22 rfl (lv_at hl 1 rfl) ?_
  refine lv_iconst (v := 0) hx hb d_Log_isPartWhole_23 (by decide) ?_
  obtain ⟨q3, hq3, hm⟩ := ob hm
  refine inv_rV (C := R_Medium) (As := [.int q1, .int 0]) (rest := []) (v := .int q3) X (c_Medium_at l D ca (ad 1) (ad 2) _ (g_medium g) q1 0 q3 hq3) g_Log_226 yo_Medium_at ⟨Nat.le_of_ble_eq_true rfl, Nat.le_of_ble_eq_true rfl⟩ hl hP hD [1, 2] rfl rfl (ci := 0) rfl rfl hS hA rfl rfl (Nat.le_of_ble_eq_true rfl) ⟨Nat.zero_le _, Nat.zero_le _⟩ d_Log_isPartWhole_24 (fun H locs hP hS => ?_)
  refine lv_iconst (v := 1) hx hb d_Log_isPartWhole_27 (by decide) ?_
  refine lv_icmp_ne (tgt := 115) hx hb d_Log_isPartWhole_28 (by decide) (fun c4 => ?_) (fun c4 => ?_)
  · replace hm := ineg c4 hm
    refine lv_iconst (v := 0) hx hb d_Log_isPartWhole_115 (by decide) ?_
    cases hm
    exact ret_rz X nz0 hS d_Log_isPartWhole_116
  · replace hm := ip c4 hm
    refine lv_aload_n hx hb d_Log_isPartWhole_31 rfl (lv_at hl 2 rfl) ?_
    refine va_get (D := D) (ci := 5) (v := .ref (ad 1)) (C := R_Log) (T := F_Log) (N := 15) hx hb hts i_Log hown hK hP 0 rfl rfl 0 (by decide) (hts _ wf_Log_14) (fun _ h9 => h9) rfl d_Log_isPartWhole_32 ?_
    refine lv_iload_n hx hb d_Log_isPartWhole_35 rfl (lv_at hl 1 rfl) ?_
    obtain ⟨q5, hq5, hm⟩ := ob hm
    refine inv_rV (C := R_Medium) (As := [.int q1]) (rest := []) (v := .int q5) X (c_Medium_isSumRight l D ca (ad 1) (ad 2) _ (g_medium g) q1 q5 hq5) g_Log_346 yo_Medium_isSumRight ⟨Nat.le_of_ble_eq_true rfl, Nat.le_of_ble_eq_true rfl⟩ hl hP hD [1, 2] rfl rfl (ci := 0) rfl rfl hS hA rfl rfl (Nat.le_of_ble_eq_true rfl) ⟨Nat.zero_le _, Nat.zero_le _⟩ d_Log_isPartWhole_36 (fun H locs hP hS => ?_)
    refine lv_if_eq (tgt := 115) hx hb d_Log_isPartWhole_39 (by decide) (fun c6 => ?_) (fun c6 => ?_)
    · replace hm := ip c6 hm
      refine lv_iconst (v := 0) hx hb d_Log_isPartWhole_115 (by decide) ?_
      cases hm
      exact ret_rz X nz0 hS d_Log_isPartWhole_116
    · replace hm := ineg c6 hm
      refine lv_aload_n hx hb d_Log_isPartWhole_42 rfl (lv_at hl 2 rfl) ?_
      refine va_get (D := D) (ci := 5) (v := .ref (ad 1)) (C := R_Log) (T := F_Log) (N := 15) hx hb hts i_Log hown hK hP 0 rfl rfl 0 (by decide) (hts _ wf_Log_14) (fun _ h9 => h9) rfl d_Log_isPartWhole_43 ?_
      refine lv_iload_n hx hb d_Log_isPartWhole_46 rfl (lv_at hl 1 rfl) ?_
      refine lv_iconst (v := 4) hx hb d_Log_isPartWhole_47 (by decide) ?_
      refine lv_iconst (v := 4) hx hb d_Log_isPartWhole_48 (by decide) ?_
      obtain ⟨q7, hq7, hm⟩ := ob hm
      refine inv_rV (C := R_Medium) (As := [.int q1, .int 4, .int 4]) (rest := []) (v := .long q7) X (c_Medium_number l D ca (ad 1) (ad 2) _ (g_medium g) q1 4 4 q7 hq7) g_Log_311 yo_Medium_number ⟨Nat.le_of_ble_eq_true rfl, Nat.le_of_ble_eq_true rfl⟩ hl hP hD [1, 2] rfl rfl (ci := 0) rfl rfl hS hA rfl rfl (Nat.le_of_ble_eq_true rfl) ⟨Nat.zero_le _, Nat.zero_le _⟩ d_Log_isPartWhole_49 (fun H locs hP hS => ?_)
      refine lv_aload_n hx hb d_Log_isPartWhole_52 rfl (lv_at hl 2 rfl) ?_
      refine va_get (D := D) (ci := 5) (v := .ref (ad 15)) (C := R_Log) (T := F_Log) (N := 15) hx hb hts i_Log hown hK hP 0 rfl rfl 7 (by decide) (hts _ wf_Log_51) (fun _ h9 => h9) rfl d_Log_isPartWhole_53 ?_
      refine lv_iload_n hx hb d_Log_isPartWhole_56 rfl (lv_at hl 3 rfl) ?_
      obtain ⟨q8, hq8, hm⟩ := ob hm
      refine inv_rV (C := R_Parts) (As := [.int p1]) (rest := [.long q7]) (v := .int q8) X (c_Parts_numberAt l D ca (ad 15) (ad 16) (ad 17) (ad 18) (ad 19) (ad 20) _ (g_parts g) p1 q8 hq8) g_Log_330 yo_Parts_numberAt ⟨Nat.le_of_ble_eq_true rfl, Nat.le_of_ble_eq_true rfl⟩ hl hP hD [15, 16, 17, 18, 19, 20] rfl rfl (ci := 3) rfl rfl hS hA rfl rfl (Nat.le_of_ble_eq_true rfl) ⟨Nat.zero_le _, Nat.zero_le _⟩ d_Log_isPartWhole_57 (fun H locs hP hS => ?_)
      refine lv_i2l (v := ((q8).toInt64)) hx hb d_Log_isPartWhole_60 rfl ?_
      refine W.lcmp hx hb d_Log_isPartWhole_61 ?_
      refine lv_if_ne (tgt := 115) hx hb d_Log_isPartWhole_62 (by decide) (fun c9 => ?_) (fun c9 => ?_)
      · replace hm := ineg c9 hm
        refine lv_iconst (v := 0) hx hb d_Log_isPartWhole_115 (by decide) ?_
        cases hm
        exact ret_rz X nz0 hS d_Log_isPartWhole_116
      · replace hm := ip c9 hm
        refine lv_aload_n hx hb d_Log_isPartWhole_65 rfl (lv_at hl 2 rfl) ?_
        refine va_get (D := D) (ci := 5) (v := .ref (ad 1)) (C := R_Log) (T := F_Log) (N := 15) hx hb hts i_Log hown hK hP 0 rfl rfl 0 (by decide) (hts _ wf_Log_14) (fun _ h9 => h9) rfl d_Log_isPartWhole_66 ?_
        refine lv_iload_n hx hb d_Log_isPartWhole_69 rfl (lv_at hl 1 rfl) ?_
        refine lv_iconst (v := 2) hx hb d_Log_isPartWhole_70 (by decide) ?_
        refine lv_iconst (v := 2) hx hb d_Log_isPartWhole_71 (by decide) ?_
        obtain ⟨q10, hq10, hm⟩ := ob hm
        refine inv_rV (C := R_Medium) (As := [.int q1, .int 2, .int 2]) (rest := []) (v := .long q10) X (c_Medium_number l D ca (ad 1) (ad 2) _ (g_medium g) q1 2 2 q10 hq10) g_Log_311 yo_Medium_number ⟨Nat.le_of_ble_eq_true rfl, Nat.le_of_ble_eq_true rfl⟩ hl hP hD [1, 2] rfl rfl (ci := 0) rfl rfl hS hA rfl rfl (Nat.le_of_ble_eq_true rfl) ⟨Nat.zero_le _, Nat.zero_le _⟩ d_Log_isPartWhole_72 (fun H locs hP hS => ?_)
        refine lv_iload_n hx hb d_Log_isPartWhole_75 rfl (lv_at hl 0 rfl) ?_
        refine lv_i2l (v := ((q2).toInt64)) hx hb d_Log_isPartWhole_76 rfl ?_
        refine W.lcmp hx hb d_Log_isPartWhole_77 ?_
        refine lv_if_ne (tgt := 115) hx hb d_Log_isPartWhole_78 (by decide) (fun c11 => ?_) (fun c11 => ?_)
        · replace hm := ineg c11 hm
          refine lv_iconst (v := 0) hx hb d_Log_isPartWhole_115 (by decide) ?_
          cases hm
          exact ret_rz X nz0 hS d_Log_isPartWhole_116
        · replace hm := ip c11 hm
          refine lv_aload_n hx hb d_Log_isPartWhole_81 rfl (lv_at hl 2 rfl) ?_
          refine va_get (D := D) (ci := 5) (v := .ref (ad 1)) (C := R_Log) (T := F_Log) (N := 15) hx hb hts i_Log hown hK hP 0 rfl rfl 0 (by decide) (hts _ wf_Log_14) (fun _ h9 => h9) rfl d_Log_isPartWhole_82 ?_
          refine lv_iload_n hx hb d_Log_isPartWhole_85 rfl (lv_at hl 1 rfl) ?_
          refine lv_bipush (v := 16) hx hb d_Log_isPartWhole_86 (by decide) ?_
          refine lv_bipush (v := 8) hx hb d_Log_isPartWhole_88 (by decide) ?_
          obtain ⟨q12, hq12, hm⟩ := ob hm
          refine inv_rV (C := R_Medium) (As := [.int q1, .int 16, .int 8]) (rest := []) (v := .long q12) X (c_Medium_number l D ca (ad 1) (ad 2) _ (g_medium g) q1 16 8 q12 hq12) g_Log_311 yo_Medium_number ⟨Nat.le_of_ble_eq_true rfl, Nat.le_of_ble_eq_true rfl⟩ hl hP hD [1, 2] rfl rfl (ci := 0) rfl rfl hS hA rfl rfl (Nat.le_of_ble_eq_true rfl) ⟨Nat.zero_le _, Nat.zero_le _⟩ d_Log_isPartWhole_90 (fun H locs hP hS => ?_)
          refine lv_aload_n hx hb d_Log_isPartWhole_93 rfl (lv_at hl 2 rfl) ?_
          refine va_get (D := D) (ci := 5) (v := .ref (ad 1)) (C := R_Log) (T := F_Log) (N := 15) hx hb hts i_Log hown hK hP 0 rfl rfl 0 (by decide) (hts _ wf_Log_14) (fun _ h9 => h9) rfl d_Log_isPartWhole_94 ?_
          refine lv_iload_n hx hb d_Log_isPartWhole_97 rfl (lv_at hl 1 rfl) ?_
          refine lv_iconst (v := 1) hx hb d_Log_isPartWhole_98 (by decide) ?_
          refine lv_iadd hx hb d_Log_isPartWhole_99 ?_
          refine lv_iload_n hx hb d_Log_isPartWhole_100 rfl (lv_at hl 0 rfl) ?_
          obtain ⟨q13, hq13, hm⟩ := ob hm
          refine inv_rS (As := [.int q2]) (rest := [.int (q1 + 1), .ref (ad 1), .long q12]) (v := .int q13) X (c_Log_bodiesOf l D ca  _ q2 q13 hq13) g_Log_259 yo_Log_bodiesOf ⟨Nat.le_of_ble_eq_true rfl, Nat.le_of_ble_eq_true rfl⟩ hl hP hD [] rfl rfl hS hA rfl rfl (Nat.le_of_ble_eq_true rfl) ⟨Nat.zero_le _, Nat.zero_le _⟩ d_Log_isPartWhole_101 (fun H locs hP hS => ?_)
          obtain ⟨q14, hq14, hm⟩ := ob hm
          refine inv_rV (C := R_Medium) (As := [.int (q1 + 1), .int q13]) (rest := [.long q12]) (v := .long q14) X (c_Medium_digest l D ca (ad 1) (ad 2) _ (g_medium g) (q1 + 1) q13 q14 hq14) g_Log_365 yo_Medium_digest ⟨Nat.le_of_ble_eq_true rfl, Nat.le_of_ble_eq_true rfl⟩ hl hP hD [1, 2] rfl rfl (ci := 0) rfl rfl hS hA rfl rfl (Nat.le_of_ble_eq_true rfl) ⟨Nat.zero_le _, Nat.zero_le _⟩ d_Log_isPartWhole_104 (fun H locs hP hS => ?_)
          refine W.lcmp hx hb d_Log_isPartWhole_107 ?_
          refine lv_if_ne (tgt := 115) hx hb d_Log_isPartWhole_108 (by decide) (fun c15 => ?_) (fun c15 => ?_)
          · replace hm := ineg c15 hm
            refine lv_iconst (v := 0) hx hb d_Log_isPartWhole_115 (by decide) ?_
            cases hm
            exact ret_rz X nz0 hS d_Log_isPartWhole_116
          · replace hm := ip c15 hm
            refine lv_iconst (v := 1) hx hb d_Log_isPartWhole_111 (by decide) ?_
            refine lv_goto (tgt := 116) hx hb d_Log_isPartWhole_112 (by decide) ?_
            cases hm
            exact ret_rz X nz1 hS d_Log_isPartWhole_116
set_option maxHeartbeats 4000000 in
set_option maxRecDepth 100000 in
theorem k_m_Log_isKeptWhole_L21 {p : Program} {l : Launch} {e : Env} {s : State} {m : MethodId} {args : Array Value} {below : List Frame} {meth : Method} {c : Code} {D : va_G} {ca : Nat → ClassId} {ad : Nat → Nat} {A : Nat → Prop} (X : Cx p s m args meth c R_Log b_Log_isKeptWhole 5 (some .boolean) D ca) (hA : ∀ q, s.heap.size ≤ q → A q) {g : St_Log} : ∀ (n : Nat) (v1 : Int32) (v2 : Int32) (v3 : Int32) (res : Int32), m_Log_isKeptWhole_L21 g n v1 v2 v3 = some res → ∀ (H : Heap) (locs : List Loc), va_P D classes (wl_Log ca ad g) H → va_D (fun _ => True) (wl_Log ca ad g) → va_S A s.heap H locs → ∀ ls : Array Slot, lv_has ls 5 [(0, .ref (ad 0)), (1, .int v1), (2, .int v2), (3, .int v3)] → W p l e (RM 5 119) s m args below meth c H locs 0 0 (MQ below (QRr (.int res) A) args s 0 0 A) (F0 m 21 ls []) := by
  obtain ⟨hx, hb, hml, hr, hown, hts, hK, hlocks⟩ := id X
  intro n
  induction n with
  | zero =>
    intro v1 v2 v3 res hm
    rw [m_Log_isKeptWhole_L21] at hm
    cases hm
  | succ n ih =>
    intro v1 v2 v3 res hm H locs hP hD hS ls hl
    rw [m_Log_isKeptWhole_L21] at hm
    refine lv_iload_n hx hb d_Log_isKeptWhole_21 rfl (lv_at hl 3 rfl) ?_
    refine lv_aload_n hx hb d_Log_isKeptWhole_22 rfl (lv_at hl 0 rfl) ?_
    refine va_get (D := D) (ci := 5) (v := .ref (ad 21)) (C := R_Log) (T := F_Log) (N := 15) hx hb hts i_Log hown hK hP 0 rfl rfl 8 (by decide) (hts _ wf_Log_58) (fun _ h9 => h9) rfl d_Log_isKeptWhole_23 ?_
    refine lv_iload_n hx hb d_Log_isKeptWhole_26 rfl (lv_at hl 1 rfl) ?_
    obtain ⟨q4, hq4, hm⟩ := ob hm
    refine inv_rV (C := R_Marks) (As := [.int v1]) (rest := [.int v3]) (v := .int q4) X (c_Marks_countAt l D ca (ad 21) (ad 22) (ad 23) (ad 24) (ad 25) (ad 26) _ (g_kept g) v1 q4 hq4) g_Log_101 yo_Marks_countAt ⟨Nat.le_of_ble_eq_true rfl, Nat.le_of_ble_eq_true rfl⟩ hl hP hD [21, 22, 23, 24, 25, 26] rfl rfl (ci := 4) rfl rfl hS hA rfl rfl (Nat.le_of_ble_eq_true rfl) ⟨Nat.zero_le _, Nat.zero_le _⟩ d_Log_isKeptWhole_27 (fun H locs hP hS => ?_)
    refine lv_icmp_ge (tgt := 85) hx hb d_Log_isKeptWhole_30 (by decide) (fun c5 => ?_) (fun c5 => ?_)
    · replace hm := ip c5 hm
      refine lv_iconst (v := 1) hx hb d_Log_isKeptWhole_85 (by decide) ?_
      cases hm
      exact ret_rz X nz1 hS d_Log_isKeptWhole_86
    · replace hm := ineg c5 hm
      refine lv_aload_n hx hb d_Log_isKeptWhole_33 rfl (lv_at hl 0 rfl) ?_
      refine va_get (D := D) (ci := 5) (v := .ref (ad 15)) (C := R_Log) (T := F_Log) (N := 15) hx hb hts i_Log hown hK hP 0 rfl rfl 7 (by decide) (hts _ wf_Log_51) (fun _ h9 => h9) rfl d_Log_isKeptWhole_34 ?_
      refine lv_aload_n hx hb d_Log_isKeptWhole_37 rfl (lv_at hl 0 rfl) ?_
      refine va_get (D := D) (ci := 5) (v := .ref (ad 21)) (C := R_Log) (T := F_Log) (N := 15) hx hb hts i_Log hown hK hP 0 rfl rfl 8 (by decide) (hts _ wf_Log_58) (fun _ h9 => h9) rfl d_Log_isKeptWhole_38 ?_
      refine lv_iload_n hx hb d_Log_isKeptWhole_41 rfl (lv_at hl 1 rfl) ?_
      refine lv_iload_n hx hb d_Log_isKeptWhole_42 rfl (lv_at hl 3 rfl) ?_
      obtain ⟨q6, hq6, hm⟩ := ob hm
      refine inv_rV (C := R_Marks) (As := [.int v1, .int v3]) (rest := [.ref (ad 15)]) (v := .int q6) X (c_Marks_partAt l D ca (ad 21) (ad 22) (ad 23) (ad 24) (ad 25) (ad 26) _ (g_kept g) v1 v3 q6 hq6) g_Log_121 yo_Marks_partAt ⟨Nat.le_of_ble_eq_true rfl, Nat.le_of_ble_eq_true rfl⟩ hl hP hD [21, 22, 23, 24, 25, 26] rfl rfl (ci := 4) rfl rfl hS hA rfl rfl (Nat.le_of_ble_eq_true rfl) ⟨Nat.zero_le _, Nat.zero_le _⟩ d_Log_isKeptWhole_43 (fun H locs hP hS => ?_)
      obtain ⟨q7, hq7, hm⟩ := ob hm
      refine inv_rV (C := R_Parts) (As := [.int q6]) (rest := []) (v := .int q7) X (c_Parts_find l D ca (ad 15) (ad 16) (ad 17) (ad 18) (ad 19) (ad 20) _ (g_parts g) q6 q7 hq7) g_Log_186 yo_Parts_find ⟨Nat.le_of_ble_eq_true rfl, Nat.le_of_ble_eq_true rfl⟩ hl hP hD [15, 16, 17, 18, 19, 20] rfl rfl (ci := 3) rfl rfl hS hA rfl rfl (Nat.le_of_ble_eq_true rfl) ⟨Nat.zero_le _, Nat.zero_le _⟩ d_Log_isKeptWhole_46 (fun H locs hP hS => ?_)
      refine lv_istore (lv' := [(4, .int q7), (0, .ref (ad 0)), (1, .int v1), (2, .int v2), (3, .int v3)]) hx hb d_Log_isKeptWhole_49 hl (by decide) rfl (fun ls hl => ?_)
      refine lv_iload hx hb d_Log_isKeptWhole_51 (lv_at hl 0 rfl) ?_
      refine lv_iconst (v := (-1)) hx hb d_Log_isKeptWhole_53 (by decide) ?_
      refine lv_icmp_eq (tgt := 77) hx hb d_Log_isKeptWhole_54 (by decide) (fun c8 => ?_) (fun c8 => ?_)
      · replace hm := ip c8 hm
        refine lv_iconst (v := 0) hx hb d_Log_isKeptWhole_77 (by decide) ?_
        cases hm
        exact ret_rz X nz0 hS d_Log_isKeptWhole_78
      · replace hm := ineg c8 hm
        refine lv_aload_n hx hb d_Log_isKeptWhole_57 rfl (lv_at hl 1 rfl) ?_
        refine lv_iload_n hx hb d_Log_isKeptWhole_58 rfl (lv_at hl 3 rfl) ?_
        refine lv_iload_n hx hb d_Log_isKeptWhole_59 rfl (lv_at hl 4 rfl) ?_
        refine lv_iload hx hb d_Log_isKeptWhole_60 (lv_at hl 0 rfl) ?_
        obtain ⟨q9, hq9, hm⟩ := ob hm
        refine inv_rVa (C := R_Log) (As := [.int v2, .int v3, .int q7]) (rest := []) (v := .int q9) X (c_Log_isEntryRight l D ca ad _ g v2 v3 q7 q9 hq9) g_Log_373 yo_Log_isEntryRight ⟨Nat.le_of_ble_eq_true rfl, Nat.le_of_ble_eq_true rfl⟩ hl hP hD (ci := 5) rfl rfl hS hA rfl rfl (Nat.le_of_ble_eq_true rfl) ⟨Nat.zero_le _, Nat.zero_le _⟩ d_Log_isKeptWhole_62 (fun H locs hP hS => ?_)
        refine lv_if_eq (tgt := 77) hx hb d_Log_isKeptWhole_65 (by decide) (fun c10 => ?_) (fun c10 => ?_)
        · replace hm := ip c10 hm
          refine lv_iconst (v := 0) hx hb d_Log_isKeptWhole_77 (by decide) ?_
          cases hm
          exact ret_rz X nz0 hS d_Log_isKeptWhole_78
        · replace hm := ineg c10 hm
          refine lv_aload_n hx hb d_Log_isKeptWhole_68 rfl (lv_at hl 1 rfl) ?_
          refine lv_iload hx hb d_Log_isKeptWhole_69 (lv_at hl 0 rfl) ?_
          obtain ⟨q11, hq11, hm⟩ := ob hm
          refine inv_rVa (C := R_Log) (As := [.int q7]) (rest := []) (v := .int q11) X (c_Log_isPartWhole l D ca ad _ g q7 q11 hq11) g_Log_201 yo_Log_isPartWhole ⟨Nat.le_of_ble_eq_true rfl, Nat.le_of_ble_eq_true rfl⟩ hl hP hD (ci := 5) rfl rfl hS hA rfl rfl (Nat.le_of_ble_eq_true rfl) ⟨Nat.zero_le _, Nat.zero_le _⟩ d_Log_isKeptWhole_71 (fun H locs hP hS => ?_)
          refine lv_if_ne (tgt := 79) hx hb d_Log_isKeptWhole_74 (by decide) (fun c12 => ?_) (fun c12 => ?_)
          · replace hm := ineg c12 hm
            refine lv_iinc (v := (v3 + 1)) (lv' := [(3, .int (v3 + 1)), (4, .int q7), (0, .ref (ad 0)), (1, .int v1), (2, .int v2)]) hx hb d_Log_isKeptWhole_79 hl (k := 4) rfl rfl (by decide) rfl (fun ls hl => ?_)
            refine lv_goto (tgt := 21) hx hb d_Log_isKeptWhole_82 (by decide) ?_
            exact ih  v1 v2 (v3 + 1) _ hm _ _ hP hD hS ls (lv_sub hl [2, 3, 4, 0] rfl)
          · replace hm := ip c12 hm
            refine lv_iconst (v := 0) hx hb d_Log_isKeptWhole_77 (by decide) ?_
            cases hm
            exact ret_rz X nz0 hS d_Log_isKeptWhole_78
set_option maxHeartbeats 4000000 in
set_option maxRecDepth 100000 in
theorem c_Log_isKeptWhole (l : Launch) (D : va_G) (ca : Nat → ClassId) (ad : Nat → Nat) (sz : Nat) (g : St_Log) (p1 : Int32) (res : Int32) (hm : m_Log_isKeptWhole g p1 = some res) : Met l y_Log_isKeptWhole (cws y_Log_isKeptWhole b_Log_isKeptWhole 5 (some .boolean)) (RM 5 119) (PreW D ca (wl_Log ca ad g) [.ref (ad 0), .int p1] sz) (QRr (.int res) (va_A [] sz)) 0 0 (va_A [] sz) := by
  refine met_ofR (own := R_Log) (by decide) rfl (Nat.le_of_ble_eq_true rfl) ?_
  intro p e s m below meth c A X hA hP hD ls hl
  obtain ⟨hx, hb, hml, hr, hown, hts, hK, hlocks⟩ := id X
  have hS : va_S A s.heap s.heap [] := va_S.rf
  have hl : lv_has ls 5 [(0, .ref (ad 0)), (1, .int p1)] := hl
  unfold m_Log_isKeptWhole at hm
  refine lv_aload_n hx hb d_Log_isKeptWhole_0 rfl (lv_at hl 0 rfl) ?_
  refine lv_iload_n hx hb d_Log_isKeptWhole_1 rfl (lv_at hl 1 rfl) ?_
  obtain ⟨q1, hq1, hm⟩ := ob hm
  refine inv_rVa (C := R_Log) (As := [.int p1]) (rest := []) (v := .int q1) X (c_Log_isKeptAsFound l D ca ad _ g p1 q1 hq1) g_Log_217 yo_Log_isKeptAsFound ⟨Nat.le_of_ble_eq_true rfl, Nat.le_of_ble_eq_true rfl⟩ hl hP hD (ci := 5) rfl rfl hS hA rfl rfl (Nat.le_of_ble_eq_true rfl) ⟨Nat.zero_le _, Nat.zero_le _⟩ d_Log_isKeptWhole_2 (fun H locs hP hS => ?_)
  refine lv_if_ne (tgt := 10) hx hb d_Log_isKeptWhole_5 (by decide) (fun c2 => ?_) (fun c2 => ?_)
  · replace hm := ineg c2 hm
    refine lv_aload_n hx hb d_Log_isKeptWhole_10 rfl (lv_at hl 0 rfl) ?_
    refine va_get (D := D) (ci := 5) (v := .ref (ad 21)) (C := R_Log) (T := F_Log) (N := 15) hx hb hts i_Log hown hK hP 0 rfl rfl 8 (by decide) (hts _ wf_Log_58) (fun _ h9 => h9) rfl d_Log_isKeptWhole_11 ?_
    refine lv_iload_n hx hb d_Log_isKeptWhole_14 rfl (lv_at hl 1 rfl) ?_
    obtain ⟨q3, hq3, hm⟩ := ob hm
    refine inv_rV (C := R_Marks) (As := [.int p1]) (rest := []) (v := .int q3) X (c_Marks_rowAt l D ca (ad 21) (ad 22) (ad 23) (ad 24) (ad 25) (ad 26) _ (g_kept g) p1 q3 hq3) g_Log_216 yo_Marks_rowAt ⟨Nat.le_of_ble_eq_true rfl, Nat.le_of_ble_eq_true rfl⟩ hl hP hD [21, 22, 23, 24, 25, 26] rfl rfl (ci := 4) rfl rfl hS hA rfl rfl (Nat.le_of_ble_eq_true rfl) ⟨Nat.zero_le _, Nat.zero_le _⟩ d_Log_isKeptWhole_15 (fun H locs hP hS => ?_)
    refine lv_istore_n (lv' := [(2, .int q3), (0, .ref (ad 0)), (1, .int p1)]) hx hb d_Log_isKeptWhole_18 rfl hl (by decide) rfl (fun ls hl => ?_)
    refine lv_iconst (v := 0) hx hb d_Log_isKeptWhole_19 (by decide) ?_
    refine lv_istore_n (lv' := [(3, .int 0), (2, .int q3), (0, .ref (ad 0)), (1, .int p1)]) hx hb d_Log_isKeptWhole_20 rfl hl (by decide) rfl (fun ls hl => ?_)
    exact k_m_Log_isKeptWhole_L21 X hA FU  p1 q3 0 _ hm _ _ hP hD hS ls (lv_sub hl [2, 3, 1, 0] rfl)
  · replace hm := ip c2 hm
    refine lv_iconst (v := 0) hx hb d_Log_isKeptWhole_8 (by decide) ?_
    cases hm
    exact ret_rz X nz0 hS d_Log_isKeptWhole_9
set_option maxHeartbeats 4000000 in
set_option maxRecDepth 100000 in
theorem k_m_Log_usable_L20 {p : Program} {l : Launch} {e : Env} {s : State} {m : MethodId} {args : Array Value} {below : List Frame} {meth : Method} {c : Code} {D : va_G} {ca : Nat → ClassId} {ad : Nat → Nat} {A : Nat → Prop} (X : Cx p s m args meth c R_Log b_Log_usable 2 (some .int) D ca) (hA : ∀ q, s.heap.size ≤ q → A q) {g : St_Log} : ∀ (n : Nat) (v1 : Int32) (res : Int32), m_Log_usable_L20 g n v1 = some res → ∀ (H : Heap) (locs : List Loc), va_P D classes (wl_Log ca ad g) H → va_D (fun _ => True) (wl_Log ca ad g) → va_S A s.heap H locs → ∀ ls : Array Slot, lv_has ls 2 [(0, .ref (ad 0)), (1, .int v1)] → W p l e (RM 6 143) s m args below meth c H locs 0 0 (MQ below (QRr (.int res) A) args s 0 0 A) (F0 m 20 ls []) := by
  obtain ⟨hx, hb, hml, hr, hown, hts, hK, hlocks⟩ := id X
  intro n
  induction n with
  | zero =>
    intro v1 res hm
    rw [m_Log_usable_L20] at hm
    cases hm
  | succ n ih =>
    intro v1 res hm H locs hP hD hS ls hl
    rw [m_Log_usable_L20] at hm
    refine lv_iload_n hx hb d_Log_usable_20 rfl (lv_at hl 1 rfl) ?_
    refine lv_if_lt (tgt := 47) hx hb d_Log_usable_21 (by decide) (fun c3 => ?_) (fun c3 => ?_)
    · replace hm := ip c3 hm
      refine lv_iconst (v := (-1)) hx hb d_Log_usable_47 (by decide) ?_
      cases hm
      exact ret_ri X hS d_Log_usable_48
    · replace hm := ineg c3 hm
      refine lv_aload_n hx hb d_Log_usable_24 rfl (lv_at hl 0 rfl) ?_
      refine lv_iload_n hx hb d_Log_usable_25 rfl (lv_at hl 1 rfl) ?_
      obtain ⟨q4, hq4, hm⟩ := ob hm
      refine inv_rVa (C := R_Log) (As := [.int v1]) (rest := []) (v := .int q4) X (c_Log_isKeptWhole l D ca ad _ g v1 q4 hq4) g_Log_169 yo_Log_isKeptWhole ⟨Nat.le_of_ble_eq_true rfl, Nat.le_of_ble_eq_true rfl⟩ hl hP hD (ci := 5) rfl rfl hS hA rfl rfl (Nat.le_of_ble_eq_true rfl) ⟨Nat.zero_le _, Nat.zero_le _⟩ d_Log_usable_26 (fun H locs hP hS => ?_)
      refine lv_if_eq (tgt := 41) hx hb d_Log_usable_29 (by decide) (fun c5 => ?_) (fun c5 => ?_)
      · replace hm := ip c5 hm
        refine lv_iinc (v := (v1 + (-1))) (lv' := [(1, .int (v1 + (-1))), (0, .ref (ad 0))]) hx hb d_Log_usable_41 hl (k := 1) rfl rfl (by decide) rfl (fun ls hl => ?_)
        refine lv_goto (tgt := 20) hx hb d_Log_usable_44 (by decide) ?_
        exact ih  (v1 + (-1)) _ hm _ _ hP hD hS ls (lv_sub hl [1, 0] rfl)
      · replace hm := ineg c5 hm
        refine lv_aload_n hx hb d_Log_usable_32 rfl (lv_at hl 0 rfl) ?_
        refine va_get (D := D) (ci := 5) (v := .ref (ad 21)) (C := R_Log) (T := F_Log) (N := 15) hx hb hts i_Log hown hK hP 0 rfl rfl 8 (by decide) (hts _ wf_Log_58) (fun _ h9 => h9) rfl d_Log_usable_33 ?_
        refine lv_iload_n hx hb d_Log_usable_36 rfl (lv_at hl 1 rfl) ?_
        obtain ⟨q6, hq6, hm⟩ := ob hm
        refine inv_rV (C := R_Marks) (As := [.int v1]) (rest := []) (v := .int q6) X (c_Marks_numberAt l D ca (ad 21) (ad 22) (ad 23) (ad 24) (ad 25) (ad 26) _ (g_kept g) v1 q6 hq6) g_Log_172 yo_Marks_numberAt ⟨Nat.le_of_ble_eq_true rfl, Nat.le_of_ble_eq_true rfl⟩ hl hP hD [21, 22, 23, 24, 25, 26] rfl rfl (ci := 4) rfl rfl hS hA rfl rfl (Nat.le_of_ble_eq_true rfl) ⟨Nat.zero_le _, Nat.zero_le _⟩ d_Log_usable_37 (fun H locs hP hS => ?_)
        cases hm
        exact ret_ri X hS d_Log_usable_40
set_option maxHeartbeats 4000000 in
set_option maxRecDepth 100000 in
theorem c_Log_usable (l : Launch) (D : va_G) (ca : Nat → ClassId) (ad : Nat → Nat) (sz : Nat) (g : St_Log)  (res : Int32) (hm : m_Log_usable g = some res) : Met l y_Log_usable (cws y_Log_usable b_Log_usable 2 (some .int)) (RM 6 143) (PreW D ca (wl_Log ca ad g) [.ref (ad 0)] sz) (QRr (.int res) (va_A [] sz)) 0 0 (va_A [] sz) := by
  refine met_ofR (own := R_Log) (by decide) rfl (Nat.le_of_ble_eq_true rfl) ?_
  intro p e s m below meth c A X hA hP hD ls hl
  obtain ⟨hx, hb, hml, hr, hown, hts, hK, hlocks⟩ := id X
  have hS : va_S A s.heap s.heap [] := va_S.rf
  have hl : lv_has ls 2 [(0, .ref (ad 0))] := hl
  unfold m_Log_usable at hm
  refine lv_aload_n hx hb d_Log_usable_0 rfl (lv_at hl 0 rfl) ?_
  refine va_get (D := D) (ci := 5) (v := .int (g_isOpen g)) (C := R_Log) (T := F_Log) (N := 15) hx hb hts i_Log hown hK hP 0 rfl rfl 14 (by decide) (hts _ wf_Log_69) (fun _ h9 => h9) rfl d_Log_usable_1 ?_
  refine lv_if_ne (tgt := 10) hx hb d_Log_usable_4 (by decide) (fun c1 => ?_) (fun c1 => ?_)
  · replace hm := ineg c1 hm
    refine lv_aload_n hx hb d_Log_usable_10 rfl (lv_at hl 0 rfl) ?_
    refine va_get (D := D) (ci := 5) (v := .ref (ad 21)) (C := R_Log) (T := F_Log) (N := 15) hx hb hts i_Log hown hK hP 0 rfl rfl 8 (by decide) (hts _ wf_Log_58) (fun _ h9 => h9) rfl d_Log_usable_11 ?_
    obtain ⟨q2, hq2, hm⟩ := ob hm
    refine inv_rV (C := R_Marks) (As := []) (rest := []) (v := .int q2) X (c_Marks_size l D ca (ad 21) (ad 22) (ad 23) (ad 24) (ad 25) (ad 26) _ (g_kept g) q2 hq2) g_Log_88 yo_Marks_size ⟨Nat.le_of_ble_eq_true rfl, Nat.le_of_ble_eq_true rfl⟩ hl hP hD [21, 22, 23, 24, 25, 26] rfl rfl (ci := 4) rfl rfl hS hA rfl rfl (Nat.le_of_ble_eq_true rfl) ⟨Nat.zero_le _, Nat.zero_le _⟩ d_Log_usable_14 (fun H locs hP hS => ?_)
    refine lv_iconst (v := 1) hx hb d_Log_usable_17 (by decide) ?_
    refine lv_isub hx hb d_Log_usable_18 ?_
    refine lv_istore_n (lv' := [(1, .int (q2 - 1)), (0, .ref (ad 0))]) hx hb d_Log_usable_19 rfl hl (by decide) rfl (fun ls hl => ?_)
    exact k_m_Log_usable_L20 X hA FU  (q2 - 1) _ hm _ _ hP hD hS ls (lv_sub hl [1, 0] rfl)
  · replace hm := ip c1 hm
    refine lv_bipush (v := (-3)) hx hb d_Log_usable_7 (by decide) ?_
    cases hm
    exact ret_ri X hS d_Log_usable_9
set_option maxHeartbeats 4000000 in
set_option maxRecDepth 100000 in
theorem c_Log_tableOf (l : Launch) (D : va_G) (ca : Nat → ClassId) (ad : Nat → Nat) (sz : Nat) (g : St_Log) (p1 : Int32) (res : Nat) (hm : m_Log_tableOf g p1 = some res) : Met l y_Log_tableOf (cws y_Log_tableOf b_Log_tableOf 2 (some (.object "MarkLog$Marks"))) (RM 3 64) (PreW D ca (wl_Log ca ad g) [.ref (ad 0), .int p1] sz) (QRr (tb_Log_tableOf ad res) (va_A [] sz)) 0 0 (va_A [] sz) := by
  refine met_ofR (own := R_Log) (by decide) rfl (Nat.le_of_ble_eq_true rfl) ?_
  intro p e s m below meth c A X hA hP hD ls hl
  obtain ⟨hx, hb, hml, hr, hown, hts, hK, hlocks⟩ := id X
  have hS : va_S A s.heap s.heap [] := va_S.rf
  have hl : lv_has ls 2 [(0, .ref (ad 0)), (1, .int p1)] := hl
  unfold m_Log_tableOf at hm
  refine lv_aload_n hx hb d_Log_tableOf_0 rfl (lv_at hl 0 rfl) ?_
  refine va_get (D := D) (ci := 5) (v := .ref (ad 21)) (C := R_Log) (T := F_Log) (N := 15) hx hb hts i_Log hown hK hP 0 rfl rfl 8 (by decide) (hts _ wf_Log_58) (fun _ h9 => h9) rfl d_Log_tableOf_1 ?_
  refine lv_iload_n hx hb d_Log_tableOf_4 rfl (lv_at hl 1 rfl) ?_
  obtain ⟨q1, hq1, hm⟩ := ob hm
  refine inv_rV (C := R_Marks) (As := [.int p1]) (rest := []) (v := .int q1) X (c_Marks_find l D ca (ad 21) (ad 22) (ad 23) (ad 24) (ad 25) (ad 26) _ (g_kept g) p1 q1 hq1) g_Log_98 yo_Marks_find ⟨Nat.le_of_ble_eq_true rfl, Nat.le_of_ble_eq_true rfl⟩ hl hP hD [21, 22, 23, 24, 25, 26] rfl rfl (ci := 4) rfl rfl hS hA rfl rfl (Nat.le_of_ble_eq_true rfl) ⟨Nat.zero_le _, Nat.zero_le _⟩ d_Log_tableOf_5 (fun H locs hP hS => ?_)
  refine lv_iconst (v := (-1)) hx hb d_Log_tableOf_8 (by decide) ?_
  refine lv_icmp_eq (tgt := 17) hx hb d_Log_tableOf_9 (by decide) (fun c2 => ?_) (fun c2 => ?_)
  · replace hm := ip c2 hm
    refine lv_aload_n hx hb d_Log_tableOf_17 rfl (lv_at hl 0 rfl) ?_
    refine va_get (D := D) (ci := 5) (v := .ref (ad 27)) (C := R_Log) (T := F_Log) (N := 15) hx hb hts i_Log hown hK hP 0 rfl rfl 9 (by decide) (hts _ wf_Log_62) (fun _ h9 => h9) rfl d_Log_tableOf_18 ?_
    refine lv_iload_n hx hb d_Log_tableOf_21 rfl (lv_at hl 1 rfl) ?_
    obtain ⟨q3, hq3, hm⟩ := ob hm
    refine inv_rV (C := R_Marks) (As := [.int p1]) (rest := []) (v := .int q3) X (c_Marks_find l D ca (ad 27) (ad 28) (ad 29) (ad 30) (ad 31) (ad 32) _ (g_made g) p1 q3 hq3) g_Log_98 yo_Marks_find ⟨Nat.le_of_ble_eq_true rfl, Nat.le_of_ble_eq_true rfl⟩ hl hP hD [27, 28, 29, 30, 31, 32] rfl rfl (ci := 4) rfl rfl hS hA rfl rfl (Nat.le_of_ble_eq_true rfl) ⟨Nat.zero_le _, Nat.zero_le _⟩ d_Log_tableOf_22 (fun H locs hP hS => ?_)
    refine lv_iconst (v := (-1)) hx hb d_Log_tableOf_25 (by decide) ?_
    refine lv_icmp_eq (tgt := 34) hx hb d_Log_tableOf_26 (by decide) (fun c4 => ?_) (fun c4 => ?_)
    · replace hm := ip c4 hm
      refine lv_null hx hb d_Log_tableOf_34 ?_
      cases hm
      exact ret_ra X (Or.inl ⟨_, rfl⟩) (Or.inl rfl) hS d_Log_tableOf_35
    · replace hm := ineg c4 hm
      refine lv_aload_n hx hb d_Log_tableOf_29 rfl (lv_at hl 0 rfl) ?_
      refine va_get (D := D) (ci := 5) (v := .ref (ad 27)) (C := R_Log) (T := F_Log) (N := 15) hx hb hts i_Log hown hK hP 0 rfl rfl 9 (by decide) (hts _ wf_Log_62) (fun _ h9 => h9) rfl d_Log_tableOf_30 ?_
      cases hm
      exact ret_ra X (Or.inl ⟨_, rfl⟩) (Or.inr ⟨_, rfl⟩) hS d_Log_tableOf_33
  · replace hm := ineg c2 hm
    refine lv_aload_n hx hb d_Log_tableOf_12 rfl (lv_at hl 0 rfl) ?_
    refine va_get (D := D) (ci := 5) (v := .ref (ad 21)) (C := R_Log) (T := F_Log) (N := 15) hx hb hts i_Log hown hK hP 0 rfl rfl 8 (by decide) (hts _ wf_Log_58) (fun _ h9 => h9) rfl d_Log_tableOf_13 ?_
    cases hm
    exact ret_ra X (Or.inl ⟨_, rfl⟩) (Or.inr ⟨_, rfl⟩) hS d_Log_tableOf_16
set_option maxHeartbeats 4000000 in
set_option maxRecDepth 100000 in
theorem k_m_Log_isMadeWhole_L2 {p : Program} {l : Launch} {e : Env} {s : State} {m : MethodId} {args : Array Value} {below : List Frame} {meth : Method} {c : Code} {D : va_G} {ca : Nat → ClassId} {ad : Nat → Nat} {A : Nat → Prop} (X : Cx p s m args meth c R_Log b_Log_isMadeWhole 4 (some .boolean) D ca) (hA : ∀ q, s.heap.size ≤ q → A q) {g : St_Log} : ∀ (n : Nat) (v1 : Int32) (v2 : Int32) (res : Int32), m_Log_isMadeWhole_L2 g n v1 v2 = some res → ∀ (H : Heap) (locs : List Loc), va_P D classes (wl_Log ca ad g) H → va_D (fun _ => True) (wl_Log ca ad g) → va_S A s.heap H locs → ∀ ls : Array Slot, lv_has ls 4 [(0, .ref (ad 0)), (1, .int v1), (2, .int v2)] → W p l e (RM 5 117) s m args below meth c H locs 0 0 (MQ below (QRr (.int res) A) args s 0 0 A) (F0 m 2 ls []) := by
  obtain ⟨hx, hb, hml, hr, hown, hts, hK, hlocks⟩ := id X
  intro n
  induction n with
  | zero =>
    intro v1 v2 res hm
    rw [m_Log_isMadeWhole_L2] at hm
    cases hm
  | succ n ih =>
    intro v1 v2 res hm H locs hP hD hS ls hl
    rw [m_Log_isMadeWhole_L2] at hm
    refine lv_iload_n hx hb d_Log_isMadeWhole_2 rfl (lv_at hl 2 rfl) ?_
    refine lv_aload_n hx hb d_Log_isMadeWhole_3 rfl (lv_at hl 0 rfl) ?_
    refine va_get (D := D) (ci := 5) (v := .ref (ad 27)) (C := R_Log) (T := F_Log) (N := 15) hx hb hts i_Log hown hK hP 0 rfl rfl 9 (by decide) (hts _ wf_Log_62) (fun _ h9 => h9) rfl d_Log_isMadeWhole_4 ?_
    refine lv_iload_n hx hb d_Log_isMadeWhole_7 rfl (lv_at hl 1 rfl) ?_
    obtain ⟨q1, hq1, hm⟩ := ob hm
    refine inv_rV (C := R_Marks) (As := [.int v1]) (rest := [.int v2]) (v := .int q1) X (c_Marks_countAt l D ca (ad 27) (ad 28) (ad 29) (ad 30) (ad 31) (ad 32) _ (g_made g) v1 q1 hq1) g_Log_101 yo_Marks_countAt ⟨Nat.le_of_ble_eq_true rfl, Nat.le_of_ble_eq_true rfl⟩ hl hP hD [27, 28, 29, 30, 31, 32] rfl rfl (ci := 4) rfl rfl hS hA rfl rfl (Nat.le_of_ble_eq_true rfl) ⟨Nat.zero_le _, Nat.zero_le _⟩ d_Log_isMadeWhole_8 (fun H locs hP hS => ?_)
    refine lv_icmp_ge (tgt := 52) hx hb d_Log_isMadeWhole_11 (by decide) (fun c2 => ?_) (fun c2 => ?_)
    · replace hm := ip c2 hm
      refine lv_iconst (v := 1) hx hb d_Log_isMadeWhole_52 (by decide) ?_
      cases hm
      exact ret_rz X nz1 hS d_Log_isMadeWhole_53
    · replace hm := ineg c2 hm
      refine lv_aload_n hx hb d_Log_isMadeWhole_14 rfl (lv_at hl 0 rfl) ?_
      refine va_get (D := D) (ci := 5) (v := .ref (ad 15)) (C := R_Log) (T := F_Log) (N := 15) hx hb hts i_Log hown hK hP 0 rfl rfl 7 (by decide) (hts _ wf_Log_51) (fun _ h9 => h9) rfl d_Log_isMadeWhole_15 ?_
      refine lv_aload_n hx hb d_Log_isMadeWhole_18 rfl (lv_at hl 0 rfl) ?_
      refine va_get (D := D) (ci := 5) (v := .ref (ad 27)) (C := R_Log) (T := F_Log) (N := 15) hx hb hts i_Log hown hK hP 0 rfl rfl 9 (by decide) (hts _ wf_Log_62) (fun _ h9 => h9) rfl d_Log_isMadeWhole_19 ?_
      refine lv_iload_n hx hb d_Log_isMadeWhole_22 rfl (lv_at hl 1 rfl) ?_
      refine lv_iload_n hx hb d_Log_isMadeWhole_23 rfl (lv_at hl 2 rfl) ?_
      obtain ⟨q3, hq3, hm⟩ := ob hm
      refine inv_rV (C := R_Marks) (As := [.int v1, .int v2]) (rest := [.ref (ad 15)]) (v := .int q3) X (c_Marks_partAt l D ca (ad 27) (ad 28) (ad 29) (ad 30) (ad 31) (ad 32) _ (g_made g) v1 v2 q3 hq3) g_Log_121 yo_Marks_partAt ⟨Nat.le_of_ble_eq_true rfl, Nat.le_of_ble_eq_true rfl⟩ hl hP hD [27, 28, 29, 30, 31, 32] rfl rfl (ci := 4) rfl rfl hS hA rfl rfl (Nat.le_of_ble_eq_true rfl) ⟨Nat.zero_le _, Nat.zero_le _⟩ d_Log_isMadeWhole_24 (fun H locs hP hS => ?_)
      obtain ⟨q4, hq4, hm⟩ := ob hm
      refine inv_rV (C := R_Parts) (As := [.int q3]) (rest := []) (v := .int q4) X (c_Parts_find l D ca (ad 15) (ad 16) (ad 17) (ad 18) (ad 19) (ad 20) _ (g_parts g) q3 q4 hq4) g_Log_186 yo_Parts_find ⟨Nat.le_of_ble_eq_true rfl, Nat.le_of_ble_eq_true rfl⟩ hl hP hD [15, 16, 17, 18, 19, 20] rfl rfl (ci := 3) rfl rfl hS hA rfl rfl (Nat.le_of_ble_eq_true rfl) ⟨Nat.zero_le _, Nat.zero_le _⟩ d_Log_isMadeWhole_27 (fun H locs hP hS => ?_)
      refine lv_istore_n (lv' := [(3, .int q4), (0, .ref (ad 0)), (1, .int v1), (2, .int v2)]) hx hb d_Log_isMadeWhole_30 rfl hl (by decide) rfl (fun ls hl => ?_)
      refine lv_iload_n hx hb d_Log_isMadeWhole_31 rfl (lv_at hl 0 rfl) ?_
      refine lv_iconst (v := (-1)) hx hb d_Log_isMadeWhole_32 (by decide) ?_
      refine lv_icmp_eq (tgt := 44) hx hb d_Log_isMadeWhole_33 (by decide) (fun c5 => ?_) (fun c5 => ?_)
      · replace hm := ip c5 hm
        refine lv_iconst (v := 0) hx hb d_Log_isMadeWhole_44 (by decide) ?_
        cases hm
        exact ret_rz X nz0 hS d_Log_isMadeWhole_45
      · replace hm := ineg c5 hm
        refine lv_aload_n hx hb d_Log_isMadeWhole_36 rfl (lv_at hl 1 rfl) ?_
        refine lv_iload_n hx hb d_Log_isMadeWhole_37 rfl (lv_at hl 0 rfl) ?_
        obtain ⟨q6, hq6, hm⟩ := ob hm
        refine inv_rVa (C := R_Log) (As := [.int q4]) (rest := []) (v := .int q6) X (c_Log_isPartWhole l D ca ad _ g q4 q6 hq6) g_Log_201 yo_Log_isPartWhole ⟨Nat.le_of_ble_eq_true rfl, Nat.le_of_ble_eq_true rfl⟩ hl hP hD (ci := 5) rfl rfl hS hA rfl rfl (Nat.le_of_ble_eq_true rfl) ⟨Nat.zero_le _, Nat.zero_le _⟩ d_Log_isMadeWhole_38 (fun H locs hP hS => ?_)
        refine lv_if_ne (tgt := 46) hx hb d_Log_isMadeWhole_41 (by decide) (fun c7 => ?_) (fun c7 => ?_)
        · replace hm := ineg c7 hm
          refine lv_iinc (v := (v2 + 1)) (lv' := [(2, .int (v2 + 1)), (3, .int q4), (0, .ref (ad 0)), (1, .int v1)]) hx hb d_Log_isMadeWhole_46 hl (k := 3) rfl rfl (by decide) rfl (fun ls hl => ?_)
          refine lv_goto (tgt := 2) hx hb d_Log_isMadeWhole_49 (by decide) ?_
          exact ih  v1 (v2 + 1) _ hm _ _ hP hD hS ls (lv_sub hl [2, 3, 0] rfl)
        · replace hm := ip c7 hm
          refine lv_iconst (v := 0) hx hb d_Log_isMadeWhole_44 (by decide) ?_
          cases hm
          exact ret_rz X nz0 hS d_Log_isMadeWhole_45
set_option maxHeartbeats 4000000 in
set_option maxRecDepth 100000 in
theorem c_Log_isMadeWhole (l : Launch) (D : va_G) (ca : Nat → ClassId) (ad : Nat → Nat) (sz : Nat) (g : St_Log) (p1 : Int32) (res : Int32) (hm : m_Log_isMadeWhole g p1 = some res) : Met l y_Log_isMadeWhole (cws y_Log_isMadeWhole b_Log_isMadeWhole 4 (some .boolean)) (RM 5 117) (PreW D ca (wl_Log ca ad g) [.ref (ad 0), .int p1] sz) (QRr (.int res) (va_A [] sz)) 0 0 (va_A [] sz) := by
  refine met_ofR (own := R_Log) (by decide) rfl (Nat.le_of_ble_eq_true rfl) ?_
  intro p e s m below meth c A X hA hP hD ls hl
  obtain ⟨hx, hb, hml, hr, hown, hts, hK, hlocks⟩ := id X
  have hS : va_S A s.heap s.heap [] := va_S.rf
  have hl : lv_has ls 4 [(0, .ref (ad 0)), (1, .int p1)] := hl
  unfold m_Log_isMadeWhole at hm
  refine lv_iconst (v := 0) hx hb d_Log_isMadeWhole_0 (by decide) ?_
  refine lv_istore_n (lv' := [(2, .int 0), (0, .ref (ad 0)), (1, .int p1)]) hx hb d_Log_isMadeWhole_1 rfl hl (by decide) rfl (fun ls hl => ?_)
  exact k_m_Log_isMadeWhole_L2 X hA FU  p1 0 _ hm _ _ hP hD hS ls (lv_sub hl [1, 2, 0] rfl)
set_option maxHeartbeats 4000000 in
set_option maxRecDepth 100000 in
theorem c_Log_isMarkWhole (l : Launch) (D : va_G) (ca : Nat → ClassId) (ad : Nat → Nat) (sz : Nat) (g : St_Log) (p1 : Int32) (res : Int32) (hm : m_Log_isMarkWhole g p1 = some res) : Met l y_Log_isMarkWhole (cws y_Log_isMarkWhole b_Log_isMarkWhole 3 (some .boolean)) (RM 6 143) (PreW D ca (wl_Log ca ad g) [.ref (ad 0), .int p1] sz) (QRr (.int res) (va_A [] sz)) 0 0 (va_A [] sz) := by
  refine met_ofR (own := R_Log) (by decide) rfl (Nat.le_of_ble_eq_true rfl) ?_
  intro p e s m below meth c A X hA hP hD ls hl
  obtain ⟨hx, hb, hml, hr, hown, hts, hK, hlocks⟩ := id X
  have hS : va_S A s.heap s.heap [] := va_S.rf
  have hl : lv_has ls 3 [(0, .ref (ad 0)), (1, .int p1)] := hl
  unfold m_Log_isMarkWhole at hm
  refine lv_aload_n hx hb d_Log_isMarkWhole_0 rfl (lv_at hl 0 rfl) ?_
  refine va_get (D := D) (ci := 5) (v := .ref (ad 21)) (C := R_Log) (T := F_Log) (N := 15) hx hb hts i_Log hown hK hP 0 rfl rfl 8 (by decide) (hts _ wf_Log_58) (fun _ h9 => h9) rfl d_Log_isMarkWhole_1 ?_
  refine lv_iload_n hx hb d_Log_isMarkWhole_4 rfl (lv_at hl 1 rfl) ?_
  obtain ⟨q1, hq1, hm⟩ := ob hm
  refine inv_rV (C := R_Marks) (As := [.int p1]) (rest := []) (v := .int q1) X (c_Marks_find l D ca (ad 21) (ad 22) (ad 23) (ad 24) (ad 25) (ad 26) _ (g_kept g) p1 q1 hq1) g_Log_98 yo_Marks_find ⟨Nat.le_of_ble_eq_true rfl, Nat.le_of_ble_eq_true rfl⟩ hl hP hD [21, 22, 23, 24, 25, 26] rfl rfl (ci := 4) rfl rfl hS hA rfl rfl (Nat.le_of_ble_eq_true rfl) ⟨Nat.zero_le _, Nat.zero_le _⟩ d_Log_isMarkWhole_5 (fun H locs hP hS => ?_)
  refine lv_istore_n (lv' := [(2, .int q1), (0, .ref (ad 0)), (1, .int p1)]) hx hb d_Log_isMarkWhole_8 rfl hl (by decide) rfl (fun ls hl => ?_)
  refine lv_iload_n hx hb d_Log_isMarkWhole_9 rfl (lv_at hl 0 rfl) ?_
  refine lv_iconst (v := (-1)) hx hb d_Log_isMarkWhole_10 (by decide) ?_
  refine lv_icmp_eq (tgt := 20) hx hb d_Log_isMarkWhole_11 (by decide) (fun c2 => ?_) (fun c2 => ?_)
  · replace hm := ip c2 hm
    refine lv_aload_n hx hb d_Log_isMarkWhole_20 rfl (lv_at hl 1 rfl) ?_
    refine va_get (D := D) (ci := 5) (v := .ref (ad 27)) (C := R_Log) (T := F_Log) (N := 15) hx hb hts i_Log hown hK hP 0 rfl rfl 9 (by decide) (hts _ wf_Log_62) (fun _ h9 => h9) rfl d_Log_isMarkWhole_21 ?_
    refine lv_iload_n hx hb d_Log_isMarkWhole_24 rfl (lv_at hl 2 rfl) ?_
    obtain ⟨q3, hq3, hm⟩ := ob hm
    refine inv_rV (C := R_Marks) (As := [.int p1]) (rest := []) (v := .int q3) X (c_Marks_find l D ca (ad 27) (ad 28) (ad 29) (ad 30) (ad 31) (ad 32) _ (g_made g) p1 q3 hq3) g_Log_98 yo_Marks_find ⟨Nat.le_of_ble_eq_true rfl, Nat.le_of_ble_eq_true rfl⟩ hl hP hD [27, 28, 29, 30, 31, 32] rfl rfl (ci := 4) rfl rfl hS hA rfl rfl (Nat.le_of_ble_eq_true rfl) ⟨Nat.zero_le _, Nat.zero_le _⟩ d_Log_isMarkWhole_25 (fun H locs hP hS => ?_)
    refine lv_istore_n (lv' := [(2, .int q3), (0, .ref (ad 0)), (1, .int p1)]) hx hb d_Log_isMarkWhole_28 rfl hl (by decide) rfl (fun ls hl => ?_)
    refine lv_iload_n hx hb d_Log_isMarkWhole_29 rfl (lv_at hl 0 rfl) ?_
    refine lv_iconst (v := (-1)) hx hb d_Log_isMarkWhole_30 (by decide) ?_
    refine lv_icmp_eq (tgt := 46) hx hb d_Log_isMarkWhole_31 (by decide) (fun c4 => ?_) (fun c4 => ?_)
    · replace hm := ip c4 hm
      refine lv_iconst (v := 0) hx hb d_Log_isMarkWhole_46 (by decide) ?_
      cases hm
      exact ret_rz X nz0 hS d_Log_isMarkWhole_47
    · replace hm := ineg c4 hm
      refine lv_aload_n hx hb d_Log_isMarkWhole_34 rfl (lv_at hl 1 rfl) ?_
      refine lv_iload_n hx hb d_Log_isMarkWhole_35 rfl (lv_at hl 0 rfl) ?_
      obtain ⟨q5, hq5, hm⟩ := ob hm
      refine inv_rVa (C := R_Log) (As := [.int q3]) (rest := []) (v := .int q5) X (c_Log_isMadeWhole l D ca ad _ g q3 q5 hq5) g_Log_370 yo_Log_isMadeWhole ⟨Nat.le_of_ble_eq_true rfl, Nat.le_of_ble_eq_true rfl⟩ hl hP hD (ci := 5) rfl rfl hS hA rfl rfl (Nat.le_of_ble_eq_true rfl) ⟨Nat.zero_le _, Nat.zero_le _⟩ d_Log_isMarkWhole_36 (fun H locs hP hS => ?_)
      refine lv_if_eq (tgt := 46) hx hb d_Log_isMarkWhole_39 (by decide) (fun c6 => ?_) (fun c6 => ?_)
      · replace hm := ip c6 hm
        refine lv_iconst (v := 0) hx hb d_Log_isMarkWhole_46 (by decide) ?_
        cases hm
        exact ret_rz X nz0 hS d_Log_isMarkWhole_47
      · replace hm := ineg c6 hm
        refine lv_iconst (v := 1) hx hb d_Log_isMarkWhole_42 (by decide) ?_
        refine lv_goto (tgt := 47) hx hb d_Log_isMarkWhole_43 (by decide) ?_
        cases hm
        exact ret_rz X nz1 hS d_Log_isMarkWhole_47
  · replace hm := ineg c2 hm
    refine lv_aload_n hx hb d_Log_isMarkWhole_14 rfl (lv_at hl 1 rfl) ?_
    refine lv_iload_n hx hb d_Log_isMarkWhole_15 rfl (lv_at hl 0 rfl) ?_
    obtain ⟨q7, hq7, hm⟩ := ob hm
    refine inv_rVa (C := R_Log) (As := [.int q1]) (rest := []) (v := .int q7) X (c_Log_isKeptWhole l D ca ad _ g q1 q7 hq7) g_Log_169 yo_Log_isKeptWhole ⟨Nat.le_of_ble_eq_true rfl, Nat.le_of_ble_eq_true rfl⟩ hl hP hD (ci := 5) rfl rfl hS hA rfl rfl (Nat.le_of_ble_eq_true rfl) ⟨Nat.zero_le _, Nat.zero_le _⟩ d_Log_isMarkWhole_16 (fun H locs hP hS => ?_)
    obtain ⟨z8, hm⟩ := on hm
    cases hm
    exact ret_rz X (nz z8).1 hS d_Log_isMarkWhole_19
set_option maxHeartbeats 4000000 in
set_option maxRecDepth 100000 in
theorem c_Log_whole (l : Launch) (D : va_G) (ca : Nat → ClassId) (ad : Nat → Nat) (sz : Nat) (g : St_Log) (p1 : Int32) (res : Int32) (hm : m_Log_whole g p1 = some res) : Met l y_Log_whole (cws y_Log_whole b_Log_whole 2 (some .int)) (RM 7 165) (PreW D ca (wl_Log ca ad g) [.ref (ad 0), .int p1] sz) (QRr (.int res) (va_A [] sz)) 0 0 (va_A [] sz) := by
  refine met_ofR (own := R_Log) (by decide) rfl (Nat.le_of_ble_eq_true rfl) ?_
  intro p e s m below meth c A X hA hP hD ls hl
  obtain ⟨hx, hb, hml, hr, hown, hts, hK, hlocks⟩ := id X
  have hS : va_S A s.heap s.heap [] := va_S.rf
  have hl : lv_has ls 2 [(0, .ref (ad 0)), (1, .int p1)] := hl
  unfold m_Log_whole at hm
  refine lv_aload_n hx hb d_Log_whole_0 rfl (lv_at hl 0 rfl) ?_
  refine va_get (D := D) (ci := 5) (v := .int (g_isOpen g)) (C := R_Log) (T := F_Log) (N := 15) hx hb hts i_Log hown hK hP 0 rfl rfl 14 (by decide) (hts _ wf_Log_69) (fun _ h9 => h9) rfl d_Log_whole_1 ?_
  refine lv_if_ne (tgt := 10) hx hb d_Log_whole_4 (by decide) (fun c1 => ?_) (fun c1 => ?_)
  · replace hm := ineg c1 hm
    refine lv_aload_n hx hb d_Log_whole_10 rfl (lv_at hl 0 rfl) ?_
    refine lv_iload_n hx hb d_Log_whole_11 rfl (lv_at hl 1 rfl) ?_
    obtain ⟨q2, hq2, hm⟩ := ob hm
    refine inv_rVa (C := R_Log) (As := [.int p1]) (rest := []) (v := tb_Log_tableOf ad q2) X (c_Log_tableOf l D ca ad _ g p1 q2 hq2) g_Log_175 yo_Log_tableOf ⟨Nat.le_of_ble_eq_true rfl, Nat.le_of_ble_eq_true rfl⟩ hl hP hD (ci := 5) rfl rfl hS hA rfl rfl (Nat.le_of_ble_eq_true rfl) ⟨Nat.zero_le _, Nat.zero_le _⟩ d_Log_whole_12 (fun H locs hP hS => ?_)
    by_cases c3 : q2 = 1
    · replace hm := ip c3 hm
      refine W.eq (g2 := F0 m 15 ls [.ref (ad 21)]) (by rw [c3]; rfl) ?_
      refine lv_ifnonnull (tgt := 20) hx hb d_Log_whole_15 (by decide) ?_
      refine lv_aload_n hx hb d_Log_whole_20 rfl (lv_at hl 0 rfl) ?_
      refine lv_iload_n hx hb d_Log_whole_21 rfl (lv_at hl 1 rfl) ?_
      obtain ⟨q4, hq4, hm⟩ := ob hm
      refine inv_rVa (C := R_Log) (As := [.int p1]) (rest := []) (v := .int q4) X (c_Log_isMarkWhole l D ca ad _ g p1 q4 hq4) g_Log_179 yo_Log_isMarkWhole ⟨Nat.le_of_ble_eq_true rfl, Nat.le_of_ble_eq_true rfl⟩ hl hP hD (ci := 5) rfl rfl hS hA rfl rfl (Nat.le_of_ble_eq_true rfl) ⟨Nat.zero_le _, Nat.zero_le _⟩ d_Log_whole_22 (fun H locs hP hS => ?_)
      refine lv_if_eq (tgt := 32) hx hb d_Log_whole_25 (by decide) (fun c5 => ?_) (fun c5 => ?_)
      · replace hm := ip c5 hm
        refine lv_iconst (v := 0) hx hb d_Log_whole_32 (by decide) ?_
        cases hm
        exact ret_ri X hS d_Log_whole_33
      · replace hm := ineg c5 hm
        refine lv_iconst (v := 1) hx hb d_Log_whole_28 (by decide) ?_
        refine lv_goto (tgt := 33) hx hb d_Log_whole_29 (by decide) ?_
        cases hm
        exact ret_ri X hS d_Log_whole_33
    replace hm := ineg c3 hm
    by_cases c6 : q2 = 2
    · replace hm := ip c6 hm
      refine W.eq (g2 := F0 m 15 ls [.ref (ad 27)]) (by rw [c6]; rfl) ?_
      refine lv_ifnonnull (tgt := 20) hx hb d_Log_whole_15 (by decide) ?_
      refine lv_aload_n hx hb d_Log_whole_20 rfl (lv_at hl 0 rfl) ?_
      refine lv_iload_n hx hb d_Log_whole_21 rfl (lv_at hl 1 rfl) ?_
      obtain ⟨q7, hq7, hm⟩ := ob hm
      refine inv_rVa (C := R_Log) (As := [.int p1]) (rest := []) (v := .int q7) X (c_Log_isMarkWhole l D ca ad _ g p1 q7 hq7) g_Log_179 yo_Log_isMarkWhole ⟨Nat.le_of_ble_eq_true rfl, Nat.le_of_ble_eq_true rfl⟩ hl hP hD (ci := 5) rfl rfl hS hA rfl rfl (Nat.le_of_ble_eq_true rfl) ⟨Nat.zero_le _, Nat.zero_le _⟩ d_Log_whole_22 (fun H locs hP hS => ?_)
      refine lv_if_eq (tgt := 32) hx hb d_Log_whole_25 (by decide) (fun c8 => ?_) (fun c8 => ?_)
      · replace hm := ip c8 hm
        refine lv_iconst (v := 0) hx hb d_Log_whole_32 (by decide) ?_
        cases hm
        exact ret_ri X hS d_Log_whole_33
      · replace hm := ineg c8 hm
        refine lv_iconst (v := 1) hx hb d_Log_whole_28 (by decide) ?_
        refine lv_goto (tgt := 33) hx hb d_Log_whole_29 (by decide) ?_
        cases hm
        exact ret_ri X hS d_Log_whole_33
    replace hm := ineg c6 hm
    refine W.eq (g2 := F0 m 15 ls [.null]) (by rw [tb_Log_tableOf, if_neg c3, if_neg c6]) ?_
    refine lv_ifnonnullN hx hb d_Log_whole_15 ?_
    refine lv_iconst (v := (-1)) hx hb d_Log_whole_18 (by decide) ?_
    cases hm
    exact ret_ri X hS d_Log_whole_19
  · replace hm := ip c1 hm
    refine lv_bipush (v := (-3)) hx hb d_Log_whole_7 (by decide) ?_
    cases hm
    exact ret_ri X hS d_Log_whole_9
set_option maxHeartbeats 4000000 in
set_option maxRecDepth 100000 in
theorem c_Log_marks (l : Launch) (D : va_G) (ca : Nat → ClassId) (ad : Nat → Nat) (sz : Nat) (g : St_Log) (p1 : Int32) (res : Int32) (hm : m_Log_marks g p1 = some res) : Met l y_Log_marks (cws y_Log_marks b_Log_marks 2 (some .int)) (RM 2 42) (PreW D ca (wl_Log ca ad g) [.ref (ad 0), .int p1] sz) (QRr (.int res) (va_A [] sz)) 0 0 (va_A [] sz) := by
  refine met_ofR (own := R_Log) (by decide) rfl (Nat.le_of_ble_eq_true rfl) ?_
  intro p e s m below meth c A X hA hP hD ls hl
  obtain ⟨hx, hb, hml, hr, hown, hts, hK, hlocks⟩ := id X
  have hS : va_S A s.heap s.heap [] := va_S.rf
  have hl : lv_has ls 2 [(0, .ref (ad 0)), (1, .int p1)] := hl
  unfold m_Log_marks at hm
  refine lv_aload_n hx hb d_Log_marks_0 rfl (lv_at hl 0 rfl) ?_
  refine va_get (D := D) (ci := 5) (v := .int (g_isOpen g)) (C := R_Log) (T := F_Log) (N := 15) hx hb hts i_Log hown hK hP 0 rfl rfl 14 (by decide) (hts _ wf_Log_69) (fun _ h9 => h9) rfl d_Log_marks_1 ?_
  refine lv_if_ne (tgt := 10) hx hb d_Log_marks_4 (by decide) (fun c1 => ?_) (fun c1 => ?_)
  · replace hm := ineg c1 hm
    refine lv_iload_n hx hb d_Log_marks_10 rfl (lv_at hl 1 rfl) ?_
    refine lv_iconst (v := (-1)) hx hb d_Log_marks_11 (by decide) ?_
    refine lv_icmp_ne (tgt := 23) hx hb d_Log_marks_12 (by decide) (fun c2 => ?_) (fun c2 => ?_)
    · replace hm := ineg c2 hm
      refine lv_aload_n hx hb d_Log_marks_23 rfl (lv_at hl 0 rfl) ?_
      refine va_get (D := D) (ci := 5) (v := .ref (ad 21)) (C := R_Log) (T := F_Log) (N := 15) hx hb hts i_Log hown hK hP 0 rfl rfl 8 (by decide) (hts _ wf_Log_58) (fun _ h9 => h9) rfl d_Log_marks_24 ?_
      refine lv_iload_n hx hb d_Log_marks_27 rfl (lv_at hl 1 rfl) ?_
      obtain ⟨q3, hq3, hm⟩ := ob hm
      refine inv_rV (C := R_Marks) (As := [.int p1]) (rest := []) (v := .int q3) X (c_Marks_numberAt l D ca (ad 21) (ad 22) (ad 23) (ad 24) (ad 25) (ad 26) _ (g_kept g) p1 q3 hq3) g_Log_172 yo_Marks_numberAt ⟨Nat.le_of_ble_eq_true rfl, Nat.le_of_ble_eq_true rfl⟩ hl hP hD [21, 22, 23, 24, 25, 26] rfl rfl (ci := 4) rfl rfl hS hA rfl rfl (Nat.le_of_ble_eq_true rfl) ⟨Nat.zero_le _, Nat.zero_le _⟩ d_Log_marks_28 (fun H locs hP hS => ?_)
      cases hm
      exact ret_ri X hS d_Log_marks_31
    · replace hm := ip c2 hm
      refine lv_aload_n hx hb d_Log_marks_15 rfl (lv_at hl 0 rfl) ?_
      refine va_get (D := D) (ci := 5) (v := .ref (ad 21)) (C := R_Log) (T := F_Log) (N := 15) hx hb hts i_Log hown hK hP 0 rfl rfl 8 (by decide) (hts _ wf_Log_58) (fun _ h9 => h9) rfl d_Log_marks_16 ?_
      obtain ⟨q4, hq4, hm⟩ := ob hm
      refine inv_rV (C := R_Marks) (As := []) (rest := []) (v := .int q4) X (c_Marks_size l D ca (ad 21) (ad 22) (ad 23) (ad 24) (ad 25) (ad 26) _ (g_kept g) q4 hq4) g_Log_88 yo_Marks_size ⟨Nat.le_of_ble_eq_true rfl, Nat.le_of_ble_eq_true rfl⟩ hl hP hD [21, 22, 23, 24, 25, 26] rfl rfl (ci := 4) rfl rfl hS hA rfl rfl (Nat.le_of_ble_eq_true rfl) ⟨Nat.zero_le _, Nat.zero_le _⟩ d_Log_marks_19 (fun H locs hP hS => ?_)
      cases hm
      exact ret_ri X hS d_Log_marks_22
  · replace hm := ip c1 hm
    refine lv_bipush (v := (-3)) hx hb d_Log_marks_7 (by decide) ?_
    cases hm
    exact ret_ri X hS d_Log_marks_9
set_option maxHeartbeats 4000000 in
set_option maxRecDepth 100000 in
theorem c_Log_markOf (l : Launch) (D : va_G) (ca : Nat → ClassId) (ad : Nat → Nat) (sz : Nat) (g : St_Log) (p1 : Int32) (p2 : Int32) (res : Int32) (hm : m_Log_markOf g p1 p2 = some res) : Met l y_Log_markOf (cws y_Log_markOf b_Log_markOf 5 (some .int)) (RM 4 85) (PreW D ca (wl_Log ca ad g) [.ref (ad 0), .int p1, .int p2] sz) (QRr (.int res) (va_A [] sz)) 0 0 (va_A [] sz) := by
  refine met_ofR (own := R_Log) (by decide) rfl (Nat.le_of_ble_eq_true rfl) ?_
  intro p e s m below meth c A X hA hP hD ls hl
  obtain ⟨hx, hb, hml, hr, hown, hts, hK, hlocks⟩ := id X
  have hS : va_S A s.heap s.heap [] := va_S.rf
  have hl : lv_has ls 5 [(0, .ref (ad 0)), (1, .int p1), (2, .int p2)] := hl
  unfold m_Log_markOf at hm
  refine lv_aload_n hx hb d_Log_markOf_0 rfl (lv_at hl 0 rfl) ?_
  refine va_get (D := D) (ci := 5) (v := .int (g_isOpen g)) (C := R_Log) (T := F_Log) (N := 15) hx hb hts i_Log hown hK hP 0 rfl rfl 14 (by decide) (hts _ wf_Log_69) (fun _ h9 => h9) rfl d_Log_markOf_1 ?_
  refine lv_if_ne (tgt := 10) hx hb d_Log_markOf_4 (by decide) (fun c1 => ?_) (fun c1 => ?_)
  · replace hm := ineg c1 hm
    refine lv_aload_n hx hb d_Log_markOf_10 rfl (lv_at hl 0 rfl) ?_
    refine lv_iload_n hx hb d_Log_markOf_11 rfl (lv_at hl 1 rfl) ?_
    obtain ⟨q2, hq2, hm⟩ := ob hm
    refine inv_rVa (C := R_Log) (As := [.int p1]) (rest := []) (v := tb_Log_tableOf ad q2) X (c_Log_tableOf l D ca ad _ g p1 q2 hq2) g_Log_175 yo_Log_tableOf ⟨Nat.le_of_ble_eq_true rfl, Nat.le_of_ble_eq_true rfl⟩ hl hP hD (ci := 5) rfl rfl hS hA rfl rfl (Nat.le_of_ble_eq_true rfl) ⟨Nat.zero_le _, Nat.zero_le _⟩ d_Log_markOf_12 (fun H locs hP hS => ?_)
    by_cases c3 : q2 = 1
    · replace hm := ip c3 hm
      refine W.eq (g2 := F0 m 15 ls [.ref (ad 21)]) (by rw [c3]; rfl) ?_
      refine lv_astore_n (lv' := [(3, .ref (ad 21)), (0, .ref (ad 0)), (1, .int p1), (2, .int p2)]) hx hb d_Log_markOf_15 rfl hl (by decide) rfl (fun ls hl => ?_)
      refine lv_aload_n hx hb d_Log_markOf_16 rfl (lv_at hl 0 rfl) ?_
      refine lv_ifnonnull (tgt := 22) hx hb d_Log_markOf_17 (by decide) ?_
      refine lv_aload_n hx hb d_Log_markOf_22 rfl (lv_at hl 0 rfl) ?_
      refine lv_iload_n hx hb d_Log_markOf_23 rfl (lv_at hl 2 rfl) ?_
      obtain ⟨q4, hq4, hm⟩ := ob hm
      refine inv_rV (C := R_Marks) (As := [.int p1]) (rest := []) (v := .int q4) X (c_Marks_find l D ca (ad 21) (ad 22) (ad 23) (ad 24) (ad 25) (ad 26) _ (g_kept g) p1 q4 hq4) g_Log_98 yo_Marks_find ⟨Nat.le_of_ble_eq_true rfl, Nat.le_of_ble_eq_true rfl⟩ hl hP hD [21, 22, 23, 24, 25, 26] rfl rfl (ci := 4) rfl rfl hS hA rfl rfl (Nat.le_of_ble_eq_true rfl) ⟨Nat.zero_le _, Nat.zero_le _⟩ d_Log_markOf_24 (fun H locs hP hS => ?_)
      refine lv_istore (lv' := [(4, .int q4), (3, .ref (ad 21)), (0, .ref (ad 0)), (1, .int p1), (2, .int p2)]) hx hb d_Log_markOf_27 hl (by decide) rfl (fun ls hl => ?_)
      refine lv_iload_n hx hb d_Log_markOf_29 rfl (lv_at hl 4 rfl) ?_
      refine lv_iconst (v := (-1)) hx hb d_Log_markOf_30 (by decide) ?_
      refine lv_icmp_ne (tgt := 43) hx hb d_Log_markOf_31 (by decide) (fun c5 => ?_) (fun c5 => ?_)
      · replace hm := ineg c5 hm
        refine lv_aload_n hx hb d_Log_markOf_43 rfl (lv_at hl 1 rfl) ?_
        refine lv_iload hx hb d_Log_markOf_44 (lv_at hl 0 rfl) ?_
        refine lv_iload_n hx hb d_Log_markOf_46 rfl (lv_at hl 4 rfl) ?_
        obtain ⟨q6, hq6, hm⟩ := ob hm
        refine inv_rV (C := R_Marks) (As := [.int q4, .int p2]) (rest := []) (v := .int q6) X (c_Marks_partAt l D ca (ad 21) (ad 22) (ad 23) (ad 24) (ad 25) (ad 26) _ (g_kept g) q4 p2 q6 hq6) g_Log_121 yo_Marks_partAt ⟨Nat.le_of_ble_eq_true rfl, Nat.le_of_ble_eq_true rfl⟩ hl hP hD [21, 22, 23, 24, 25, 26] rfl rfl (ci := 4) rfl rfl hS hA rfl rfl (Nat.le_of_ble_eq_true rfl) ⟨Nat.zero_le _, Nat.zero_le _⟩ d_Log_markOf_47 (fun H locs hP hS => ?_)
        cases hm
        exact ret_ri X hS d_Log_markOf_50
      · replace hm := ip c5 hm
        refine lv_aload_n hx hb d_Log_markOf_34 rfl (lv_at hl 1 rfl) ?_
        refine lv_iload hx hb d_Log_markOf_35 (lv_at hl 0 rfl) ?_
        obtain ⟨q7, hq7, hm⟩ := ob hm
        refine inv_rV (C := R_Marks) (As := [.int q4]) (rest := []) (v := .int q7) X (c_Marks_countAt l D ca (ad 21) (ad 22) (ad 23) (ad 24) (ad 25) (ad 26) _ (g_kept g) q4 q7 hq7) g_Log_101 yo_Marks_countAt ⟨Nat.le_of_ble_eq_true rfl, Nat.le_of_ble_eq_true rfl⟩ hl hP hD [21, 22, 23, 24, 25, 26] rfl rfl (ci := 4) rfl rfl hS hA rfl rfl (Nat.le_of_ble_eq_true rfl) ⟨Nat.zero_le _, Nat.zero_le _⟩ d_Log_markOf_37 (fun H locs hP hS => ?_)
        refine lv_goto (tgt := 50) hx hb d_Log_markOf_40 (by decide) ?_
        cases hm
        exact ret_ri X hS d_Log_markOf_50
    replace hm := ineg c3 hm
    by_cases c8 : q2 = 2
    · replace hm := ip c8 hm
      refine W.eq (g2 := F0 m 15 ls [.ref (ad 27)]) (by rw [c8]; rfl) ?_
      refine lv_astore_n (lv' := [(3, .ref (ad 27)), (0, .ref (ad 0)), (1, .int p1), (2, .int p2)]) hx hb d_Log_markOf_15 rfl hl (by decide) rfl (fun ls hl => ?_)
      refine lv_aload_n hx hb d_Log_markOf_16 rfl (lv_at hl 0 rfl) ?_
      refine lv_ifnonnull (tgt := 22) hx hb d_Log_markOf_17 (by decide) ?_
      refine lv_aload_n hx hb d_Log_markOf_22 rfl (lv_at hl 0 rfl) ?_
      refine lv_iload_n hx hb d_Log_markOf_23 rfl (lv_at hl 2 rfl) ?_
      obtain ⟨q9, hq9, hm⟩ := ob hm
      refine inv_rV (C := R_Marks) (As := [.int p1]) (rest := []) (v := .int q9) X (c_Marks_find l D ca (ad 27) (ad 28) (ad 29) (ad 30) (ad 31) (ad 32) _ (g_made g) p1 q9 hq9) g_Log_98 yo_Marks_find ⟨Nat.le_of_ble_eq_true rfl, Nat.le_of_ble_eq_true rfl⟩ hl hP hD [27, 28, 29, 30, 31, 32] rfl rfl (ci := 4) rfl rfl hS hA rfl rfl (Nat.le_of_ble_eq_true rfl) ⟨Nat.zero_le _, Nat.zero_le _⟩ d_Log_markOf_24 (fun H locs hP hS => ?_)
      refine lv_istore (lv' := [(4, .int q9), (3, .ref (ad 27)), (0, .ref (ad 0)), (1, .int p1), (2, .int p2)]) hx hb d_Log_markOf_27 hl (by decide) rfl (fun ls hl => ?_)
      refine lv_iload_n hx hb d_Log_markOf_29 rfl (lv_at hl 4 rfl) ?_
      refine lv_iconst (v := (-1)) hx hb d_Log_markOf_30 (by decide) ?_
      refine lv_icmp_ne (tgt := 43) hx hb d_Log_markOf_31 (by decide) (fun c10 => ?_) (fun c10 => ?_)
      · replace hm := ineg c10 hm
        refine lv_aload_n hx hb d_Log_markOf_43 rfl (lv_at hl 1 rfl) ?_
        refine lv_iload hx hb d_Log_markOf_44 (lv_at hl 0 rfl) ?_
        refine lv_iload_n hx hb d_Log_markOf_46 rfl (lv_at hl 4 rfl) ?_
        obtain ⟨q11, hq11, hm⟩ := ob hm
        refine inv_rV (C := R_Marks) (As := [.int q9, .int p2]) (rest := []) (v := .int q11) X (c_Marks_partAt l D ca (ad 27) (ad 28) (ad 29) (ad 30) (ad 31) (ad 32) _ (g_made g) q9 p2 q11 hq11) g_Log_121 yo_Marks_partAt ⟨Nat.le_of_ble_eq_true rfl, Nat.le_of_ble_eq_true rfl⟩ hl hP hD [27, 28, 29, 30, 31, 32] rfl rfl (ci := 4) rfl rfl hS hA rfl rfl (Nat.le_of_ble_eq_true rfl) ⟨Nat.zero_le _, Nat.zero_le _⟩ d_Log_markOf_47 (fun H locs hP hS => ?_)
        cases hm
        exact ret_ri X hS d_Log_markOf_50
      · replace hm := ip c10 hm
        refine lv_aload_n hx hb d_Log_markOf_34 rfl (lv_at hl 1 rfl) ?_
        refine lv_iload hx hb d_Log_markOf_35 (lv_at hl 0 rfl) ?_
        obtain ⟨q12, hq12, hm⟩ := ob hm
        refine inv_rV (C := R_Marks) (As := [.int q9]) (rest := []) (v := .int q12) X (c_Marks_countAt l D ca (ad 27) (ad 28) (ad 29) (ad 30) (ad 31) (ad 32) _ (g_made g) q9 q12 hq12) g_Log_101 yo_Marks_countAt ⟨Nat.le_of_ble_eq_true rfl, Nat.le_of_ble_eq_true rfl⟩ hl hP hD [27, 28, 29, 30, 31, 32] rfl rfl (ci := 4) rfl rfl hS hA rfl rfl (Nat.le_of_ble_eq_true rfl) ⟨Nat.zero_le _, Nat.zero_le _⟩ d_Log_markOf_37 (fun H locs hP hS => ?_)
        refine lv_goto (tgt := 50) hx hb d_Log_markOf_40 (by decide) ?_
        cases hm
        exact ret_ri X hS d_Log_markOf_50
    replace hm := ineg c8 hm
    refine W.eq (g2 := F0 m 15 ls [.null]) (by rw [tb_Log_tableOf, if_neg c3, if_neg c8]) ?_
    refine lv_astore_nN (lv' := [(3, .null), (0, .ref (ad 0)), (1, .int p1), (2, .int p2)]) hx hb d_Log_markOf_15 rfl hl (by decide) rfl (fun ls hl => ?_)
    refine lv_aload_nN hx hb d_Log_markOf_16 rfl (lv_at hl 0 rfl) ?_
    refine lv_ifnonnullN hx hb d_Log_markOf_17 ?_
    refine lv_iconst (v := (-1)) hx hb d_Log_markOf_20 (by decide) ?_
    cases hm
    exact ret_ri X hS d_Log_markOf_21
  · replace hm := ip c1 hm
    refine lv_bipush (v := (-3)) hx hb d_Log_markOf_7 (by decide) ?_
    cases hm
    exact ret_ri X hS d_Log_markOf_9
set_option maxHeartbeats 4000000 in
set_option maxRecDepth 100000 in
theorem c_Log_partOf (l : Launch) (D : va_G) (ca : Nat → ClassId) (ad : Nat → Nat) (sz : Nat) (g : St_Log) (p1 : Int32) (p2 : Int32) (res : Int64) (hm : m_Log_partOf g p1 p2 = some res) : Met l y_Log_partOf (cws y_Log_partOf b_Log_partOf 4 (some .long)) (RM 6 131) (PreW D ca (wl_Log ca ad g) [.ref (ad 0), .int p1, .int p2] sz) (QRr (.long res) (va_A [] sz)) 0 0 (va_A [] sz) := by
  refine met_ofR (own := R_Log) (by decide) rfl (Nat.le_of_ble_eq_true rfl) ?_
  intro p e s m below meth c A X hA hP hD ls hl
  obtain ⟨hx, hb, hml, hr, hown, hts, hK, hlocks⟩ := id X
  have hS : va_S A s.heap s.heap [] := va_S.rf
  have hl : lv_has ls 4 [(0, .ref (ad 0)), (1, .int p1), (2, .int p2)] := hl
  unfold m_Log_partOf at hm
  refine lv_aload_n hx hb d_Log_partOf_0 rfl (lv_at hl 0 rfl) ?_
  refine va_get (D := D) (ci := 5) (v := .int (g_isOpen g)) (C := R_Log) (T := F_Log) (N := 15) hx hb hts i_Log hown hK hP 0 rfl rfl 14 (by decide) (hts _ wf_Log_69) (fun _ h9 => h9) rfl d_Log_partOf_1 ?_
  refine lv_if_ne (tgt := 11) hx hb d_Log_partOf_4 (by decide) (fun c1 => ?_) (fun c1 => ?_)
  · replace hm := ineg c1 hm
    refine lv_iload_n hx hb d_Log_partOf_11 rfl (lv_at hl 2 rfl) ?_
    refine lv_if_lt (tgt := 20) hx hb d_Log_partOf_12 (by decide) (fun c2 => ?_) (fun c2 => ?_)
    · replace hm := ip c2 hm
      refine lv_ldc2 hx hb hown (hts _ wc_Log_184) d_Log_partOf_20 ?_
      cases hm
      exact ret_rl X hS d_Log_partOf_23
    · replace hm := ineg c2 hm
      refine lv_iload_n hx hb d_Log_partOf_15 rfl (lv_at hl 2 rfl) ?_
      refine lv_iconst (v := 5) hx hb d_Log_partOf_16 (by decide) ?_
      refine lv_icmp_le (tgt := 24) hx hb d_Log_partOf_17 (by decide) (fun c3 => ?_) (fun c3 => ?_)
      · replace hm := ip c3 hm
        refine lv_aload_n hx hb d_Log_partOf_24 rfl (lv_at hl 0 rfl) ?_
        refine va_get (D := D) (ci := 5) (v := .ref (ad 15)) (C := R_Log) (T := F_Log) (N := 15) hx hb hts i_Log hown hK hP 0 rfl rfl 7 (by decide) (hts _ wf_Log_51) (fun _ h9 => h9) rfl d_Log_partOf_25 ?_
        refine lv_iload_n hx hb d_Log_partOf_28 rfl (lv_at hl 1 rfl) ?_
        obtain ⟨q4, hq4, hm⟩ := ob hm
        refine inv_rV (C := R_Parts) (As := [.int p1]) (rest := []) (v := .int q4) X (c_Parts_find l D ca (ad 15) (ad 16) (ad 17) (ad 18) (ad 19) (ad 20) _ (g_parts g) p1 q4 hq4) g_Log_186 yo_Parts_find ⟨Nat.le_of_ble_eq_true rfl, Nat.le_of_ble_eq_true rfl⟩ hl hP hD [15, 16, 17, 18, 19, 20] rfl rfl (ci := 3) rfl rfl hS hA rfl rfl (Nat.le_of_ble_eq_true rfl) ⟨Nat.zero_le _, Nat.zero_le _⟩ d_Log_partOf_29 (fun H locs hP hS => ?_)
        refine lv_istore_n (lv' := [(3, .int q4), (0, .ref (ad 0)), (1, .int p1), (2, .int p2)]) hx hb d_Log_partOf_32 rfl hl (by decide) rfl (fun ls hl => ?_)
        refine lv_iload_n hx hb d_Log_partOf_33 rfl (lv_at hl 0 rfl) ?_
        refine lv_iconst (v := (-1)) hx hb d_Log_partOf_34 (by decide) ?_
        refine lv_icmp_ne (tgt := 42) hx hb d_Log_partOf_35 (by decide) (fun c5 => ?_) (fun c5 => ?_)
        · replace hm := ineg c5 hm
          refine lv_iload_n hx hb d_Log_partOf_42 rfl (lv_at hl 3 rfl) ?_
          by_cases c6 : p2 = 0
          · replace hm := ip c6 hm
            refine lv_tableIn (off := 33) (tgt := 76) hx hb d_Log_partOf_43 (by rw [c6]; decide) (by rw [c6]; decide) (by rw [c6]; rfl) (by decide) ?_
            refine lv_aload_n hx hb d_Log_partOf_76 rfl (lv_at hl 1 rfl) ?_
            refine va_get (D := D) (ci := 5) (v := .ref (ad 15)) (C := R_Log) (T := F_Log) (N := 15) hx hb hts i_Log hown hK hP 0 rfl rfl 7 (by decide) (hts _ wf_Log_51) (fun _ h9 => h9) rfl d_Log_partOf_77 ?_
            refine lv_iload_n hx hb d_Log_partOf_80 rfl (lv_at hl 0 rfl) ?_
            obtain ⟨q7, hq7, hm⟩ := ob hm
            refine inv_rV (C := R_Parts) (As := [.int q4]) (rest := []) (v := .int q7) X (c_Parts_groupAt l D ca (ad 15) (ad 16) (ad 17) (ad 18) (ad 19) (ad 20) _ (g_parts g) q4 q7 hq7) g_Log_189 yo_Parts_groupAt ⟨Nat.le_of_ble_eq_true rfl, Nat.le_of_ble_eq_true rfl⟩ hl hP hD [15, 16, 17, 18, 19, 20] rfl rfl (ci := 3) rfl rfl hS hA rfl rfl (Nat.le_of_ble_eq_true rfl) ⟨Nat.zero_le _, Nat.zero_le _⟩ d_Log_partOf_81 (fun H locs hP hS => ?_)
            refine lv_i2l (v := ((q7).toInt64)) hx hb d_Log_partOf_84 rfl ?_
            cases hm
            exact ret_rl X hS d_Log_partOf_85
          replace hm := ineg c6 hm
          by_cases c8 : p2 = 1
          · replace hm := ip c8 hm
            refine lv_tableIn (off := 43) (tgt := 86) hx hb d_Log_partOf_43 (by rw [c8]; decide) (by rw [c8]; decide) (by rw [c8]; rfl) (by decide) ?_
            refine lv_aload_n hx hb d_Log_partOf_86 rfl (lv_at hl 1 rfl) ?_
            refine va_get (D := D) (ci := 5) (v := .ref (ad 15)) (C := R_Log) (T := F_Log) (N := 15) hx hb hts i_Log hown hK hP 0 rfl rfl 7 (by decide) (hts _ wf_Log_51) (fun _ h9 => h9) rfl d_Log_partOf_87 ?_
            refine lv_iload_n hx hb d_Log_partOf_90 rfl (lv_at hl 0 rfl) ?_
            obtain ⟨q9, hq9, hm⟩ := ob hm
            refine inv_rV (C := R_Parts) (As := [.int q4]) (rest := []) (v := .long q9) X (c_Parts_positionAt l D ca (ad 15) (ad 16) (ad 17) (ad 18) (ad 19) (ad 20) _ (g_parts g) q4 q9 hq9) g_Log_192 yo_Parts_positionAt ⟨Nat.le_of_ble_eq_true rfl, Nat.le_of_ble_eq_true rfl⟩ hl hP hD [15, 16, 17, 18, 19, 20] rfl rfl (ci := 3) rfl rfl hS hA rfl rfl (Nat.le_of_ble_eq_true rfl) ⟨Nat.zero_le _, Nat.zero_le _⟩ d_Log_partOf_91 (fun H locs hP hS => ?_)
            cases hm
            exact ret_rl X hS d_Log_partOf_94
          replace hm := ineg c8 hm
          by_cases c10 : p2 = 2
          · replace hm := ip c10 hm
            refine lv_tableIn (off := 52) (tgt := 95) hx hb d_Log_partOf_43 (by rw [c10]; decide) (by rw [c10]; decide) (by rw [c10]; rfl) (by decide) ?_
            refine lv_aload_n hx hb d_Log_partOf_95 rfl (lv_at hl 1 rfl) ?_
            refine va_get (D := D) (ci := 5) (v := .ref (ad 15)) (C := R_Log) (T := F_Log) (N := 15) hx hb hts i_Log hown hK hP 0 rfl rfl 7 (by decide) (hts _ wf_Log_51) (fun _ h9 => h9) rfl d_Log_partOf_96 ?_
            refine lv_iload_n hx hb d_Log_partOf_99 rfl (lv_at hl 0 rfl) ?_
            obtain ⟨q11, hq11, hm⟩ := ob hm
            refine inv_rV (C := R_Parts) (As := [.int q4]) (rest := []) (v := .int q11) X (c_Parts_lengthAt l D ca (ad 15) (ad 16) (ad 17) (ad 18) (ad 19) (ad 20) _ (g_parts g) q4 q11 hq11) g_Log_195 yo_Parts_lengthAt ⟨Nat.le_of_ble_eq_true rfl, Nat.le_of_ble_eq_true rfl⟩ hl hP hD [15, 16, 17, 18, 19, 20] rfl rfl (ci := 3) rfl rfl hS hA rfl rfl (Nat.le_of_ble_eq_true rfl) ⟨Nat.zero_le _, Nat.zero_le _⟩ d_Log_partOf_100 (fun H locs hP hS => ?_)
            refine lv_i2l (v := ((q11).toInt64)) hx hb d_Log_partOf_103 rfl ?_
            cases hm
            exact ret_rl X hS d_Log_partOf_104
          replace hm := ineg c10 hm
          by_cases c12 : p2 = 3
          · replace hm := ip c12 hm
            refine lv_tableIn (off := 62) (tgt := 105) hx hb d_Log_partOf_43 (by rw [c12]; decide) (by rw [c12]; decide) (by rw [c12]; rfl) (by decide) ?_
            refine lv_aload_n hx hb d_Log_partOf_105 rfl (lv_at hl 1 rfl) ?_
            refine va_get (D := D) (ci := 5) (v := .ref (ad 15)) (C := R_Log) (T := F_Log) (N := 15) hx hb hts i_Log hown hK hP 0 rfl rfl 7 (by decide) (hts _ wf_Log_51) (fun _ h9 => h9) rfl d_Log_partOf_106 ?_
            refine lv_iload_n hx hb d_Log_partOf_109 rfl (lv_at hl 0 rfl) ?_
            obtain ⟨q13, hq13, hm⟩ := ob hm
            refine inv_rV (C := R_Parts) (As := [.int q4]) (rest := []) (v := .int q13) X (c_Parts_rowAt l D ca (ad 15) (ad 16) (ad 17) (ad 18) (ad 19) (ad 20) _ (g_parts g) q4 q13 hq13) g_Log_198 yo_Parts_rowAt ⟨Nat.le_of_ble_eq_true rfl, Nat.le_of_ble_eq_true rfl⟩ hl hP hD [15, 16, 17, 18, 19, 20] rfl rfl (ci := 3) rfl rfl hS hA rfl rfl (Nat.le_of_ble_eq_true rfl) ⟨Nat.zero_le _, Nat.zero_le _⟩ d_Log_partOf_110 (fun H locs hP hS => ?_)
            refine lv_i2l (v := ((q13).toInt64)) hx hb d_Log_partOf_113 rfl ?_
            cases hm
            exact ret_rl X hS d_Log_partOf_114
          replace hm := ineg c12 hm
          by_cases c14 : p2 = 4
          · replace hm := ip c14 hm
            refine lv_tableIn (off := 72) (tgt := 115) hx hb d_Log_partOf_43 (by rw [c14]; decide) (by rw [c14]; decide) (by rw [c14]; rfl) (by decide) ?_
            refine lv_aload_n hx hb d_Log_partOf_115 rfl (lv_at hl 1 rfl) ?_
            refine lv_iload_n hx hb d_Log_partOf_116 rfl (lv_at hl 0 rfl) ?_
            obtain ⟨q15, hq15, hm⟩ := ob hm
            refine inv_rVa (C := R_Log) (As := [.int q4]) (rest := []) (v := .int q15) X (c_Log_isPartWhole l D ca ad _ g q4 q15 hq15) g_Log_201 yo_Log_isPartWhole ⟨Nat.le_of_ble_eq_true rfl, Nat.le_of_ble_eq_true rfl⟩ hl hP hD (ci := 5) rfl rfl hS hA rfl rfl (Nat.le_of_ble_eq_true rfl) ⟨Nat.zero_le _, Nat.zero_le _⟩ d_Log_partOf_117 (fun H locs hP hS => ?_)
            refine lv_if_eq (tgt := 127) hx hb d_Log_partOf_120 (by decide) (fun c16 => ?_) (fun c16 => ?_)
            · replace hm := ip c16 hm
              refine lv_lconst (v := 0) hx hb d_Log_partOf_127 (by decide) ?_
              cases hm
              exact ret_rl X hS d_Log_partOf_128
            · replace hm := ineg c16 hm
              refine lv_lconst (v := 1) hx hb d_Log_partOf_123 (by decide) ?_
              refine lv_goto (tgt := 128) hx hb d_Log_partOf_124 (by decide) ?_
              cases hm
              exact ret_rl X hS d_Log_partOf_128
          replace hm := ineg c14 hm
          refine lv_tableOut (tgt := 129) hx hb d_Log_partOf_43 (by have c6n := lv_neT (a := 0) c6 (by decide); have c8n := lv_neT (a := 1) c8 (by decide); have c10n := lv_neT (a := 2) c10 (by decide); have c12n := lv_neT (a := 3) c12 (by decide); have c14n := lv_neT (a := 4) c14 (by decide); omega) (by decide) ?_
          refine lv_aload_n hx hb d_Log_partOf_129 rfl (lv_at hl 1 rfl) ?_
          refine lv_iload_n hx hb d_Log_partOf_130 rfl (lv_at hl 2 rfl) ?_
          obtain ⟨q17, hq17, hm⟩ := ob hm
          refine inv_rVa (C := R_Log) (As := [.int p1]) (rest := []) (v := .int q17) X (c_Log_countNaming l D ca ad _ g p1 q17 hq17) g_Log_204 yo_Log_countNaming ⟨Nat.le_of_ble_eq_true rfl, Nat.le_of_ble_eq_true rfl⟩ hl hP hD (ci := 5) rfl rfl hS hA rfl rfl (Nat.le_of_ble_eq_true rfl) ⟨Nat.zero_le _, Nat.zero_le _⟩ d_Log_partOf_131 (fun H locs hP hS => ?_)
          refine lv_i2l (v := ((q17).toInt64)) hx hb d_Log_partOf_134 rfl ?_
          cases hm
          exact ret_rl X hS d_Log_partOf_135
        · replace hm := ip c5 hm
          refine lv_ldc2 hx hb hown (hts _ wc_Log_187) d_Log_partOf_38 ?_
          cases hm
          exact ret_rl X hS d_Log_partOf_41
      · replace hm := ineg c3 hm
        refine lv_ldc2 hx hb hown (hts _ wc_Log_184) d_Log_partOf_20 ?_
        cases hm
        exact ret_rl X hS d_Log_partOf_23
  · replace hm := ip c1 hm
    refine lv_ldc2 hx hb hown (hts _ wc_Log_182) d_Log_partOf_7 ?_
    cases hm
    exact ret_rl X hS d_Log_partOf_10
set_option maxHeartbeats 4000000 in
set_option maxRecDepth 100000 in
theorem c_Log_byteOfPart (l : Launch) (D : va_G) (ca : Nat → ClassId) (ad : Nat → Nat) (sz : Nat) (g : St_Log) (p1 : Int32) (p2 : Int32) (res : Int32) (hm : m_Log_byteOfPart g p1 p2 = some res) : Met l y_Log_byteOfPart (cws y_Log_byteOfPart b_Log_byteOfPart 3 (some .int)) (RM 2 44) (PreW D ca (wl_Log ca ad g) [.ref (ad 0), .int p1, .int p2] sz) (QRr (.int res) (va_A [] sz)) 0 0 (va_A [] sz) := by
  refine met_ofR (own := R_Log) (by decide) rfl (Nat.le_of_ble_eq_true rfl) ?_
  intro p e s m below meth c A X hA hP hD ls hl
  obtain ⟨hx, hb, hml, hr, hown, hts, hK, hlocks⟩ := id X
  have hS : va_S A s.heap s.heap [] := va_S.rf
  have hl : lv_has ls 3 [(0, .ref (ad 0)), (1, .int p1), (2, .int p2)] := hl
  unfold m_Log_byteOfPart at hm
  refine lv_aload_n hx hb d_Log_byteOfPart_0 rfl (lv_at hl 0 rfl) ?_
  refine va_get (D := D) (ci := 5) (v := .ref (ad 1)) (C := R_Log) (T := F_Log) (N := 15) hx hb hts i_Log hown hK hP 0 rfl rfl 0 (by decide) (hts _ wf_Log_14) (fun _ h9 => h9) rfl d_Log_byteOfPart_1 ?_
  refine lv_aload_n hx hb d_Log_byteOfPart_4 rfl (lv_at hl 0 rfl) ?_
  refine va_get (D := D) (ci := 5) (v := .ref (ad 15)) (C := R_Log) (T := F_Log) (N := 15) hx hb hts i_Log hown hK hP 0 rfl rfl 7 (by decide) (hts _ wf_Log_51) (fun _ h9 => h9) rfl d_Log_byteOfPart_5 ?_
  refine lv_iload_n hx hb d_Log_byteOfPart_8 rfl (lv_at hl 1 rfl) ?_
  obtain ⟨q1, hq1, hm⟩ := ob hm
  refine inv_rV (C := R_Parts) (As := [.int p1]) (rest := [.ref (ad 1)]) (v := .int q1) X (c_Parts_rowAt l D ca (ad 15) (ad 16) (ad 17) (ad 18) (ad 19) (ad 20) _ (g_parts g) p1 q1 hq1) g_Log_198 yo_Parts_rowAt ⟨Nat.le_of_ble_eq_true rfl, Nat.le_of_ble_eq_true rfl⟩ hl hP hD [15, 16, 17, 18, 19, 20] rfl rfl (ci := 3) rfl rfl hS hA rfl rfl (Nat.le_of_ble_eq_true rfl) ⟨Nat.zero_le _, Nat.zero_le _⟩ d_Log_byteOfPart_9 (fun H locs hP hS => ?_)
  refine lv_iconst (v := 1) hx hb d_Log_byteOfPart_12 (by decide) ?_
  refine lv_iadd hx hb d_Log_byteOfPart_13 ?_
  refine lv_iload_n hx hb d_Log_byteOfPart_14 rfl (lv_at hl 2 rfl) ?_
  refine lv_bipush (v := 31) hx hb d_Log_byteOfPart_15 (by decide) ?_
  refine lv_idiv hx hb d_Log_byteOfPart_17 (by decide) ?_
  refine lv_iadd hx hb d_Log_byteOfPart_18 ?_
  refine lv_iconst (v := 1) hx hb d_Log_byteOfPart_19 (by decide) ?_
  refine lv_iload_n hx hb d_Log_byteOfPart_20 rfl (lv_at hl 2 rfl) ?_
  refine lv_bipush (v := 31) hx hb d_Log_byteOfPart_21 (by decide) ?_
  refine lv_irem hx hb d_Log_byteOfPart_23 (by decide) ?_
  refine lv_iadd hx hb d_Log_byteOfPart_24 ?_
  obtain ⟨q2, hq2, hm⟩ := ob hm
  refine inv_rV (C := R_Medium) (As := [.int ((q1 + 1) + (p2 / 31)), .int (1 + (jrem p2 31))]) (rest := []) (v := .int q2) X (c_Medium_at l D ca (ad 1) (ad 2) _ (g_medium g) ((q1 + 1) + (p2 / 31)) (1 + (jrem p2 31)) q2 hq2) g_Log_226 yo_Medium_at ⟨Nat.le_of_ble_eq_true rfl, Nat.le_of_ble_eq_true rfl⟩ hl hP hD [1, 2] rfl rfl (ci := 0) rfl rfl hS hA rfl rfl (Nat.le_of_ble_eq_true rfl) ⟨Nat.zero_le _, Nat.zero_le _⟩ d_Log_byteOfPart_25 (fun H locs hP hS => ?_)
  cases hm
  exact ret_ri X hS d_Log_byteOfPart_28
set_option maxHeartbeats 4000000 in
set_option maxRecDepth 100000 in
theorem c_Log_partByte (l : Launch) (D : va_G) (ca : Nat → ClassId) (ad : Nat → Nat) (sz : Nat) (g : St_Log) (p1 : Int32) (p2 : Int32) (res : Int32) (hm : m_Log_partByte g p1 p2 = some res) : Met l y_Log_partByte (cws y_Log_partByte b_Log_partByte 4 (some .int)) (RM 3 66) (PreW D ca (wl_Log ca ad g) [.ref (ad 0), .int p1, .int p2] sz) (QRr (.int res) (va_A [] sz)) 0 0 (va_A [] sz) := by
  refine met_ofR (own := R_Log) (by decide) rfl (Nat.le_of_ble_eq_true rfl) ?_
  intro p e s m below meth c A X hA hP hD ls hl
  obtain ⟨hx, hb, hml, hr, hown, hts, hK, hlocks⟩ := id X
  have hS : va_S A s.heap s.heap [] := va_S.rf
  have hl : lv_has ls 4 [(0, .ref (ad 0)), (1, .int p1), (2, .int p2)] := hl
  unfold m_Log_partByte at hm
  refine lv_aload_n hx hb d_Log_partByte_0 rfl (lv_at hl 0 rfl) ?_
  refine va_get (D := D) (ci := 5) (v := .int (g_isOpen g)) (C := R_Log) (T := F_Log) (N := 15) hx hb hts i_Log hown hK hP 0 rfl rfl 14 (by decide) (hts _ wf_Log_69) (fun _ h9 => h9) rfl d_Log_partByte_1 ?_
  refine lv_if_ne (tgt := 10) hx hb d_Log_partByte_4 (by decide) (fun c1 => ?_) (fun c1 => ?_)
  · replace hm := ineg c1 hm
    refine lv_aload_n hx hb d_Log_partByte_10 rfl (lv_at hl 0 rfl) ?_
    refine va_get (D := D) (ci := 5) (v := .ref (ad 15)) (C := R_Log) (T := F_Log) (N := 15) hx hb hts i_Log hown hK hP 0 rfl rfl 7 (by decide) (hts _ wf_Log_51) (fun _ h9 => h9) rfl d_Log_partByte_11 ?_
    refine lv_iload_n hx hb d_Log_partByte_14 rfl (lv_at hl 1 rfl) ?_
    obtain ⟨q2, hq2, hm⟩ := ob hm
    refine inv_rV (C := R_Parts) (As := [.int p1]) (rest := []) (v := .int q2) X (c_Parts_find l D ca (ad 15) (ad 16) (ad 17) (ad 18) (ad 19) (ad 20) _ (g_parts g) p1 q2 hq2) g_Log_186 yo_Parts_find ⟨Nat.le_of_ble_eq_true rfl, Nat.le_of_ble_eq_true rfl⟩ hl hP hD [15, 16, 17, 18, 19, 20] rfl rfl (ci := 3) rfl rfl hS hA rfl rfl (Nat.le_of_ble_eq_true rfl) ⟨Nat.zero_le _, Nat.zero_le _⟩ d_Log_partByte_15 (fun H locs hP hS => ?_)
    refine lv_istore_n (lv' := [(3, .int q2), (0, .ref (ad 0)), (1, .int p1), (2, .int p2)]) hx hb d_Log_partByte_18 rfl hl (by decide) rfl (fun ls hl => ?_)
    refine lv_iload_n hx hb d_Log_partByte_19 rfl (lv_at hl 0 rfl) ?_
    refine lv_iconst (v := (-1)) hx hb d_Log_partByte_20 (by decide) ?_
    refine lv_icmp_eq (tgt := 40) hx hb d_Log_partByte_21 (by decide) (fun c3 => ?_) (fun c3 => ?_)
    · replace hm := ip c3 hm
      refine lv_iconst (v := (-1)) hx hb d_Log_partByte_40 (by decide) ?_
      cases hm
      exact ret_ri X hS d_Log_partByte_41
    · replace hm := ineg c3 hm
      refine lv_iload_n hx hb d_Log_partByte_24 rfl (lv_at hl 3 rfl) ?_
      refine lv_if_lt (tgt := 40) hx hb d_Log_partByte_25 (by decide) (fun c4 => ?_) (fun c4 => ?_)
      · replace hm := ip c4 hm
        refine lv_iconst (v := (-1)) hx hb d_Log_partByte_40 (by decide) ?_
        cases hm
        exact ret_ri X hS d_Log_partByte_41
      · replace hm := ineg c4 hm
        refine lv_iload_n hx hb d_Log_partByte_28 rfl (lv_at hl 3 rfl) ?_
        refine lv_aload_n hx hb d_Log_partByte_29 rfl (lv_at hl 1 rfl) ?_
        refine va_get (D := D) (ci := 5) (v := .ref (ad 15)) (C := R_Log) (T := F_Log) (N := 15) hx hb hts i_Log hown hK hP 0 rfl rfl 7 (by decide) (hts _ wf_Log_51) (fun _ h9 => h9) rfl d_Log_partByte_30 ?_
        refine lv_iload_n hx hb d_Log_partByte_33 rfl (lv_at hl 0 rfl) ?_
        obtain ⟨q5, hq5, hm⟩ := ob hm
        refine inv_rV (C := R_Parts) (As := [.int q2]) (rest := [.int p2]) (v := .int q5) X (c_Parts_lengthAt l D ca (ad 15) (ad 16) (ad 17) (ad 18) (ad 19) (ad 20) _ (g_parts g) q2 q5 hq5) g_Log_195 yo_Parts_lengthAt ⟨Nat.le_of_ble_eq_true rfl, Nat.le_of_ble_eq_true rfl⟩ hl hP hD [15, 16, 17, 18, 19, 20] rfl rfl (ci := 3) rfl rfl hS hA rfl rfl (Nat.le_of_ble_eq_true rfl) ⟨Nat.zero_le _, Nat.zero_le _⟩ d_Log_partByte_34 (fun H locs hP hS => ?_)
        refine lv_icmp_lt (tgt := 42) hx hb d_Log_partByte_37 (by decide) (fun c6 => ?_) (fun c6 => ?_)
        · replace hm := ip c6 hm
          refine lv_aload_n hx hb d_Log_partByte_42 rfl (lv_at hl 1 rfl) ?_
          refine lv_iload_n hx hb d_Log_partByte_43 rfl (lv_at hl 0 rfl) ?_
          refine lv_iload_n hx hb d_Log_partByte_44 rfl (lv_at hl 3 rfl) ?_
          obtain ⟨q7, hq7, hm⟩ := ob hm
          refine inv_rVa (C := R_Log) (As := [.int q2, .int p2]) (rest := []) (v := .int q7) X (c_Log_byteOfPart l D ca ad _ g q2 p2 q7 hq7) g_Log_207 yo_Log_byteOfPart ⟨Nat.le_of_ble_eq_true rfl, Nat.le_of_ble_eq_true rfl⟩ hl hP hD (ci := 5) rfl rfl hS hA rfl rfl (Nat.le_of_ble_eq_true rfl) ⟨Nat.zero_le _, Nat.zero_le _⟩ d_Log_partByte_45 (fun H locs hP hS => ?_)
          cases hm
          exact ret_ri X hS d_Log_partByte_48
        · replace hm := ineg c6 hm
          refine lv_iconst (v := (-1)) hx hb d_Log_partByte_40 (by decide) ?_
          cases hm
          exact ret_ri X hS d_Log_partByte_41
  · replace hm := ip c1 hm
    refine lv_bipush (v := (-3)) hx hb d_Log_partByte_7 (by decide) ?_
    cases hm
    exact ret_ri X hS d_Log_partByte_9
