set_option maxHeartbeats 4000000 in
set_option maxRecDepth 100000 in
theorem c_Log_named (l : Launch) (D : va_G) (ca : Nat → ClassId) (ad : Nat → Nat) (sz : Nat) (g : St_Log) (p1 : Int32) (res : Int32) (hm : m_Log_named g p1 = some res) : Met l y_Log_named (cws y_Log_named b_Log_named 2 (some .int)) (RM 6 131) (PreW D ca (wl_Log ca ad g) [.ref (ad 0), .int p1] sz) (QRr (.int res) (va_A [] sz)) 0 0 (va_A [] sz) := by
  refine met_ofR (own := R_Log) (by decide) rfl (Nat.le_of_ble_eq_true rfl) ?_
  intro p e s m below meth c A X hA hP hD ls hl
  obtain ⟨hx, hb, hml, hr, hown, hts, hK, hlocks⟩ := id X
  have hS : va_S A s.heap s.heap [] := va_S.rf
  have hl : lv_has ls 2 [(0, .ref (ad 0)), (1, .int p1)] := hl
  unfold m_Log_named at hm
  refine lv_aload_n hx hb d_Log_named_0 rfl (lv_at hl 0 rfl) ?_
  refine va_get (D := D) (ci := 5) (v := .int (g_isOpen g)) (C := R_Log) (T := F_Log) (N := 15) hx hb hts i_Log hown hK hP 0 rfl rfl 14 (by decide) (hts _ wf_Log_69) (fun _ h9 => h9) rfl d_Log_named_1 ?_
  refine lv_if_eq (tgt := 15) hx hb d_Log_named_4 (by decide) (fun c1 => ?_) (fun c1 => ?_)
  · replace hm := ip c1 hm
    refine lv_bipush (v := (-3)) hx hb d_Log_named_15 (by decide) ?_
    cases hm
    exact ret_ri X hS d_Log_named_17
  · replace hm := ineg c1 hm
    refine lv_aload_n hx hb d_Log_named_7 rfl (lv_at hl 0 rfl) ?_
    refine lv_iload_n hx hb d_Log_named_8 rfl (lv_at hl 1 rfl) ?_
    obtain ⟨q2, hq2, hm⟩ := ob hm
    refine inv_rVa (C := R_Log) (As := [.int p1]) (rest := []) (v := .int q2) X (c_Log_countNaming l D ca ad _ g p1 q2 hq2) g_Log_204 yo_Log_countNaming ⟨Nat.le_of_ble_eq_true rfl, Nat.le_of_ble_eq_true rfl⟩ hl hP hD (ci := 5) rfl rfl hS hA rfl rfl (Nat.le_of_ble_eq_true rfl) ⟨Nat.zero_le _, Nat.zero_le _⟩ d_Log_named_9 (fun H locs hP hS => ?_)
    refine lv_goto (tgt := 17) hx hb d_Log_named_12 (by decide) ?_
    cases hm
    exact ret_ri X hS d_Log_named_17
set_option maxHeartbeats 4000000 in
set_option maxRecDepth 100000 in
theorem k_m_Log_badAt_L102 {p : Program} {l : Launch} {e : Env} {s : State} {m : MethodId} {args : Array Value} {below : List Frame} {meth : Method} {c : Code} {D : va_G} {ca : Nat → ClassId} {ad : Nat → Nat} {A : Nat → Prop} (X : Cx p s m args meth c R_Log b_Log_badAt 3 (some .int) D ca) (hA : ∀ q, s.heap.size ≤ q → A q) {g : St_Log} : ∀ (n : Nat) (v1 : Int32) (v2 : Int32) (res : Int32), m_Log_badAt_L102 g n v1 v2 = some res → ∀ (H : Heap) (locs : List Loc), va_P D classes (wl_Log ca ad g) H → va_D (fun _ => True) (wl_Log ca ad g) → va_S A s.heap H locs → ∀ ls : Array Slot, lv_has ls 3 [(0, .ref (ad 0)), (1, .int v1), (2, .int v2)] → W p l e (RM 5 119) s m args below meth c H locs 0 0 (MQ below (QRr (.int res) A) args s 0 0 A) (F0 m 102 ls []) := by
  obtain ⟨hx, hb, hml, hr, hown, hts, hK, hlocks⟩ := id X
  intro n
  induction n with
  | zero =>
    intro v1 v2 res hm
    rw [m_Log_badAt_L102] at hm
    cases hm
  | succ n ih =>
    intro v1 v2 res hm H locs hP hD hS ls hl
    rw [m_Log_badAt_L102] at hm
    refine lv_iload_n hx hb d_Log_badAt_102 rfl (lv_at hl 2 rfl) ?_
    refine lv_aload_n hx hb d_Log_badAt_103 rfl (lv_at hl 0 rfl) ?_
    refine va_get (D := D) (ci := 5) (v := .ref (ad 21)) (C := R_Log) (T := F_Log) (N := 15) hx hb hts i_Log hown hK hP 0 rfl rfl 8 (by decide) (hts _ wf_Log_58) (fun _ h9 => h9) rfl d_Log_badAt_104 ?_
    obtain ⟨q6, hq6, hm⟩ := ob hm
    refine inv_rV (C := R_Marks) (As := []) (rest := [.int v2]) (v := .int q6) X (c_Marks_size l D ca (ad 21) (ad 22) (ad 23) (ad 24) (ad 25) (ad 26) _ (g_kept g) q6 hq6) g_Log_88 yo_Marks_size ⟨Nat.le_of_ble_eq_true rfl, Nat.le_of_ble_eq_true rfl⟩ hl hP hD [21, 22, 23, 24, 25, 26] rfl rfl (ci := 4) rfl rfl hS hA rfl rfl (Nat.le_of_ble_eq_true rfl) ⟨Nat.zero_le _, Nat.zero_le _⟩ d_Log_badAt_107 (fun H locs hP hS => ?_)
    refine lv_icmp_ge (tgt := 148) hx hb d_Log_badAt_110 (by decide) (fun c7 => ?_) (fun c7 => ?_)
    · replace hm := ip c7 hm
      refine lv_iload_n hx hb d_Log_badAt_148 rfl (lv_at hl 1 rfl) ?_
      refine lv_aload_n hx hb d_Log_badAt_149 rfl (lv_at hl 0 rfl) ?_
      refine va_get (D := D) (ci := 5) (v := .ref (ad 1)) (C := R_Log) (T := F_Log) (N := 15) hx hb hts i_Log hown hK hP 0 rfl rfl 0 (by decide) (hts _ wf_Log_14) (fun _ h9 => h9) rfl d_Log_badAt_150 ?_
      obtain ⟨q8, hq8, hm⟩ := ob hm
      refine inv_rV (C := R_Medium) (As := []) (rest := [.int v1]) (v := .int q8) X (c_Medium_rows l D ca (ad 1) (ad 2) _ (g_medium g) q8 hq8) g_Log_36 yo_Medium_rows ⟨Nat.le_of_ble_eq_true rfl, Nat.le_of_ble_eq_true rfl⟩ hl hP hD [1, 2] rfl rfl (ci := 0) rfl rfl hS hA rfl rfl (Nat.le_of_ble_eq_true rfl) ⟨Nat.zero_le _, Nat.zero_le _⟩ d_Log_badAt_153 (fun H locs hP hS => ?_)
      refine lv_icmp_ge (tgt := 163) hx hb d_Log_badAt_156 (by decide) (fun c9 => ?_) (fun c9 => ?_)
      · replace hm := ip c9 hm
        refine lv_iconst (v := (-1)) hx hb d_Log_badAt_163 (by decide) ?_
        cases hm
        exact ret_ri X hS d_Log_badAt_164
      · replace hm := ineg c9 hm
        refine lv_iload_n hx hb d_Log_badAt_159 rfl (lv_at hl 1 rfl) ?_
        refine lv_goto (tgt := 164) hx hb d_Log_badAt_160 (by decide) ?_
        cases hm
        exact ret_ri X hS d_Log_badAt_164
    · replace hm := ineg c7 hm
      refine lv_aload_n hx hb d_Log_badAt_113 rfl (lv_at hl 0 rfl) ?_
      refine va_get (D := D) (ci := 5) (v := .ref (ad 21)) (C := R_Log) (T := F_Log) (N := 15) hx hb hts i_Log hown hK hP 0 rfl rfl 8 (by decide) (hts _ wf_Log_58) (fun _ h9 => h9) rfl d_Log_badAt_114 ?_
      refine lv_iload_n hx hb d_Log_badAt_117 rfl (lv_at hl 2 rfl) ?_
      obtain ⟨q10, hq10, hm⟩ := ob hm
      refine inv_rV (C := R_Marks) (As := [.int v2]) (rest := []) (v := .int q10) X (c_Marks_rowAt l D ca (ad 21) (ad 22) (ad 23) (ad 24) (ad 25) (ad 26) _ (g_kept g) v2 q10 hq10) g_Log_216 yo_Marks_rowAt ⟨Nat.le_of_ble_eq_true rfl, Nat.le_of_ble_eq_true rfl⟩ hl hP hD [21, 22, 23, 24, 25, 26] rfl rfl (ci := 4) rfl rfl hS hA rfl rfl (Nat.le_of_ble_eq_true rfl) ⟨Nat.zero_le _, Nat.zero_le _⟩ d_Log_badAt_118 (fun H locs hP hS => ?_)
      refine lv_iload_n hx hb d_Log_badAt_121 rfl (lv_at hl 1 rfl) ?_
      refine lv_icmp_ge (tgt := 142) hx hb d_Log_badAt_122 (by decide) (fun c11 => ?_) (fun c11 => ?_)
      · replace hm := ip c11 hm
        refine lv_iinc (v := (v2 + 1)) (lv' := [(2, .int (v2 + 1)), (0, .ref (ad 0)), (1, .int v1)]) hx hb d_Log_badAt_142 hl (k := 2) rfl rfl (by decide) rfl (fun ls hl => ?_)
        refine lv_goto (tgt := 102) hx hb d_Log_badAt_145 (by decide) ?_
        exact ih  v1 (v2 + 1) _ hm _ _ hP hD hS ls (lv_sub hl [1, 2, 0] rfl)
      · replace hm := ineg c11 hm
        refine lv_aload_n hx hb d_Log_badAt_125 rfl (lv_at hl 0 rfl) ?_
        refine lv_iload_n hx hb d_Log_badAt_126 rfl (lv_at hl 2 rfl) ?_
        obtain ⟨q12, hq12, hm⟩ := ob hm
        refine inv_rVa (C := R_Log) (As := [.int v2]) (rest := []) (v := .int q12) X (c_Log_isKeptAsFound l D ca ad _ g v2 q12 hq12) g_Log_217 yo_Log_isKeptAsFound ⟨Nat.le_of_ble_eq_true rfl, Nat.le_of_ble_eq_true rfl⟩ hl hP hD (ci := 5) rfl rfl hS hA rfl rfl (Nat.le_of_ble_eq_true rfl) ⟨Nat.zero_le _, Nat.zero_le _⟩ d_Log_badAt_127 (fun H locs hP hS => ?_)
        refine lv_if_ne (tgt := 142) hx hb d_Log_badAt_130 (by decide) (fun c13 => ?_) (fun c13 => ?_)
        · replace hm := ineg c13 hm
          refine lv_iinc (v := (v2 + 1)) (lv' := [(2, .int (v2 + 1)), (0, .ref (ad 0)), (1, .int v1)]) hx hb d_Log_badAt_142 hl (k := 2) rfl rfl (by decide) rfl (fun ls hl => ?_)
          refine lv_goto (tgt := 102) hx hb d_Log_badAt_145 (by decide) ?_
          exact ih  v1 (v2 + 1) _ hm _ _ hP hD hS ls (lv_sub hl [1, 2, 0] rfl)
        · replace hm := ip c13 hm
          refine lv_aload_n hx hb d_Log_badAt_133 rfl (lv_at hl 0 rfl) ?_
          refine va_get (D := D) (ci := 5) (v := .ref (ad 21)) (C := R_Log) (T := F_Log) (N := 15) hx hb hts i_Log hown hK hP 0 rfl rfl 8 (by decide) (hts _ wf_Log_58) (fun _ h9 => h9) rfl d_Log_badAt_134 ?_
          refine lv_iload_n hx hb d_Log_badAt_137 rfl (lv_at hl 2 rfl) ?_
          obtain ⟨q14, hq14, hm⟩ := ob hm
          refine inv_rV (C := R_Marks) (As := [.int v2]) (rest := []) (v := .int q14) X (c_Marks_rowAt l D ca (ad 21) (ad 22) (ad 23) (ad 24) (ad 25) (ad 26) _ (g_kept g) v2 q14 hq14) g_Log_216 yo_Marks_rowAt ⟨Nat.le_of_ble_eq_true rfl, Nat.le_of_ble_eq_true rfl⟩ hl hP hD [21, 22, 23, 24, 25, 26] rfl rfl (ci := 4) rfl rfl hS hA rfl rfl (Nat.le_of_ble_eq_true rfl) ⟨Nat.zero_le _, Nat.zero_le _⟩ d_Log_badAt_138 (fun H locs hP hS => ?_)
          refine lv_istore_n (lv' := [(1, .int q14), (0, .ref (ad 0)), (2, .int v2)]) hx hb d_Log_badAt_141 rfl hl (by decide) rfl (fun ls hl => ?_)
          refine lv_iinc (v := (v2 + 1)) (lv' := [(2, .int (v2 + 1)), (1, .int q14), (0, .ref (ad 0))]) hx hb d_Log_badAt_142 hl (k := 2) rfl rfl (by decide) rfl (fun ls hl => ?_)
          refine lv_goto (tgt := 102) hx hb d_Log_badAt_145 (by decide) ?_
          exact ih  q14 (v2 + 1) _ hm _ _ hP hD hS ls (lv_sub hl [2, 1, 0] rfl)
set_option maxHeartbeats 4000000 in
set_option maxRecDepth 100000 in
theorem k_m_Log_badAt_L54 {p : Program} {l : Launch} {e : Env} {s : State} {m : MethodId} {args : Array Value} {below : List Frame} {meth : Method} {c : Code} {D : va_G} {ca : Nat → ClassId} {ad : Nat → Nat} {A : Nat → Prop} (X : Cx p s m args meth c R_Log b_Log_badAt 3 (some .int) D ca) (hA : ∀ q, s.heap.size ≤ q → A q) {g : St_Log} : ∀ (n : Nat) (v1 : Int32) (v2 : Int32) (res : Int32), m_Log_badAt_L54 g n v1 v2 = some res → ∀ (H : Heap) (locs : List Loc), va_P D classes (wl_Log ca ad g) H → va_D (fun _ => True) (wl_Log ca ad g) → va_S A s.heap H locs → ∀ ls : Array Slot, lv_has ls 3 [(0, .ref (ad 0)), (1, .int v1), (2, .int v2)] → W p l e (RM 5 119) s m args below meth c H locs 0 0 (MQ below (QRr (.int res) A) args s 0 0 A) (F0 m 54 ls []) := by
  obtain ⟨hx, hb, hml, hr, hown, hts, hK, hlocks⟩ := id X
  intro n
  induction n with
  | zero =>
    intro v1 v2 res hm
    rw [m_Log_badAt_L54] at hm
    cases hm
  | succ n ih =>
    intro v1 v2 res hm H locs hP hD hS ls hl
    rw [m_Log_badAt_L54] at hm
    refine lv_iload_n hx hb d_Log_badAt_54 rfl (lv_at hl 2 rfl) ?_
    refine lv_aload_n hx hb d_Log_badAt_55 rfl (lv_at hl 0 rfl) ?_
    refine va_get (D := D) (ci := 5) (v := .ref (ad 15)) (C := R_Log) (T := F_Log) (N := 15) hx hb hts i_Log hown hK hP 0 rfl rfl 7 (by decide) (hts _ wf_Log_51) (fun _ h9 => h9) rfl d_Log_badAt_56 ?_
    obtain ⟨q4, hq4, hm⟩ := ob hm
    refine inv_rV (C := R_Parts) (As := []) (rest := [.int v2]) (v := .int q4) X (c_Parts_size l D ca (ad 15) (ad 16) (ad 17) (ad 18) (ad 19) (ad 20) _ (g_parts g) q4 hq4) g_Log_87 yo_Parts_size ⟨Nat.le_of_ble_eq_true rfl, Nat.le_of_ble_eq_true rfl⟩ hl hP hD [15, 16, 17, 18, 19, 20] rfl rfl (ci := 3) rfl rfl hS hA rfl rfl (Nat.le_of_ble_eq_true rfl) ⟨Nat.zero_le _, Nat.zero_le _⟩ d_Log_badAt_59 (fun H locs hP hS => ?_)
    refine lv_icmp_ge (tgt := 100) hx hb d_Log_badAt_62 (by decide) (fun c5 => ?_) (fun c5 => ?_)
    · replace hm := ip c5 hm
      refine lv_iconst (v := 0) hx hb d_Log_badAt_100 (by decide) ?_
      refine lv_istore_n (lv' := [(2, .int 0), (0, .ref (ad 0)), (1, .int v1)]) hx hb d_Log_badAt_101 rfl hl (by decide) rfl (fun ls hl => ?_)
      exact k_m_Log_badAt_L102 X hA FU  v1 0 _ hm _ _ hP hD hS ls (lv_sub hl [1, 2, 0] rfl)
    · replace hm := ineg c5 hm
      refine lv_aload_n hx hb d_Log_badAt_65 rfl (lv_at hl 0 rfl) ?_
      refine va_get (D := D) (ci := 5) (v := .ref (ad 15)) (C := R_Log) (T := F_Log) (N := 15) hx hb hts i_Log hown hK hP 0 rfl rfl 7 (by decide) (hts _ wf_Log_51) (fun _ h9 => h9) rfl d_Log_badAt_66 ?_
      refine lv_iload_n hx hb d_Log_badAt_69 rfl (lv_at hl 2 rfl) ?_
      obtain ⟨q15, hq15, hm⟩ := ob hm
      refine inv_rV (C := R_Parts) (As := [.int v2]) (rest := []) (v := .int q15) X (c_Parts_rowAt l D ca (ad 15) (ad 16) (ad 17) (ad 18) (ad 19) (ad 20) _ (g_parts g) v2 q15 hq15) g_Log_198 yo_Parts_rowAt ⟨Nat.le_of_ble_eq_true rfl, Nat.le_of_ble_eq_true rfl⟩ hl hP hD [15, 16, 17, 18, 19, 20] rfl rfl (ci := 3) rfl rfl hS hA rfl rfl (Nat.le_of_ble_eq_true rfl) ⟨Nat.zero_le _, Nat.zero_le _⟩ d_Log_badAt_70 (fun H locs hP hS => ?_)
      refine lv_iload_n hx hb d_Log_badAt_73 rfl (lv_at hl 1 rfl) ?_
      refine lv_icmp_ge (tgt := 94) hx hb d_Log_badAt_74 (by decide) (fun c16 => ?_) (fun c16 => ?_)
      · replace hm := ip c16 hm
        refine lv_iinc (v := (v2 + 1)) (lv' := [(2, .int (v2 + 1)), (0, .ref (ad 0)), (1, .int v1)]) hx hb d_Log_badAt_94 hl (k := 2) rfl rfl (by decide) rfl (fun ls hl => ?_)
        refine lv_goto (tgt := 54) hx hb d_Log_badAt_97 (by decide) ?_
        exact ih  v1 (v2 + 1) _ hm _ _ hP hD hS ls (lv_sub hl [1, 2, 0] rfl)
      · replace hm := ineg c16 hm
        refine lv_aload_n hx hb d_Log_badAt_77 rfl (lv_at hl 0 rfl) ?_
        refine lv_iload_n hx hb d_Log_badAt_78 rfl (lv_at hl 2 rfl) ?_
        obtain ⟨q17, hq17, hm⟩ := ob hm
        refine inv_rVa (C := R_Log) (As := [.int v2]) (rest := []) (v := .int q17) X (c_Log_isPartWhole l D ca ad _ g v2 q17 hq17) g_Log_201 yo_Log_isPartWhole ⟨Nat.le_of_ble_eq_true rfl, Nat.le_of_ble_eq_true rfl⟩ hl hP hD (ci := 5) rfl rfl hS hA rfl rfl (Nat.le_of_ble_eq_true rfl) ⟨Nat.zero_le _, Nat.zero_le _⟩ d_Log_badAt_79 (fun H locs hP hS => ?_)
        refine lv_if_ne (tgt := 94) hx hb d_Log_badAt_82 (by decide) (fun c18 => ?_) (fun c18 => ?_)
        · replace hm := ineg c18 hm
          refine lv_iinc (v := (v2 + 1)) (lv' := [(2, .int (v2 + 1)), (0, .ref (ad 0)), (1, .int v1)]) hx hb d_Log_badAt_94 hl (k := 2) rfl rfl (by decide) rfl (fun ls hl => ?_)
          refine lv_goto (tgt := 54) hx hb d_Log_badAt_97 (by decide) ?_
          exact ih  v1 (v2 + 1) _ hm _ _ hP hD hS ls (lv_sub hl [1, 2, 0] rfl)
        · replace hm := ip c18 hm
          refine lv_aload_n hx hb d_Log_badAt_85 rfl (lv_at hl 0 rfl) ?_
          refine va_get (D := D) (ci := 5) (v := .ref (ad 15)) (C := R_Log) (T := F_Log) (N := 15) hx hb hts i_Log hown hK hP 0 rfl rfl 7 (by decide) (hts _ wf_Log_51) (fun _ h9 => h9) rfl d_Log_badAt_86 ?_
          refine lv_iload_n hx hb d_Log_badAt_89 rfl (lv_at hl 2 rfl) ?_
          obtain ⟨q19, hq19, hm⟩ := ob hm
          refine inv_rV (C := R_Parts) (As := [.int v2]) (rest := []) (v := .int q19) X (c_Parts_rowAt l D ca (ad 15) (ad 16) (ad 17) (ad 18) (ad 19) (ad 20) _ (g_parts g) v2 q19 hq19) g_Log_198 yo_Parts_rowAt ⟨Nat.le_of_ble_eq_true rfl, Nat.le_of_ble_eq_true rfl⟩ hl hP hD [15, 16, 17, 18, 19, 20] rfl rfl (ci := 3) rfl rfl hS hA rfl rfl (Nat.le_of_ble_eq_true rfl) ⟨Nat.zero_le _, Nat.zero_le _⟩ d_Log_badAt_90 (fun H locs hP hS => ?_)
          refine lv_istore_n (lv' := [(1, .int q19), (0, .ref (ad 0)), (2, .int v2)]) hx hb d_Log_badAt_93 rfl hl (by decide) rfl (fun ls hl => ?_)
          refine lv_iinc (v := (v2 + 1)) (lv' := [(2, .int (v2 + 1)), (1, .int q19), (0, .ref (ad 0))]) hx hb d_Log_badAt_94 hl (k := 2) rfl rfl (by decide) rfl (fun ls hl => ?_)
          refine lv_goto (tgt := 54) hx hb d_Log_badAt_97 (by decide) ?_
          exact ih  q19 (v2 + 1) _ hm _ _ hP hD hS ls (lv_sub hl [2, 1, 0] rfl)
set_option maxHeartbeats 4000000 in
set_option maxRecDepth 100000 in
theorem k_m_Log_badAt_L12 {p : Program} {l : Launch} {e : Env} {s : State} {m : MethodId} {args : Array Value} {below : List Frame} {meth : Method} {c : Code} {D : va_G} {ca : Nat → ClassId} {ad : Nat → Nat} {A : Nat → Prop} (X : Cx p s m args meth c R_Log b_Log_badAt 3 (some .int) D ca) (hA : ∀ q, s.heap.size ≤ q → A q) {g : St_Log} : ∀ (n : Nat) (v1 : Int32) (res : Int32), m_Log_badAt_L12 g n v1 = some res → ∀ (H : Heap) (locs : List Loc), va_P D classes (wl_Log ca ad g) H → va_D (fun _ => True) (wl_Log ca ad g) → va_S A s.heap H locs → ∀ ls : Array Slot, lv_has ls 3 [(0, .ref (ad 0)), (1, .int v1)] → W p l e (RM 5 119) s m args below meth c H locs 0 0 (MQ below (QRr (.int res) A) args s 0 0 A) (F0 m 12 ls []) := by
  obtain ⟨hx, hb, hml, hr, hown, hts, hK, hlocks⟩ := id X
  intro n
  induction n with
  | zero =>
    intro v1 res hm
    rw [m_Log_badAt_L12] at hm
    cases hm
  | succ n ih =>
    intro v1 res hm H locs hP hD hS ls hl
    rw [m_Log_badAt_L12] at hm
    refine lv_iload_n hx hb d_Log_badAt_12 rfl (lv_at hl 1 rfl) ?_
    refine lv_iconst (v := 2) hx hb d_Log_badAt_13 (by decide) ?_
    refine lv_icmp_ge (tgt := 44) hx hb d_Log_badAt_14 (by decide) (fun c2 => ?_) (fun c2 => ?_)
    · replace hm := ip c2 hm
      refine lv_aload_n hx hb d_Log_badAt_44 rfl (lv_at hl 0 rfl) ?_
      refine va_get (D := D) (ci := 5) (v := .ref (ad 1)) (C := R_Log) (T := F_Log) (N := 15) hx hb hts i_Log hown hK hP 0 rfl rfl 0 (by decide) (hts _ wf_Log_14) (fun _ h9 => h9) rfl d_Log_badAt_45 ?_
      obtain ⟨q3, hq3, hm⟩ := ob hm
      refine inv_rV (C := R_Medium) (As := []) (rest := []) (v := .int q3) X (c_Medium_rows l D ca (ad 1) (ad 2) _ (g_medium g) q3 hq3) g_Log_36 yo_Medium_rows ⟨Nat.le_of_ble_eq_true rfl, Nat.le_of_ble_eq_true rfl⟩ hl hP hD [1, 2] rfl rfl (ci := 0) rfl rfl hS hA rfl rfl (Nat.le_of_ble_eq_true rfl) ⟨Nat.zero_le _, Nat.zero_le _⟩ d_Log_badAt_48 (fun H locs hP hS => ?_)
      refine lv_istore_n (lv' := [(1, .int q3), (0, .ref (ad 0))]) hx hb d_Log_badAt_51 rfl hl (by decide) rfl (fun ls hl => ?_)
      refine lv_iconst (v := 0) hx hb d_Log_badAt_52 (by decide) ?_
      refine lv_istore_n (lv' := [(2, .int 0), (1, .int q3), (0, .ref (ad 0))]) hx hb d_Log_badAt_53 rfl hl (by decide) rfl (fun ls hl => ?_)
      exact k_m_Log_badAt_L54 X hA FU  q3 0 _ hm _ _ hP hD hS ls (lv_sub hl [2, 1, 0] rfl)
    · replace hm := ineg c2 hm
      refine lv_aload_n hx hb d_Log_badAt_17 rfl (lv_at hl 0 rfl) ?_
      refine va_get (D := D) (ci := 5) (v := .ref (ad 1)) (C := R_Log) (T := F_Log) (N := 15) hx hb hts i_Log hown hK hP 0 rfl rfl 0 (by decide) (hts _ wf_Log_14) (fun _ h9 => h9) rfl d_Log_badAt_18 ?_
      refine lv_iload_n hx hb d_Log_badAt_21 rfl (lv_at hl 1 rfl) ?_
      obtain ⟨q20, hq20, hm⟩ := ob hm
      refine inv_rV (C := R_Medium) (As := [.int v1]) (rest := []) (v := .int q20) X (c_Medium_isClear l D ca (ad 1) (ad 2) _ (g_medium g) v1 q20 hq20) g_Log_210 yo_Medium_isClear ⟨Nat.le_of_ble_eq_true rfl, Nat.le_of_ble_eq_true rfl⟩ hl hP hD [1, 2] rfl rfl (ci := 0) rfl rfl hS hA rfl rfl (Nat.le_of_ble_eq_true rfl) ⟨Nat.zero_le _, Nat.zero_le _⟩ d_Log_badAt_22 (fun H locs hP hS => ?_)
      refine lv_if_ne (tgt := 38) hx hb d_Log_badAt_25 (by decide) (fun c21 => ?_) (fun c21 => ?_)
      · replace hm := ineg c21 hm
        refine lv_iinc (v := (v1 + 1)) (lv' := [(1, .int (v1 + 1)), (0, .ref (ad 0))]) hx hb d_Log_badAt_38 hl (k := 1) rfl rfl (by decide) rfl (fun ls hl => ?_)
        refine lv_goto (tgt := 12) hx hb d_Log_badAt_41 (by decide) ?_
        exact ih  (v1 + 1) _ hm _ _ hP hD hS ls (lv_sub hl [1, 0] rfl)
      · replace hm := ip c21 hm
        refine lv_aload_n hx hb d_Log_badAt_28 rfl (lv_at hl 0 rfl) ?_
        refine lv_iload_n hx hb d_Log_badAt_29 rfl (lv_at hl 1 rfl) ?_
        obtain ⟨q22, hq22, hm⟩ := ob hm
        refine inv_rVa (C := R_Log) (As := [.int v1]) (rest := []) (v := .int q22) X (c_Log_isGoodHead l D ca ad _ g v1 q22 hq22) g_Log_213 yo_Log_isGoodHead ⟨Nat.le_of_ble_eq_true rfl, Nat.le_of_ble_eq_true rfl⟩ hl hP hD (ci := 5) rfl rfl hS hA rfl rfl (Nat.le_of_ble_eq_true rfl) ⟨Nat.zero_le _, Nat.zero_le _⟩ d_Log_badAt_30 (fun H locs hP hS => ?_)
        refine lv_if_ne (tgt := 38) hx hb d_Log_badAt_33 (by decide) (fun c23 => ?_) (fun c23 => ?_)
        · replace hm := ineg c23 hm
          refine lv_iinc (v := (v1 + 1)) (lv' := [(1, .int (v1 + 1)), (0, .ref (ad 0))]) hx hb d_Log_badAt_38 hl (k := 1) rfl rfl (by decide) rfl (fun ls hl => ?_)
          refine lv_goto (tgt := 12) hx hb d_Log_badAt_41 (by decide) ?_
          exact ih  (v1 + 1) _ hm _ _ hP hD hS ls (lv_sub hl [1, 0] rfl)
        · replace hm := ip c23 hm
          refine lv_iload_n hx hb d_Log_badAt_36 rfl (lv_at hl 1 rfl) ?_
          cases hm
          exact ret_ri X hS d_Log_badAt_37
set_option maxHeartbeats 4000000 in
set_option maxRecDepth 100000 in
theorem c_Log_badAt (l : Launch) (D : va_G) (ca : Nat → ClassId) (ad : Nat → Nat) (sz : Nat) (g : St_Log)  (res : Int32) (hm : m_Log_badAt g = some res) : Met l y_Log_badAt (cws y_Log_badAt b_Log_badAt 3 (some .int)) (RM 5 119) (PreW D ca (wl_Log ca ad g) [.ref (ad 0)] sz) (QRr (.int res) (va_A [] sz)) 0 0 (va_A [] sz) := by
  refine met_ofR (own := R_Log) (by decide) rfl (Nat.le_of_ble_eq_true rfl) ?_
  intro p e s m below meth c A X hA hP hD ls hl
  obtain ⟨hx, hb, hml, hr, hown, hts, hK, hlocks⟩ := id X
  have hS : va_S A s.heap s.heap [] := va_S.rf
  have hl : lv_has ls 3 [(0, .ref (ad 0))] := hl
  unfold m_Log_badAt at hm
  refine lv_aload_n hx hb d_Log_badAt_0 rfl (lv_at hl 0 rfl) ?_
  refine va_get (D := D) (ci := 5) (v := .int (g_isOpen g)) (C := R_Log) (T := F_Log) (N := 15) hx hb hts i_Log hown hK hP 0 rfl rfl 14 (by decide) (hts _ wf_Log_69) (fun _ h9 => h9) rfl d_Log_badAt_1 ?_
  refine lv_if_ne (tgt := 10) hx hb d_Log_badAt_4 (by decide) (fun c1 => ?_) (fun c1 => ?_)
  · replace hm := ineg c1 hm
    refine lv_iconst (v := 0) hx hb d_Log_badAt_10 (by decide) ?_
    refine lv_istore_n (lv' := [(1, .int 0), (0, .ref (ad 0))]) hx hb d_Log_badAt_11 rfl hl (by decide) rfl (fun ls hl => ?_)
    exact k_m_Log_badAt_L12 X hA FU  0 _ hm _ _ hP hD hS ls (lv_sub hl [1, 0] rfl)
  · replace hm := ip c1 hm
    refine lv_bipush (v := (-3)) hx hb d_Log_badAt_7 (by decide) ?_
    cases hm
    exact ret_ri X hS d_Log_badAt_9
set_option maxHeartbeats 4000000 in
set_option maxRecDepth 100000 in
theorem c_Log_poke (l : Launch) (D : va_G) (ca : Nat → ClassId) (ad : Nat → Nat) (sz : Nat) (g : St_Log) (p1 : Int32) (p2 : Int32) (p3 : Int32) (res : Int32 × St_Log) (hm : m_Log_poke g p1 p2 p3 = some res) : Met l y_Log_poke (cws y_Log_poke b_Log_poke 4 (some .int)) (RM 2 45) (PreW D ca (wl_Log ca ad g) [.ref (ad 0), .int p1, .int p2, .int p3] sz) (QRm D (some (.int res.1)) (wl_Log ca ad res.2) (va_A (wl_Log ca ad g) sz)) 0 0 (va_A (wl_Log ca ad g) sz) := by
  refine met_ofM (own := R_Log) (by decide) rfl (Nat.le_of_ble_eq_true rfl) ?_
  intro p e s m below meth c A X hA hP hD ls hl
  obtain ⟨hx, hb, hml, hr, hown, hts, hK, hlocks⟩ := id X
  have hS : va_S A s.heap s.heap [] := va_S.rf
  have hl : lv_has ls 4 [(0, .ref (ad 0)), (1, .int p1), (2, .int p2), (3, .int p3)] := hl
  unfold m_Log_poke at hm
  refine lv_aload_n hx hb d_Log_poke_0 rfl (lv_at hl 0 rfl) ?_
  refine va_get (D := D) (ci := 5) (v := .ref (ad 1)) (C := R_Log) (T := F_Log) (N := 15) hx hb hts i_Log hown hK hP 0 rfl rfl 0 (by decide) (hts _ wf_Log_14) (fun _ h9 => h9) rfl d_Log_poke_1 ?_
  refine lv_iload_n hx hb d_Log_poke_4 rfl (lv_at hl 1 rfl) ?_
  refine lv_iload_n hx hb d_Log_poke_5 rfl (lv_at hl 2 rfl) ?_
  obtain ⟨q1, hq1, hm⟩ := ob hm
  refine inv_rV (C := R_Medium) (As := [.int p1, .int p2]) (rest := []) (v := .int q1) X (c_Medium_has l D ca (ad 1) (ad 2) _ (g_medium g) p1 p2 q1 hq1) g_Log_220 yo_Medium_has ⟨Nat.le_of_ble_eq_true rfl, Nat.le_of_ble_eq_true rfl⟩ hl hP hD [1, 2] rfl rfl (ci := 0) rfl rfl hS hA rfl rfl (Nat.le_of_ble_eq_true rfl) ⟨Nat.zero_le _, Nat.zero_le _⟩ d_Log_poke_6 (fun H locs hP hS => ?_)
  refine lv_if_eq (tgt := 24) hx hb d_Log_poke_9 (by decide) (fun c2 => ?_) (fun c2 => ?_)
  · replace hm := ip c2 hm
    refine lv_bipush (v := (-2)) hx hb d_Log_poke_24 (by decide) ?_
    cases hm
    exact ret_mi X hP hS d_Log_poke_26
  · replace hm := ineg c2 hm
    refine lv_iload_n hx hb d_Log_poke_12 rfl (lv_at hl 3 rfl) ?_
    refine lv_iconst (v := 1) hx hb d_Log_poke_13 (by decide) ?_
    refine lv_icmp_lt (tgt := 24) hx hb d_Log_poke_14 (by decide) (fun c3 => ?_) (fun c3 => ?_)
    · replace hm := ip c3 hm
      refine lv_bipush (v := (-2)) hx hb d_Log_poke_24 (by decide) ?_
      cases hm
      exact ret_mi X hP hS d_Log_poke_26
    · replace hm := ineg c3 hm
      refine lv_iload_n hx hb d_Log_poke_17 rfl (lv_at hl 3 rfl) ?_
      refine lv_sipush (v := 255) hx hb d_Log_poke_18 (by decide) ?_
      refine lv_icmp_le (tgt := 27) hx hb d_Log_poke_21 (by decide) (fun c4 => ?_) (fun c4 => ?_)
      · replace hm := ip c4 hm
        refine lv_aload_n hx hb d_Log_poke_27 rfl (lv_at hl 0 rfl) ?_
        refine va_get (D := D) (ci := 5) (v := .ref (ad 1)) (C := R_Log) (T := F_Log) (N := 15) hx hb hts i_Log hown hK hP 0 rfl rfl 0 (by decide) (hts _ wf_Log_14) (fun _ h9 => h9) rfl d_Log_poke_28 ?_
        refine lv_iload_n hx hb d_Log_poke_31 rfl (lv_at hl 1 rfl) ?_
        refine lv_iload_n hx hb d_Log_poke_32 rfl (lv_at hl 2 rfl) ?_
        refine lv_iload_n hx hb d_Log_poke_33 rfl (lv_at hl 3 rfl) ?_
        obtain ⟨q5, hq5, hm⟩ := ob hm
        refine inv_mU (C := R_Medium) (As := [.int p1, .int p2, .int p3]) (rest := []) (ws' := wl_Log ca ad (s_medium g q5)) X (c_Medium_alter l D ca (ad 1) (ad 2) _ (g_medium g) p1 p2 p3 q5 hq5) g_Log_223 yo_Medium_alter ⟨Nat.le_of_ble_eq_true rfl, Nat.le_of_ble_eq_true rfl⟩ hl hP hD [1, 2] rfl rfl rfl rfl (ci := 0) rfl rfl hS hA rfl rfl (Nat.le_of_ble_eq_true rfl) ⟨Nat.zero_le _, Nat.zero_le _⟩ d_Log_poke_34 (fun H locs hP hD hS => ?_)
        refine lv_aload_n hx hb d_Log_poke_37 rfl (lv_at hl 0 rfl) ?_
        refine va_get (D := D) (ci := 5) (v := .ref (ad 1)) (C := R_Log) (T := F_Log) (N := 15) hx hb hts i_Log hown hK hP 0 rfl rfl 0 (by decide) (hts _ wf_Log_14) (fun _ h9 => h9) rfl d_Log_poke_38 ?_
        refine lv_iload_n hx hb d_Log_poke_41 rfl (lv_at hl 1 rfl) ?_
        refine lv_iload_n hx hb d_Log_poke_42 rfl (lv_at hl 2 rfl) ?_
        obtain ⟨q6, hq6, hm⟩ := ob hm
        refine inv_rV (C := R_Medium) (As := [.int p1, .int p2]) (rest := []) (v := .int q6) X (c_Medium_at l D ca (ad 1) (ad 2) _ q5 p1 p2 q6 hq6) g_Log_226 yo_Medium_at ⟨Nat.le_of_ble_eq_true rfl, Nat.le_of_ble_eq_true rfl⟩ hl hP hD [1, 2] rfl rfl (ci := 0) rfl rfl hS hA rfl rfl (Nat.le_of_ble_eq_true rfl) ⟨Nat.zero_le _, Nat.zero_le _⟩ d_Log_poke_43 (fun H locs hP hS => ?_)
        cases hm
        exact ret_mi X hP hS d_Log_poke_46
      · replace hm := ineg c4 hm
        refine lv_bipush (v := (-2)) hx hb d_Log_poke_24 (by decide) ?_
        cases hm
        exact ret_mi X hP hS d_Log_poke_26
set_option maxHeartbeats 4000000 in
set_option maxRecDepth 100000 in
theorem c_Log_byteAt (l : Launch) (D : va_G) (ca : Nat → ClassId) (ad : Nat → Nat) (sz : Nat) (g : St_Log) (p1 : Int32) (p2 : Int32) (res : Int32) (hm : m_Log_byteAt g p1 p2 = some res) : Met l y_Log_byteAt (cws y_Log_byteAt b_Log_byteAt 3 (some .int)) (RM 2 44) (PreW D ca (wl_Log ca ad g) [.ref (ad 0), .int p1, .int p2] sz) (QRr (.int res) (va_A [] sz)) 0 0 (va_A [] sz) := by
  refine met_ofR (own := R_Log) (by decide) rfl (Nat.le_of_ble_eq_true rfl) ?_
  intro p e s m below meth c A X hA hP hD ls hl
  obtain ⟨hx, hb, hml, hr, hown, hts, hK, hlocks⟩ := id X
  have hS : va_S A s.heap s.heap [] := va_S.rf
  have hl : lv_has ls 3 [(0, .ref (ad 0)), (1, .int p1), (2, .int p2)] := hl
  unfold m_Log_byteAt at hm
  refine lv_aload_n hx hb d_Log_byteAt_0 rfl (lv_at hl 0 rfl) ?_
  refine va_get (D := D) (ci := 5) (v := .ref (ad 1)) (C := R_Log) (T := F_Log) (N := 15) hx hb hts i_Log hown hK hP 0 rfl rfl 0 (by decide) (hts _ wf_Log_14) (fun _ h9 => h9) rfl d_Log_byteAt_1 ?_
  refine lv_iload_n hx hb d_Log_byteAt_4 rfl (lv_at hl 1 rfl) ?_
  refine lv_iload_n hx hb d_Log_byteAt_5 rfl (lv_at hl 2 rfl) ?_
  obtain ⟨q1, hq1, hm⟩ := ob hm
  refine inv_rV (C := R_Medium) (As := [.int p1, .int p2]) (rest := []) (v := .int q1) X (c_Medium_has l D ca (ad 1) (ad 2) _ (g_medium g) p1 p2 q1 hq1) g_Log_220 yo_Medium_has ⟨Nat.le_of_ble_eq_true rfl, Nat.le_of_ble_eq_true rfl⟩ hl hP hD [1, 2] rfl rfl (ci := 0) rfl rfl hS hA rfl rfl (Nat.le_of_ble_eq_true rfl) ⟨Nat.zero_le _, Nat.zero_le _⟩ d_Log_byteAt_6 (fun H locs hP hS => ?_)
  refine lv_if_eq (tgt := 24) hx hb d_Log_byteAt_9 (by decide) (fun c2 => ?_) (fun c2 => ?_)
  · replace hm := ip c2 hm
    refine lv_bipush (v := (-2)) hx hb d_Log_byteAt_24 (by decide) ?_
    cases hm
    exact ret_ri X hS d_Log_byteAt_26
  · replace hm := ineg c2 hm
    refine lv_aload_n hx hb d_Log_byteAt_12 rfl (lv_at hl 0 rfl) ?_
    refine va_get (D := D) (ci := 5) (v := .ref (ad 1)) (C := R_Log) (T := F_Log) (N := 15) hx hb hts i_Log hown hK hP 0 rfl rfl 0 (by decide) (hts _ wf_Log_14) (fun _ h9 => h9) rfl d_Log_byteAt_13 ?_
    refine lv_iload_n hx hb d_Log_byteAt_16 rfl (lv_at hl 1 rfl) ?_
    refine lv_iload_n hx hb d_Log_byteAt_17 rfl (lv_at hl 2 rfl) ?_
    obtain ⟨q3, hq3, hm⟩ := ob hm
    refine inv_rV (C := R_Medium) (As := [.int p1, .int p2]) (rest := []) (v := .int q3) X (c_Medium_at l D ca (ad 1) (ad 2) _ (g_medium g) p1 p2 q3 hq3) g_Log_226 yo_Medium_at ⟨Nat.le_of_ble_eq_true rfl, Nat.le_of_ble_eq_true rfl⟩ hl hP hD [1, 2] rfl rfl (ci := 0) rfl rfl hS hA rfl rfl (Nat.le_of_ble_eq_true rfl) ⟨Nat.zero_le _, Nat.zero_le _⟩ d_Log_byteAt_18 (fun H locs hP hS => ?_)
    refine lv_goto (tgt := 26) hx hb d_Log_byteAt_21 (by decide) ?_
    cases hm
    exact ret_ri X hS d_Log_byteAt_26
set_option maxHeartbeats 4000000 in
set_option maxRecDepth 100000 in
theorem c_Log_toldOpen (l : Launch) (D : va_G) (ca : Nat → ClassId) (ad : Nat → Nat) (sz : Nat) (g : St_Log) (p1 : Int32) (res : Int32) (hm : m_Log_toldOpen g p1 = some res) : Met l y_Log_toldOpen (cws y_Log_toldOpen b_Log_toldOpen 3 (some .int)) (RM 1 22) (PreW D ca (wl_Log ca ad g) [.ref (ad 0), .int p1] sz) (QRr (.int res) (va_A [] sz)) 0 0 (va_A [] sz) := by
  refine met_ofR (own := R_Log) (by decide) rfl (Nat.le_of_ble_eq_true rfl) ?_
  intro p e s m below meth c A X hA hP hD ls hl
  obtain ⟨hx, hb, hml, hr, hown, hts, hK, hlocks⟩ := id X
  have hS : va_S A s.heap s.heap [] := va_S.rf
  have hl : lv_has ls 3 [(0, .ref (ad 0)), (1, .int p1)] := hl
  unfold m_Log_toldOpen at hm
  refine lv_iload_n hx hb d_Log_toldOpen_0 rfl (lv_at hl 1 rfl) ?_
  by_cases c1 : p1 = 3
  · replace hm := ip c1 hm
    refine lv_tableIn (off := 39) (tgt := 40) hx hb d_Log_toldOpen_1 (by rw [c1]; decide) (by rw [c1]; decide) (by rw [c1]; rfl) (by decide) ?_
    refine lv_aload_n hx hb d_Log_toldOpen_40 rfl (lv_at hl 0 rfl) ?_
    refine va_get (D := D) (ci := 5) (v := .ref (ad 11)) (C := R_Log) (T := F_Log) (N := 15) hx hb hts i_Log hown hK hP 0 rfl rfl 5 (by decide) (hts _ wf_Log_41) (fun _ h9 => h9) rfl d_Log_toldOpen_41 ?_
    obtain ⟨q2, hq2, hm⟩ := ob hm
    refine inv_rV (C := R_Room) (As := []) (rest := []) (v := .int q2) X (c_Room_countFree l D ca (ad 11) (ad 12) _ (g_room g) q2 hq2) g_Log_380 yo_Room_countFree ⟨Nat.le_of_ble_eq_true rfl, Nat.le_of_ble_eq_true rfl⟩ hl hP hD [11, 12] rfl rfl (ci := 2) rfl rfl hS hA rfl rfl (Nat.le_of_ble_eq_true rfl) ⟨Nat.zero_le _, Nat.zero_le _⟩ d_Log_toldOpen_44 (fun H locs hP hS => ?_)
    cases hm
    exact ret_ri X hS d_Log_toldOpen_47
  replace hm := ineg c1 hm
  by_cases c3 : p1 = 4
  · replace hm := ip c3 hm
    refine lv_tableIn (off := 47) (tgt := 48) hx hb d_Log_toldOpen_1 (by rw [c3]; decide) (by rw [c3]; decide) (by rw [c3]; rfl) (by decide) ?_
    refine lv_aload_n hx hb d_Log_toldOpen_48 rfl (lv_at hl 0 rfl) ?_
    refine va_get (D := D) (ci := 5) (v := .ref (ad 15)) (C := R_Log) (T := F_Log) (N := 15) hx hb hts i_Log hown hK hP 0 rfl rfl 7 (by decide) (hts _ wf_Log_51) (fun _ h9 => h9) rfl d_Log_toldOpen_49 ?_
    obtain ⟨q4, hq4, hm⟩ := ob hm
    refine inv_rV (C := R_Parts) (As := []) (rest := []) (v := .int q4) X (c_Parts_size l D ca (ad 15) (ad 16) (ad 17) (ad 18) (ad 19) (ad 20) _ (g_parts g) q4 hq4) g_Log_87 yo_Parts_size ⟨Nat.le_of_ble_eq_true rfl, Nat.le_of_ble_eq_true rfl⟩ hl hP hD [15, 16, 17, 18, 19, 20] rfl rfl (ci := 3) rfl rfl hS hA rfl rfl (Nat.le_of_ble_eq_true rfl) ⟨Nat.zero_le _, Nat.zero_le _⟩ d_Log_toldOpen_52 (fun H locs hP hS => ?_)
    cases hm
    exact ret_ri X hS d_Log_toldOpen_55
  replace hm := ineg c3 hm
  by_cases c5 : p1 = 5
  · replace hm := ip c5 hm
    refine lv_tableIn (off := 55) (tgt := 56) hx hb d_Log_toldOpen_1 (by rw [c5]; decide) (by rw [c5]; decide) (by rw [c5]; rfl) (by decide) ?_
    refine lv_aload_n hx hb d_Log_toldOpen_56 rfl (lv_at hl 0 rfl) ?_
    refine va_get (D := D) (ci := 5) (v := .int (g_greatestPart g)) (C := R_Log) (T := F_Log) (N := 15) hx hb hts i_Log hown hK hP 0 rfl rfl 12 (by decide) (hts _ wf_Log_268) (fun _ h9 => h9) rfl d_Log_toldOpen_57 ?_
    cases hm
    exact ret_ri X hS d_Log_toldOpen_60
  replace hm := ineg c5 hm
  by_cases c6 : p1 = 6
  · replace hm := ip c6 hm
    refine lv_tableIn (off := 60) (tgt := 61) hx hb d_Log_toldOpen_1 (by rw [c6]; decide) (by rw [c6]; decide) (by rw [c6]; rfl) (by decide) ?_
    refine lv_aload_n hx hb d_Log_toldOpen_61 rfl (lv_at hl 0 rfl) ?_
    refine va_get (D := D) (ci := 5) (v := .int (g_greatestMark g)) (C := R_Log) (T := F_Log) (N := 15) hx hb hts i_Log hown hK hP 0 rfl rfl 13 (by decide) (hts _ wf_Log_89) (fun _ h9 => h9) rfl d_Log_toldOpen_62 ?_
    cases hm
    exact ret_ri X hS d_Log_toldOpen_65
  replace hm := ineg c6 hm
  by_cases c7 : p1 = 7
  · replace hm := ip c7 hm
    refine lv_tableIn (off := 65) (tgt := 66) hx hb d_Log_toldOpen_1 (by rw [c7]; decide) (by rw [c7]; decide) (by rw [c7]; rfl) (by decide) ?_
    refine lv_aload_n hx hb d_Log_toldOpen_66 rfl (lv_at hl 0 rfl) ?_
    refine va_get (D := D) (ci := 5) (v := .int (g_serial g)) (C := R_Log) (T := F_Log) (N := 15) hx hb hts i_Log hown hK hP 0 rfl rfl 11 (by decide) (hts _ wf_Log_137) (fun _ h9 => h9) rfl d_Log_toldOpen_67 ?_
    cases hm
    exact ret_ri X hS d_Log_toldOpen_70
  replace hm := ineg c7 hm
  by_cases c8 : p1 = 8
  · replace hm := ip c8 hm
    refine lv_tableIn (off := 70) (tgt := 71) hx hb d_Log_toldOpen_1 (by rw [c8]; decide) (by rw [c8]; decide) (by rw [c8]; rfl) (by decide) ?_
    refine lv_aload_n hx hb d_Log_toldOpen_71 rfl (lv_at hl 0 rfl) ?_
    refine va_get (D := D) (ci := 5) (v := .ref (ad 27)) (C := R_Log) (T := F_Log) (N := 15) hx hb hts i_Log hown hK hP 0 rfl rfl 9 (by decide) (hts _ wf_Log_62) (fun _ h9 => h9) rfl d_Log_toldOpen_72 ?_
    obtain ⟨q9, hq9, hm⟩ := ob hm
    refine inv_rV (C := R_Marks) (As := []) (rest := []) (v := .int q9) X (c_Marks_size l D ca (ad 27) (ad 28) (ad 29) (ad 30) (ad 31) (ad 32) _ (g_made g) q9 hq9) g_Log_88 yo_Marks_size ⟨Nat.le_of_ble_eq_true rfl, Nat.le_of_ble_eq_true rfl⟩ hl hP hD [27, 28, 29, 30, 31, 32] rfl rfl (ci := 4) rfl rfl hS hA rfl rfl (Nat.le_of_ble_eq_true rfl) ⟨Nat.zero_le _, Nat.zero_le _⟩ d_Log_toldOpen_75 (fun H locs hP hS => ?_)
    cases hm
    exact ret_ri X hS d_Log_toldOpen_78
  replace hm := ineg c8 hm
  refine lv_tableOut (tgt := 79) hx hb d_Log_toldOpen_1 (by have c1n := lv_neT (a := 3) c1 (by decide); have c3n := lv_neT (a := 4) c3 (by decide); have c5n := lv_neT (a := 5) c5 (by decide); have c6n := lv_neT (a := 6) c6 (by decide); have c7n := lv_neT (a := 7) c7 (by decide); have c8n := lv_neT (a := 8) c8 (by decide); omega) (by decide) ?_
  refine lv_iload_n hx hb d_Log_toldOpen_79 rfl (lv_at hl 1 rfl) ?_
  refine lv_bipush (v := 9) hx hb d_Log_toldOpen_80 (by decide) ?_
  refine lv_isub hx hb d_Log_toldOpen_82 ?_
  refine lv_istore_n (lv' := [(2, .int (p1 - 9)), (0, .ref (ad 0)), (1, .int p1)]) hx hb d_Log_toldOpen_83 rfl hl (by decide) rfl (fun ls hl => ?_)
  refine lv_iload_n hx hb d_Log_toldOpen_84 rfl (lv_at hl 0 rfl) ?_
  obtain ⟨q10, hq10, hm⟩ := ob hm
  refine inv_rS (As := [.int (p1 - 9)]) (rest := []) (v := .int q10) X (c_Log_isGroup l D ca  _ (p1 - 9) q10 hq10) g_Log_132 yo_Log_isGroup ⟨Nat.le_of_ble_eq_true rfl, Nat.le_of_ble_eq_true rfl⟩ hl hP hD [] rfl rfl hS hA rfl rfl (Nat.le_of_ble_eq_true rfl) ⟨Nat.zero_le _, Nat.zero_le _⟩ d_Log_toldOpen_85 (fun H locs hP hS => ?_)
  refine lv_if_eq (tgt := 100) hx hb d_Log_toldOpen_88 (by decide) (fun c11 => ?_) (fun c11 => ?_)
  · replace hm := ip c11 hm
    refine lv_bipush (v := (-2)) hx hb d_Log_toldOpen_100 (by decide) ?_
    cases hm
    exact ret_ri X hS d_Log_toldOpen_102
  · replace hm := ineg c11 hm
    refine lv_aload_n hx hb d_Log_toldOpen_91 rfl (lv_at hl 1 rfl) ?_
    refine va_get (D := D) (ci := 5) (v := .ref (ad 33)) (C := R_Log) (T := F_Log) (N := 15) hx hb hts i_Log hown hK hP 0 rfl rfl 10 (by decide) (hts _ wf_Log_65) (fun _ h9 => h9) rfl d_Log_toldOpen_92 ?_
    refine lv_iload_n hx hb d_Log_toldOpen_95 rfl (lv_at hl 0 rfl) ?_
    obtain ⟨b12, hm⟩ := on hm
    refine va_iald hx hb hK hP 33 2 rfl rfl b12 d_Log_toldOpen_96 ?_
    refine lv_goto (tgt := 102) hx hb d_Log_toldOpen_97 (by decide) ?_
    cases hm
    exact ret_ri X hS d_Log_toldOpen_102
set_option maxHeartbeats 4000000 in
set_option maxRecDepth 100000 in
theorem c_Log_told (l : Launch) (D : va_G) (ca : Nat → ClassId) (ad : Nat → Nat) (sz : Nat) (g : St_Log) (p1 : Int32) (res : Int32) (hm : m_Log_told g p1 = some res) : Met l y_Log_told (cws y_Log_told b_Log_told 2 (some .int)) (RM 2 44) (PreW D ca (wl_Log ca ad g) [.ref (ad 0), .int p1] sz) (QRr (.int res) (va_A [] sz)) 0 0 (va_A [] sz) := by
  refine met_ofR (own := R_Log) (by decide) rfl (Nat.le_of_ble_eq_true rfl) ?_
  intro p e s m below meth c A X hA hP hD ls hl
  obtain ⟨hx, hb, hml, hr, hown, hts, hK, hlocks⟩ := id X
  have hS : va_S A s.heap s.heap [] := va_S.rf
  have hl : lv_has ls 2 [(0, .ref (ad 0)), (1, .int p1)] := hl
  unfold m_Log_told at hm
  refine lv_iload_n hx hb d_Log_told_0 rfl (lv_at hl 1 rfl) ?_
  refine lv_if_lt (tgt := 10) hx hb d_Log_told_1 (by decide) (fun c1 => ?_) (fun c1 => ?_)
  · replace hm := ip c1 hm
    refine lv_bipush (v := (-2)) hx hb d_Log_told_10 (by decide) ?_
    cases hm
    exact ret_ri X hS d_Log_told_12
  · replace hm := ineg c1 hm
    refine lv_iload_n hx hb d_Log_told_4 rfl (lv_at hl 1 rfl) ?_
    refine lv_bipush (v := 17) hx hb d_Log_told_5 (by decide) ?_
    refine lv_icmp_lt (tgt := 13) hx hb d_Log_told_7 (by decide) (fun c2 => ?_) (fun c2 => ?_)
    · replace hm := ip c2 hm
      refine lv_iload_n hx hb d_Log_told_13 rfl (lv_at hl 1 rfl) ?_
      refine lv_if_ne (tgt := 30) hx hb d_Log_told_14 (by decide) (fun c3 => ?_) (fun c3 => ?_)
      · replace hm := ineg c3 hm
        refine lv_iload_n hx hb d_Log_told_30 rfl (lv_at hl 1 rfl) ?_
        refine lv_iconst (v := 1) hx hb d_Log_told_31 (by decide) ?_
        refine lv_icmp_ne (tgt := 43) hx hb d_Log_told_32 (by decide) (fun c4 => ?_) (fun c4 => ?_)
        · replace hm := ineg c4 hm
          refine lv_iload_n hx hb d_Log_told_43 rfl (lv_at hl 1 rfl) ?_
          refine lv_iconst (v := 2) hx hb d_Log_told_44 (by decide) ?_
          refine lv_icmp_ne (tgt := 56) hx hb d_Log_told_45 (by decide) (fun c5 => ?_) (fun c5 => ?_)
          · replace hm := ineg c5 hm
            refine lv_aload_n hx hb d_Log_told_56 rfl (lv_at hl 0 rfl) ?_
            refine va_get (D := D) (ci := 5) (v := .int (g_isOpen g)) (C := R_Log) (T := F_Log) (N := 15) hx hb hts i_Log hown hK hP 0 rfl rfl 14 (by decide) (hts _ wf_Log_69) (fun _ h9 => h9) rfl d_Log_told_57 ?_
            refine lv_if_eq (tgt := 71) hx hb d_Log_told_60 (by decide) (fun c6 => ?_) (fun c6 => ?_)
            · replace hm := ip c6 hm
              refine lv_iconst (v := 0) hx hb d_Log_told_71 (by decide) ?_
              cases hm
              exact ret_ri X hS d_Log_told_72
            · replace hm := ineg c6 hm
              refine lv_aload_n hx hb d_Log_told_63 rfl (lv_at hl 0 rfl) ?_
              refine lv_iload_n hx hb d_Log_told_64 rfl (lv_at hl 1 rfl) ?_
              obtain ⟨q7, hq7, hm⟩ := ob hm
              refine inv_rVa (C := R_Log) (As := [.int p1]) (rest := []) (v := .int q7) X (c_Log_toldOpen l D ca ad _ g p1 q7 hq7) g_Log_232 yo_Log_toldOpen ⟨Nat.le_of_ble_eq_true rfl, Nat.le_of_ble_eq_true rfl⟩ hl hP hD (ci := 5) rfl rfl hS hA rfl rfl (Nat.le_of_ble_eq_true rfl) ⟨Nat.zero_le _, Nat.zero_le _⟩ d_Log_told_65 (fun H locs hP hS => ?_)
              refine lv_goto (tgt := 72) hx hb d_Log_told_68 (by decide) ?_
              cases hm
              exact ret_ri X hS d_Log_told_72
          · replace hm := ip c5 hm
            refine lv_aload_n hx hb d_Log_told_48 rfl (lv_at hl 0 rfl) ?_
            refine va_get (D := D) (ci := 5) (v := .ref (ad 1)) (C := R_Log) (T := F_Log) (N := 15) hx hb hts i_Log hown hK hP 0 rfl rfl 0 (by decide) (hts _ wf_Log_14) (fun _ h9 => h9) rfl d_Log_told_49 ?_
            obtain ⟨q8, hq8, hm⟩ := ob hm
            refine inv_rV (C := R_Medium) (As := []) (rest := []) (v := .int q8) X (c_Medium_written l D ca (ad 1) (ad 2) _ (g_medium g) q8 hq8) g_Log_229 yo_Medium_written ⟨Nat.le_of_ble_eq_true rfl, Nat.le_of_ble_eq_true rfl⟩ hl hP hD [1, 2] rfl rfl (ci := 0) rfl rfl hS hA rfl rfl (Nat.le_of_ble_eq_true rfl) ⟨Nat.zero_le _, Nat.zero_le _⟩ d_Log_told_52 (fun H locs hP hS => ?_)
            cases hm
            exact ret_ri X hS d_Log_told_55
        · replace hm := ip c4 hm
          refine lv_aload_n hx hb d_Log_told_35 rfl (lv_at hl 0 rfl) ?_
          refine va_get (D := D) (ci := 5) (v := .ref (ad 1)) (C := R_Log) (T := F_Log) (N := 15) hx hb hts i_Log hown hK hP 0 rfl rfl 0 (by decide) (hts _ wf_Log_14) (fun _ h9 => h9) rfl d_Log_told_36 ?_
          obtain ⟨q9, hq9, hm⟩ := ob hm
          refine inv_rV (C := R_Medium) (As := []) (rest := []) (v := .int q9) X (c_Medium_rows l D ca (ad 1) (ad 2) _ (g_medium g) q9 hq9) g_Log_36 yo_Medium_rows ⟨Nat.le_of_ble_eq_true rfl, Nat.le_of_ble_eq_true rfl⟩ hl hP hD [1, 2] rfl rfl (ci := 0) rfl rfl hS hA rfl rfl (Nat.le_of_ble_eq_true rfl) ⟨Nat.zero_le _, Nat.zero_le _⟩ d_Log_told_39 (fun H locs hP hS => ?_)
          cases hm
          exact ret_ri X hS d_Log_told_42
      · replace hm := ip c3 hm
        refine lv_aload_n hx hb d_Log_told_17 rfl (lv_at hl 0 rfl) ?_
        refine va_get (D := D) (ci := 5) (v := .int (g_isOpen g)) (C := R_Log) (T := F_Log) (N := 15) hx hb hts i_Log hown hK hP 0 rfl rfl 14 (by decide) (hts _ wf_Log_69) (fun _ h9 => h9) rfl d_Log_told_18 ?_
        refine lv_if_eq (tgt := 28) hx hb d_Log_told_21 (by decide) (fun c10 => ?_) (fun c10 => ?_)
        · replace hm := ip c10 hm
          refine lv_iconst (v := 0) hx hb d_Log_told_28 (by decide) ?_
          cases hm
          exact ret_ri X hS d_Log_told_29
        · replace hm := ineg c10 hm
          refine lv_iconst (v := 1) hx hb d_Log_told_24 (by decide) ?_
          refine lv_goto (tgt := 29) hx hb d_Log_told_25 (by decide) ?_
          cases hm
          exact ret_ri X hS d_Log_told_29
    · replace hm := ineg c2 hm
      refine lv_bipush (v := (-2)) hx hb d_Log_told_10 (by decide) ?_
      cases hm
      exact ret_ri X hS d_Log_told_12
set_option maxHeartbeats 4000000 in
set_option maxRecDepth 100000 in
theorem k_m_Log_drawPartOut_savepoint_L47 {p : Program} {l : Launch} {e : Env} {s : State} {m : MethodId} {args : Array Value} {below : List Frame} {meth : Method} {c : Code} {D : va_G} {ca : Nat → ClassId} {ad : Nat → Nat} {A : Nat → Prop} (X : Cx p s m args meth c R_Log b_Log_drawPartOut 5 none D ca) (hA : ∀ q, s.heap.size ≤ q → A q)  : ∀ (n : Nat) (g : St_Log) (v2 : Int32) (v3 : Int32) (v4 : Int32) (res : St_Log), m_Log_drawPartOut_savepoint_L47  n g v2 v3 v4 = some res → ∀ (H : Heap) (locs : List Loc), va_P D classes (wl_Log ca ad g) H → va_D A (wl_Log ca ad g) → va_S A s.heap H locs → ∀ ls : Array Slot, lv_has ls 5 [(0, .ref (ad 0)), (1, .ref (ad 7)), (2, .int v2), (3, .int v3), (4, .int v4)] → W p l e (RM 4 85) s m args below meth c H locs 0 0 (MQ below (QRm D none (wl_Log ca ad res) A) args s 0 0 A) (F0 m 47 ls []) := by
  obtain ⟨hx, hb, hml, hr, hown, hts, hK, hlocks⟩ := id X
  intro n
  induction n with
  | zero =>
    intro g v2 v3 v4 res hm
    rw [m_Log_drawPartOut_savepoint_L47] at hm
    cases hm
  | succ n ih =>
    intro g v2 v3 v4 res hm H locs hP hD hS ls hl
    rw [m_Log_drawPartOut_savepoint_L47] at hm
    refine lv_iload hx hb d_Log_drawPartOut_47 (lv_at hl 4 rfl) ?_
    refine lv_iload_n hx hb d_Log_drawPartOut_49 rfl (lv_at hl 3 rfl) ?_
    refine lv_icmp_ge (tgt := 72) hx hb d_Log_drawPartOut_50 (by decide) (fun c7 => ?_) (fun c7 => ?_)
    · replace hm := ip c7 hm
      cases hm
      exact ret_mv X hP hS d_Log_drawPartOut_72
    · replace hm := ineg c7 hm
      refine lv_aload_n hx hb d_Log_drawPartOut_53 rfl (lv_at hl 1 rfl) ?_
      refine lv_aload_n hx hb d_Log_drawPartOut_54 rfl (lv_at hl 0 rfl) ?_
      refine lv_iload_n hx hb d_Log_drawPartOut_55 rfl (lv_at hl 2 rfl) ?_
      refine lv_iload hx hb d_Log_drawPartOut_56 (lv_at hl 4 rfl) ?_
      obtain ⟨q8, hq8, hm⟩ := ob hm
      refine inv_rVa (C := R_Log) (As := [.int v2, .int v4]) (rest := [.ref (ad 7)]) (v := .int q8) X (c_Log_byteOfPart l D ca ad _ g v2 v4 q8 hq8) g_Log_207 yo_Log_byteOfPart ⟨Nat.le_of_ble_eq_true rfl, Nat.le_of_ble_eq_true rfl⟩ hl hP hD (ci := 5) rfl rfl hS hA rfl rfl (Nat.le_of_ble_eq_true rfl) ⟨Nat.zero_le _, Nat.zero_le _⟩ d_Log_drawPartOut_58 (fun H locs hP hS => ?_)
      refine lv_i2l (v := ((q8).toInt64)) hx hb d_Log_drawPartOut_61 rfl ?_
      refine lv_iconst (v := 1) hx hb d_Log_drawPartOut_62 (by decide) ?_
      obtain ⟨q9, hq9, hm⟩ := ob hm
      refine inv_mU (C := R_Bytes) (As := [.long ((q8).toInt64), .int 1]) (rest := []) (ws' := wl_Log ca ad (s_savepoint g q9)) X (c_Bytes_add l D ca (ad 7) (ad 8) _ (g_savepoint g) ((q8).toInt64) 1 q9 hq9) g_Log_76 yo_Bytes_add ⟨Nat.le_of_ble_eq_true rfl, Nat.le_of_ble_eq_true rfl⟩ hl hP hD [7, 8] rfl rfl rfl rfl (ci := 1) rfl rfl hS hA rfl rfl (Nat.le_of_ble_eq_true rfl) ⟨Nat.zero_le _, Nat.zero_le _⟩ d_Log_drawPartOut_63 (fun H locs hP hD hS => ?_)
      refine lv_iinc (v := (v4 + 1)) (lv' := [(4, .int (v4 + 1)), (0, .ref (ad 0)), (1, .ref (ad 7)), (2, .int v2), (3, .int v3)]) hx hb d_Log_drawPartOut_66 hl (k := 4) rfl rfl (by decide) rfl (fun ls hl => ?_)
      refine lv_goto (tgt := 47) hx hb d_Log_drawPartOut_69 (by decide) ?_
      exact ih (s_savepoint g q9) v2 v3 (v4 + 1) _ hm _ _ hP hD hS ls (lv_sub hl [1, 2, 3, 4, 0] rfl)
set_option maxHeartbeats 4000000 in
set_option maxRecDepth 100000 in
theorem c_Log_drawPartOut_savepoint (l : Launch) (D : va_G) (ca : Nat → ClassId) (ad : Nat → Nat) (sz : Nat) (g : St_Log) (p2 : Int32) (res : St_Log) (hm : m_Log_drawPartOut_savepoint g p2 = some res) : Met l y_Log_drawPartOut (cws y_Log_drawPartOut b_Log_drawPartOut 5 none) (RM 4 85) (PreW D ca (wl_Log ca ad g) [.ref (ad 0), .ref (ad 7), .int p2] sz) (QRm D none (wl_Log ca ad res) (va_A (wl_Log ca ad g) sz)) 0 0 (va_A (wl_Log ca ad g) sz) := by
  refine met_ofM (own := R_Log) (by decide) rfl (Nat.le_of_ble_eq_true rfl) ?_
  intro p e s m below meth c A X hA hP hD ls hl
  obtain ⟨hx, hb, hml, hr, hown, hts, hK, hlocks⟩ := id X
  have hS : va_S A s.heap s.heap [] := va_S.rf
  have hl : lv_has ls 5 [(0, .ref (ad 0)), (1, .ref (ad 7)), (2, .int p2)] := hl
  unfold m_Log_drawPartOut_savepoint at hm
  refine lv_aload_n hx hb d_Log_drawPartOut_0 rfl (lv_at hl 0 rfl) ?_
  refine va_get (D := D) (ci := 5) (v := .ref (ad 15)) (C := R_Log) (T := F_Log) (N := 15) hx hb hts i_Log hown hK hP 0 rfl rfl 7 (by decide) (hts _ wf_Log_51) (fun _ h9 => h9) rfl d_Log_drawPartOut_1 ?_
  refine lv_iload_n hx hb d_Log_drawPartOut_4 rfl (lv_at hl 2 rfl) ?_
  obtain ⟨q1, hq1, hm⟩ := ob hm
  refine inv_rV (C := R_Parts) (As := [.int p2]) (rest := []) (v := .int q1) X (c_Parts_lengthAt l D ca (ad 15) (ad 16) (ad 17) (ad 18) (ad 19) (ad 20) _ (g_parts g) p2 q1 hq1) g_Log_195 yo_Parts_lengthAt ⟨Nat.le_of_ble_eq_true rfl, Nat.le_of_ble_eq_true rfl⟩ hl hP hD [15, 16, 17, 18, 19, 20] rfl rfl (ci := 3) rfl rfl hS hA rfl rfl (Nat.le_of_ble_eq_true rfl) ⟨Nat.zero_le _, Nat.zero_le _⟩ d_Log_drawPartOut_5 (fun H locs hP hS => ?_)
  refine lv_istore_n (lv' := [(3, .int q1), (0, .ref (ad 0)), (1, .ref (ad 7)), (2, .int p2)]) hx hb d_Log_drawPartOut_8 rfl hl (by decide) rfl (fun ls hl => ?_)
  refine lv_aload_n hx hb d_Log_drawPartOut_9 rfl (lv_at hl 2 rfl) ?_
  refine lv_aload_n hx hb d_Log_drawPartOut_10 rfl (lv_at hl 1 rfl) ?_
  refine va_get (D := D) (ci := 5) (v := .ref (ad 15)) (C := R_Log) (T := F_Log) (N := 15) hx hb hts i_Log hown hK hP 0 rfl rfl 7 (by decide) (hts _ wf_Log_51) (fun _ h9 => h9) rfl d_Log_drawPartOut_11 ?_
  refine lv_iload_n hx hb d_Log_drawPartOut_14 rfl (lv_at hl 3 rfl) ?_
  obtain ⟨q2, hq2, hm⟩ := ob hm
  refine inv_rV (C := R_Parts) (As := [.int p2]) (rest := [.ref (ad 7)]) (v := .int q2) X (c_Parts_groupAt l D ca (ad 15) (ad 16) (ad 17) (ad 18) (ad 19) (ad 20) _ (g_parts g) p2 q2 hq2) g_Log_189 yo_Parts_groupAt ⟨Nat.le_of_ble_eq_true rfl, Nat.le_of_ble_eq_true rfl⟩ hl hP hD [15, 16, 17, 18, 19, 20] rfl rfl (ci := 3) rfl rfl hS hA rfl rfl (Nat.le_of_ble_eq_true rfl) ⟨Nat.zero_le _, Nat.zero_le _⟩ d_Log_drawPartOut_15 (fun H locs hP hS => ?_)
  refine lv_i2l (v := ((q2).toInt64)) hx hb d_Log_drawPartOut_18 rfl ?_
  refine lv_iconst (v := 1) hx hb d_Log_drawPartOut_19 (by decide) ?_
  obtain ⟨q3, hq3, hm⟩ := ob hm
  refine inv_mU (C := R_Bytes) (As := [.long ((q2).toInt64), .int 1]) (rest := []) (ws' := wl_Log ca ad (s_savepoint g q3)) X (c_Bytes_add l D ca (ad 7) (ad 8) _ (g_savepoint g) ((q2).toInt64) 1 q3 hq3) g_Log_76 yo_Bytes_add ⟨Nat.le_of_ble_eq_true rfl, Nat.le_of_ble_eq_true rfl⟩ hl hP hD [7, 8] rfl rfl rfl rfl (ci := 1) rfl rfl hS hA rfl rfl (Nat.le_of_ble_eq_true rfl) ⟨Nat.zero_le _, Nat.zero_le _⟩ d_Log_drawPartOut_20 (fun H locs hP hD hS => ?_)
  refine lv_aload_n hx hb d_Log_drawPartOut_23 rfl (lv_at hl 2 rfl) ?_
  refine lv_aload_n hx hb d_Log_drawPartOut_24 rfl (lv_at hl 1 rfl) ?_
  refine va_get (D := D) (ci := 5) (v := .ref (ad 15)) (C := R_Log) (T := F_Log) (N := 15) hx hb hts i_Log hown hK hP 0 rfl rfl 7 (by decide) (hts _ wf_Log_51) (fun _ h9 => h9) rfl d_Log_drawPartOut_25 ?_
  refine lv_iload_n hx hb d_Log_drawPartOut_28 rfl (lv_at hl 3 rfl) ?_
  obtain ⟨q4, hq4, hm⟩ := ob hm
  refine inv_rV (C := R_Parts) (As := [.int p2]) (rest := [.ref (ad 7)]) (v := .long q4) X (c_Parts_positionAt l D ca (ad 15) (ad 16) (ad 17) (ad 18) (ad 19) (ad 20) _ (g_parts g) p2 q4 hq4) g_Log_192 yo_Parts_positionAt ⟨Nat.le_of_ble_eq_true rfl, Nat.le_of_ble_eq_true rfl⟩ hl hP hD [15, 16, 17, 18, 19, 20] rfl rfl (ci := 3) rfl rfl hS hA rfl rfl (Nat.le_of_ble_eq_true rfl) ⟨Nat.zero_le _, Nat.zero_le _⟩ d_Log_drawPartOut_29 (fun H locs hP hS => ?_)
  refine lv_bipush (v := 8) hx hb d_Log_drawPartOut_32 (by decide) ?_
  obtain ⟨q5, hq5, hm⟩ := ob hm
  refine inv_mU (C := R_Bytes) (As := [.long q4, .int 8]) (rest := []) (ws' := wl_Log ca ad (s_savepoint (s_savepoint g q3) q5)) X (c_Bytes_add l D ca (ad 7) (ad 8) _ q3 q4 8 q5 hq5) g_Log_76 yo_Bytes_add ⟨Nat.le_of_ble_eq_true rfl, Nat.le_of_ble_eq_true rfl⟩ hl hP hD [7, 8] rfl rfl rfl rfl (ci := 1) rfl rfl hS hA rfl rfl (Nat.le_of_ble_eq_true rfl) ⟨Nat.zero_le _, Nat.zero_le _⟩ d_Log_drawPartOut_34 (fun H locs hP hD hS => ?_)
  refine lv_aload_n hx hb d_Log_drawPartOut_37 rfl (lv_at hl 2 rfl) ?_
  refine lv_iload_n hx hb d_Log_drawPartOut_38 rfl (lv_at hl 0 rfl) ?_
  refine lv_i2l (v := ((q1).toInt64)) hx hb d_Log_drawPartOut_39 rfl ?_
  refine lv_iconst (v := 2) hx hb d_Log_drawPartOut_40 (by decide) ?_
  obtain ⟨q6, hq6, hm⟩ := ob hm
  refine inv_mU (C := R_Bytes) (As := [.long ((q1).toInt64), .int 2]) (rest := []) (ws' := wl_Log ca ad (s_savepoint (s_savepoint (s_savepoint g q3) q5) q6)) X (c_Bytes_add l D ca (ad 7) (ad 8) _ q5 ((q1).toInt64) 2 q6 hq6) g_Log_76 yo_Bytes_add ⟨Nat.le_of_ble_eq_true rfl, Nat.le_of_ble_eq_true rfl⟩ hl hP hD [7, 8] rfl rfl rfl rfl (ci := 1) rfl rfl hS hA rfl rfl (Nat.le_of_ble_eq_true rfl) ⟨Nat.zero_le _, Nat.zero_le _⟩ d_Log_drawPartOut_41 (fun H locs hP hD hS => ?_)
  refine lv_iconst (v := 0) hx hb d_Log_drawPartOut_44 (by decide) ?_
  refine lv_istore (lv' := [(4, .int 0), (3, .int q1), (0, .ref (ad 0)), (1, .ref (ad 7)), (2, .int p2)]) hx hb d_Log_drawPartOut_45 hl (by decide) rfl (fun ls hl => ?_)
  exact k_m_Log_drawPartOut_savepoint_L47 X hA FU (s_savepoint (s_savepoint (s_savepoint g q3) q5) q6) p2 q1 0 _ hm _ _ hP hD hS ls (lv_sub hl [2, 3, 4, 1, 0] rfl)
set_option maxHeartbeats 4000000 in
set_option maxRecDepth 100000 in
theorem k_m_Log_drawSavepoint_savepoint_L49 {p : Program} {l : Launch} {e : Env} {s : State} {m : MethodId} {args : Array Value} {below : List Frame} {meth : Method} {c : Code} {D : va_G} {ca : Nat → ClassId} {ad : Nat → Nat} {A : Nat → Prop} (X : Cx p s m args meth c R_Log b_Log_drawSavepoint 7 none D ca) (hA : ∀ q, s.heap.size ≤ q → A q)  : ∀ (n : Nat) (g : St_Log) (v4 : Int32) (v5 : Int32) (v6 : Int32) (res : St_Log), m_Log_drawSavepoint_savepoint_L49  n g v4 v5 v6 = some res → ∀ (H : Heap) (locs : List Loc), va_P D classes (wl_Log ca ad g) H → va_D A (wl_Log ca ad g) → va_S A s.heap H locs → ∀ ls : Array Slot, lv_has ls 7 [(0, .ref (ad 0)), (1, .ref (ad 7)), (3, .ref (ad 21)), (4, .int v4), (5, .int v5), (6, .int v6)] → W p l e (RM 5 109) s m args below meth c H locs 0 0 (MQ below (QRm D none (wl_Log ca ad res) A) args s 0 0 A) (F0 m 49 ls []) := by
  obtain ⟨hx, hb, hml, hr, hown, hts, hK, hlocks⟩ := id X
  intro n
  induction n with
  | zero =>
    intro g v4 v5 v6 res hm
    rw [m_Log_drawSavepoint_savepoint_L49] at hm
    cases hm
  | succ n ih =>
    intro g v4 v5 v6 res hm H locs hP hD hS ls hl
    rw [m_Log_drawSavepoint_savepoint_L49] at hm
    refine lv_iload hx hb d_Log_drawSavepoint_49 (lv_at hl 5 rfl) ?_
    refine lv_iload hx hb d_Log_drawSavepoint_51 (lv_at hl 4 rfl) ?_
    refine lv_icmp_ge (tgt := 82) hx hb d_Log_drawSavepoint_53 (by decide) (fun c8 => ?_) (fun c8 => ?_)
    · replace hm := ip c8 hm
      refine lv_aload_n hx hb d_Log_drawSavepoint_82 rfl (lv_at hl 1 rfl) ?_
      refine lv_aload_n hx hb d_Log_drawSavepoint_83 rfl (lv_at hl 1 rfl) ?_
      refine lv_iconst (v := 0) hx hb d_Log_drawSavepoint_84 (by decide) ?_
      refine lv_aload_n hx hb d_Log_drawSavepoint_85 rfl (lv_at hl 1 rfl) ?_
      obtain ⟨q9, hq9, hm⟩ := ob hm
      refine inv_rV (C := R_Bytes) (As := []) (rest := [.int 0, .ref (ad 7), .ref (ad 7)]) (v := .int q9) X (c_Bytes_size l D ca (ad 7) (ad 8) _ (g_savepoint g) q9 hq9) g_Log_73 yo_Bytes_size ⟨Nat.le_of_ble_eq_true rfl, Nat.le_of_ble_eq_true rfl⟩ hl hP hD [7, 8] rfl rfl (ci := 1) rfl rfl hS hA rfl rfl (Nat.le_of_ble_eq_true rfl) ⟨Nat.zero_le _, Nat.zero_le _⟩ d_Log_drawSavepoint_86 (fun H locs hP hS => ?_)
      obtain ⟨q10, hq10, hm⟩ := ob hm
      refine inv_rV (C := R_Bytes) (As := [.int 0, .int q9]) (rest := [.ref (ad 7)]) (v := .long q10) X (c_Bytes_digest l D ca (ad 7) (ad 8) _ (g_savepoint g) 0 q9 q10 hq10) g_Log_290 yo_Bytes_digest ⟨Nat.le_of_ble_eq_true rfl, Nat.le_of_ble_eq_true rfl⟩ hl hP hD [7, 8] rfl rfl (ci := 1) rfl rfl hS hA rfl rfl (Nat.le_of_ble_eq_true rfl) ⟨Nat.zero_le _, Nat.zero_le _⟩ d_Log_drawSavepoint_89 (fun H locs hP hS => ?_)
      refine lv_bipush (v := 8) hx hb d_Log_drawSavepoint_92 (by decide) ?_
      obtain ⟨q11, hq11, hm⟩ := ob hm
      refine inv_mU (C := R_Bytes) (As := [.long q10, .int 8]) (rest := []) (ws' := wl_Log ca ad (s_savepoint g q11)) X (c_Bytes_add l D ca (ad 7) (ad 8) _ (g_savepoint g) q10 8 q11 hq11) g_Log_76 yo_Bytes_add ⟨Nat.le_of_ble_eq_true rfl, Nat.le_of_ble_eq_true rfl⟩ hl hP hD [7, 8] rfl rfl rfl rfl (ci := 1) rfl rfl hS hA rfl rfl (Nat.le_of_ble_eq_true rfl) ⟨Nat.zero_le _, Nat.zero_le _⟩ d_Log_drawSavepoint_94 (fun H locs hP hD hS => ?_)
      cases hm
      exact ret_mv X hP hS d_Log_drawSavepoint_97
    · replace hm := ineg c8 hm
      refine lv_aload_n hx hb d_Log_drawSavepoint_56 rfl (lv_at hl 0 rfl) ?_
      refine lv_aload_n hx hb d_Log_drawSavepoint_57 rfl (lv_at hl 1 rfl) ?_
      refine lv_aload_n hx hb d_Log_drawSavepoint_58 rfl (lv_at hl 0 rfl) ?_
      refine va_get (D := D) (ci := 5) (v := .ref (ad 15)) (C := R_Log) (T := F_Log) (N := 15) hx hb hts i_Log hown hK hP 0 rfl rfl 7 (by decide) (hts _ wf_Log_51) (fun _ h9 => h9) rfl d_Log_drawSavepoint_59 ?_
      refine lv_aload_n hx hb d_Log_drawSavepoint_62 rfl (lv_at hl 2 rfl) ?_
      refine lv_iload hx hb d_Log_drawSavepoint_63 (lv_at hl 3 rfl) ?_
      refine lv_iload hx hb d_Log_drawSavepoint_65 (lv_at hl 5 rfl) ?_
      obtain ⟨q12, hq12, hm⟩ := ob hm
      refine inv_rV (C := R_Marks) (As := [.int v4, .int v6]) (rest := [.ref (ad 15), .ref (ad 7), .ref (ad 0)]) (v := .int q12) X (c_Marks_partAt l D ca (ad 21) (ad 22) (ad 23) (ad 24) (ad 25) (ad 26) _ (g_kept g) v4 v6 q12 hq12) g_Log_121 yo_Marks_partAt ⟨Nat.le_of_ble_eq_true rfl, Nat.le_of_ble_eq_true rfl⟩ hl hP hD [21, 22, 23, 24, 25, 26] rfl rfl (ci := 4) rfl rfl hS hA rfl rfl (Nat.le_of_ble_eq_true rfl) ⟨Nat.zero_le _, Nat.zero_le _⟩ d_Log_drawSavepoint_67 (fun H locs hP hS => ?_)
      obtain ⟨q13, hq13, hm⟩ := ob hm
      refine inv_rV (C := R_Parts) (As := [.int q12]) (rest := [.ref (ad 7), .ref (ad 0)]) (v := .int q13) X (c_Parts_find l D ca (ad 15) (ad 16) (ad 17) (ad 18) (ad 19) (ad 20) _ (g_parts g) q12 q13 hq13) g_Log_186 yo_Parts_find ⟨Nat.le_of_ble_eq_true rfl, Nat.le_of_ble_eq_true rfl⟩ hl hP hD [15, 16, 17, 18, 19, 20] rfl rfl (ci := 3) rfl rfl hS hA rfl rfl (Nat.le_of_ble_eq_true rfl) ⟨Nat.zero_le _, Nat.zero_le _⟩ d_Log_drawSavepoint_70 (fun H locs hP hS => ?_)
      obtain ⟨q14, hq14, hm⟩ := ob hm
      refine inv_mUa (C := R_Log) (As := [.ref (ad 7), .int q13]) (rest := []) X (c_Log_drawPartOut_savepoint l D ca ad _ g q13 q14 hq14) g_Log_385 yo_Log_drawPartOut ⟨Nat.le_of_ble_eq_true rfl, Nat.le_of_ble_eq_true rfl⟩ hl hP hD rfl (ci := 5) rfl rfl hS hA rfl rfl (Nat.le_of_ble_eq_true rfl) ⟨Nat.zero_le _, Nat.zero_le _⟩ d_Log_drawSavepoint_73 (fun H locs hP hD hS => ?_)
      refine lv_iinc (v := (v6 + 1)) (lv' := [(6, .int (v6 + 1)), (0, .ref (ad 0)), (1, .ref (ad 7)), (3, .ref (ad 21)), (4, .int v4), (5, .int v5)]) hx hb d_Log_drawSavepoint_76 hl (k := 5) rfl rfl (by decide) rfl (fun ls hl => ?_)
      refine lv_goto (tgt := 49) hx hb d_Log_drawSavepoint_79 (by decide) ?_
      exact ih q14 v4 v5 (v6 + 1) _ hm _ _ hP hD hS ls (lv_sub hl [1, 2, 3, 4, 5, 0] rfl)
set_option maxHeartbeats 4000000 in
set_option maxRecDepth 100000 in
theorem k_m_Log_drawSavepoint_savepoint_L49a {p : Program} {l : Launch} {e : Env} {s : State} {m : MethodId} {args : Array Value} {below : List Frame} {meth : Method} {c : Code} {D : va_G} {ca : Nat → ClassId} {ad : Nat → Nat} {A : Nat → Prop} (X : Cx p s m args meth c R_Log b_Log_drawSavepoint 7 none D ca) (hA : ∀ q, s.heap.size ≤ q → A q)  : ∀ (n : Nat) (g : St_Log) (v4 : Int32) (v5 : Int32) (v6 : Int32) (res : St_Log), m_Log_drawSavepoint_savepoint_L49a  n g v4 v5 v6 = some res → ∀ (H : Heap) (locs : List Loc), va_P D classes (wl_Log ca ad g) H → va_D A (wl_Log ca ad g) → va_S A s.heap H locs → ∀ ls : Array Slot, lv_has ls 7 [(0, .ref (ad 0)), (1, .ref (ad 7)), (3, .ref (ad 27)), (4, .int v4), (5, .int v5), (6, .int v6)] → W p l e (RM 5 109) s m args below meth c H locs 0 0 (MQ below (QRm D none (wl_Log ca ad res) A) args s 0 0 A) (F0 m 49 ls []) := by
  obtain ⟨hx, hb, hml, hr, hown, hts, hK, hlocks⟩ := id X
  intro n
  induction n with
  | zero =>
    intro g v4 v5 v6 res hm
    rw [m_Log_drawSavepoint_savepoint_L49a] at hm
    cases hm
  | succ n ih =>
    intro g v4 v5 v6 res hm H locs hP hD hS ls hl
    rw [m_Log_drawSavepoint_savepoint_L49a] at hm
    refine lv_iload hx hb d_Log_drawSavepoint_49 (lv_at hl 5 rfl) ?_
    refine lv_iload hx hb d_Log_drawSavepoint_51 (lv_at hl 4 rfl) ?_
    refine lv_icmp_ge (tgt := 82) hx hb d_Log_drawSavepoint_53 (by decide) (fun c20 => ?_) (fun c20 => ?_)
    · replace hm := ip c20 hm
      refine lv_aload_n hx hb d_Log_drawSavepoint_82 rfl (lv_at hl 1 rfl) ?_
      refine lv_aload_n hx hb d_Log_drawSavepoint_83 rfl (lv_at hl 1 rfl) ?_
      refine lv_iconst (v := 0) hx hb d_Log_drawSavepoint_84 (by decide) ?_
      refine lv_aload_n hx hb d_Log_drawSavepoint_85 rfl (lv_at hl 1 rfl) ?_
      obtain ⟨q21, hq21, hm⟩ := ob hm
      refine inv_rV (C := R_Bytes) (As := []) (rest := [.int 0, .ref (ad 7), .ref (ad 7)]) (v := .int q21) X (c_Bytes_size l D ca (ad 7) (ad 8) _ (g_savepoint g) q21 hq21) g_Log_73 yo_Bytes_size ⟨Nat.le_of_ble_eq_true rfl, Nat.le_of_ble_eq_true rfl⟩ hl hP hD [7, 8] rfl rfl (ci := 1) rfl rfl hS hA rfl rfl (Nat.le_of_ble_eq_true rfl) ⟨Nat.zero_le _, Nat.zero_le _⟩ d_Log_drawSavepoint_86 (fun H locs hP hS => ?_)
      obtain ⟨q22, hq22, hm⟩ := ob hm
      refine inv_rV (C := R_Bytes) (As := [.int 0, .int q21]) (rest := [.ref (ad 7)]) (v := .long q22) X (c_Bytes_digest l D ca (ad 7) (ad 8) _ (g_savepoint g) 0 q21 q22 hq22) g_Log_290 yo_Bytes_digest ⟨Nat.le_of_ble_eq_true rfl, Nat.le_of_ble_eq_true rfl⟩ hl hP hD [7, 8] rfl rfl (ci := 1) rfl rfl hS hA rfl rfl (Nat.le_of_ble_eq_true rfl) ⟨Nat.zero_le _, Nat.zero_le _⟩ d_Log_drawSavepoint_89 (fun H locs hP hS => ?_)
      refine lv_bipush (v := 8) hx hb d_Log_drawSavepoint_92 (by decide) ?_
      obtain ⟨q23, hq23, hm⟩ := ob hm
      refine inv_mU (C := R_Bytes) (As := [.long q22, .int 8]) (rest := []) (ws' := wl_Log ca ad (s_savepoint g q23)) X (c_Bytes_add l D ca (ad 7) (ad 8) _ (g_savepoint g) q22 8 q23 hq23) g_Log_76 yo_Bytes_add ⟨Nat.le_of_ble_eq_true rfl, Nat.le_of_ble_eq_true rfl⟩ hl hP hD [7, 8] rfl rfl rfl rfl (ci := 1) rfl rfl hS hA rfl rfl (Nat.le_of_ble_eq_true rfl) ⟨Nat.zero_le _, Nat.zero_le _⟩ d_Log_drawSavepoint_94 (fun H locs hP hD hS => ?_)
      cases hm
      exact ret_mv X hP hS d_Log_drawSavepoint_97
    · replace hm := ineg c20 hm
      refine lv_aload_n hx hb d_Log_drawSavepoint_56 rfl (lv_at hl 0 rfl) ?_
      refine lv_aload_n hx hb d_Log_drawSavepoint_57 rfl (lv_at hl 1 rfl) ?_
      refine lv_aload_n hx hb d_Log_drawSavepoint_58 rfl (lv_at hl 0 rfl) ?_
      refine va_get (D := D) (ci := 5) (v := .ref (ad 15)) (C := R_Log) (T := F_Log) (N := 15) hx hb hts i_Log hown hK hP 0 rfl rfl 7 (by decide) (hts _ wf_Log_51) (fun _ h9 => h9) rfl d_Log_drawSavepoint_59 ?_
      refine lv_aload_n hx hb d_Log_drawSavepoint_62 rfl (lv_at hl 2 rfl) ?_
      refine lv_iload hx hb d_Log_drawSavepoint_63 (lv_at hl 3 rfl) ?_
      refine lv_iload hx hb d_Log_drawSavepoint_65 (lv_at hl 5 rfl) ?_
      obtain ⟨q24, hq24, hm⟩ := ob hm
      refine inv_rV (C := R_Marks) (As := [.int v4, .int v6]) (rest := [.ref (ad 15), .ref (ad 7), .ref (ad 0)]) (v := .int q24) X (c_Marks_partAt l D ca (ad 27) (ad 28) (ad 29) (ad 30) (ad 31) (ad 32) _ (g_made g) v4 v6 q24 hq24) g_Log_121 yo_Marks_partAt ⟨Nat.le_of_ble_eq_true rfl, Nat.le_of_ble_eq_true rfl⟩ hl hP hD [27, 28, 29, 30, 31, 32] rfl rfl (ci := 4) rfl rfl hS hA rfl rfl (Nat.le_of_ble_eq_true rfl) ⟨Nat.zero_le _, Nat.zero_le _⟩ d_Log_drawSavepoint_67 (fun H locs hP hS => ?_)
      obtain ⟨q25, hq25, hm⟩ := ob hm
      refine inv_rV (C := R_Parts) (As := [.int q24]) (rest := [.ref (ad 7), .ref (ad 0)]) (v := .int q25) X (c_Parts_find l D ca (ad 15) (ad 16) (ad 17) (ad 18) (ad 19) (ad 20) _ (g_parts g) q24 q25 hq25) g_Log_186 yo_Parts_find ⟨Nat.le_of_ble_eq_true rfl, Nat.le_of_ble_eq_true rfl⟩ hl hP hD [15, 16, 17, 18, 19, 20] rfl rfl (ci := 3) rfl rfl hS hA rfl rfl (Nat.le_of_ble_eq_true rfl) ⟨Nat.zero_le _, Nat.zero_le _⟩ d_Log_drawSavepoint_70 (fun H locs hP hS => ?_)
      obtain ⟨q26, hq26, hm⟩ := ob hm
      refine inv_mUa (C := R_Log) (As := [.ref (ad 7), .int q25]) (rest := []) X (c_Log_drawPartOut_savepoint l D ca ad _ g q25 q26 hq26) g_Log_385 yo_Log_drawPartOut ⟨Nat.le_of_ble_eq_true rfl, Nat.le_of_ble_eq_true rfl⟩ hl hP hD rfl (ci := 5) rfl rfl hS hA rfl rfl (Nat.le_of_ble_eq_true rfl) ⟨Nat.zero_le _, Nat.zero_le _⟩ d_Log_drawSavepoint_73 (fun H locs hP hD hS => ?_)
      refine lv_iinc (v := (v6 + 1)) (lv' := [(6, .int (v6 + 1)), (0, .ref (ad 0)), (1, .ref (ad 7)), (3, .ref (ad 27)), (4, .int v4), (5, .int v5)]) hx hb d_Log_drawSavepoint_76 hl (k := 5) rfl rfl (by decide) rfl (fun ls hl => ?_)
      refine lv_goto (tgt := 49) hx hb d_Log_drawSavepoint_79 (by decide) ?_
      exact ih q26 v4 v5 (v6 + 1) _ hm _ _ hP hD hS ls (lv_sub hl [1, 2, 3, 4, 5, 0] rfl)
set_option maxHeartbeats 4000000 in
set_option maxRecDepth 100000 in
theorem c_Log_drawSavepoint_savepoint (l : Launch) (D : va_G) (ca : Nat → ClassId) (ad : Nat → Nat) (sz : Nat) (g : St_Log) (p2 : Int32) (res : St_Log) (hm : m_Log_drawSavepoint_savepoint g p2 = some res) : Met l y_Log_drawSavepoint (cws y_Log_drawSavepoint b_Log_drawSavepoint 7 none) (RM 5 109) (PreW D ca (wl_Log ca ad g) [.ref (ad 0), .ref (ad 7), .int p2] sz) (QRm D none (wl_Log ca ad res) (va_A (wl_Log ca ad g) sz)) 0 0 (va_A (wl_Log ca ad g) sz) := by
  refine met_ofM (own := R_Log) (by decide) rfl (Nat.le_of_ble_eq_true rfl) ?_
  intro p e s m below meth c A X hA hP hD ls hl
  obtain ⟨hx, hb, hml, hr, hown, hts, hK, hlocks⟩ := id X
  have hS : va_S A s.heap s.heap [] := va_S.rf
  have hl : lv_has ls 7 [(0, .ref (ad 0)), (1, .ref (ad 7)), (2, .int p2)] := hl
  unfold m_Log_drawSavepoint_savepoint at hm
  refine lv_aload_n hx hb d_Log_drawSavepoint_0 rfl (lv_at hl 1 rfl) ?_
  obtain ⟨q1, hq1, hm⟩ := ob hm
  refine inv_mU (C := R_Bytes) (As := []) (rest := []) (ws' := wl_Log ca ad (s_savepoint g q1)) X (c_Bytes_clear l D ca (ad 7) (ad 8) _ (g_savepoint g) q1 hq1) g_Log_80 yo_Bytes_clear ⟨Nat.le_of_ble_eq_true rfl, Nat.le_of_ble_eq_true rfl⟩ hl hP hD [7, 8] rfl rfl rfl rfl (ci := 1) rfl rfl hS hA rfl rfl (Nat.le_of_ble_eq_true rfl) ⟨Nat.zero_le _, Nat.zero_le _⟩ d_Log_drawSavepoint_1 (fun H locs hP hD hS => ?_)
  refine lv_aload_n hx hb d_Log_drawSavepoint_4 rfl (lv_at hl 0 rfl) ?_
  refine lv_iload_n hx hb d_Log_drawSavepoint_5 rfl (lv_at hl 2 rfl) ?_
  obtain ⟨q2, hq2, hm⟩ := ob hm
  refine inv_rVa (C := R_Log) (As := [.int p2]) (rest := []) (v := tb_Log_tableOf ad q2) X (c_Log_tableOf l D ca ad _ (s_savepoint g q1) p2 q2 hq2) g_Log_175 yo_Log_tableOf ⟨Nat.le_of_ble_eq_true rfl, Nat.le_of_ble_eq_true rfl⟩ hl hP hD (ci := 5) rfl rfl hS hA rfl rfl (Nat.le_of_ble_eq_true rfl) ⟨Nat.zero_le _, Nat.zero_le _⟩ d_Log_drawSavepoint_6 (fun H locs hP hS => ?_)
  by_cases c3 : q2 = 1
  · replace hm := ip c3 hm
    refine W.eq (g2 := F0 m 9 ls [.ref (ad 21)]) (by rw [c3]; rfl) ?_
    refine lv_astore_n (lv' := [(3, .ref (ad 21)), (0, .ref (ad 0)), (1, .ref (ad 7)), (2, .int p2)]) hx hb d_Log_drawSavepoint_9 rfl hl (by decide) rfl (fun ls hl => ?_)
    refine lv_aload_n hx hb d_Log_drawSavepoint_10 rfl (lv_at hl 0 rfl) ?_
    refine lv_ifnonnull (tgt := 15) hx hb d_Log_drawSavepoint_11 (by decide) ?_
    refine lv_aload_n hx hb d_Log_drawSavepoint_15 rfl (lv_at hl 0 rfl) ?_
    refine lv_iload_n hx hb d_Log_drawSavepoint_16 rfl (lv_at hl 3 rfl) ?_
    obtain ⟨q4, hq4, hm⟩ := ob hm
    refine inv_rV (C := R_Marks) (As := [.int p2]) (rest := []) (v := .int q4) X (c_Marks_find l D ca (ad 21) (ad 22) (ad 23) (ad 24) (ad 25) (ad 26) _ (g_kept g) p2 q4 hq4) g_Log_98 yo_Marks_find ⟨Nat.le_of_ble_eq_true rfl, Nat.le_of_ble_eq_true rfl⟩ hl hP hD [21, 22, 23, 24, 25, 26] rfl rfl (ci := 4) rfl rfl hS hA rfl rfl (Nat.le_of_ble_eq_true rfl) ⟨Nat.zero_le _, Nat.zero_le _⟩ d_Log_drawSavepoint_17 (fun H locs hP hS => ?_)
    refine lv_istore (lv' := [(4, .int q4), (3, .ref (ad 21)), (0, .ref (ad 0)), (1, .ref (ad 7)), (2, .int p2)]) hx hb d_Log_drawSavepoint_20 hl (by decide) rfl (fun ls hl => ?_)
    refine lv_aload_n hx hb d_Log_drawSavepoint_22 rfl (lv_at hl 1 rfl) ?_
    refine lv_iload hx hb d_Log_drawSavepoint_23 (lv_at hl 0 rfl) ?_
    obtain ⟨q5, hq5, hm⟩ := ob hm
    refine inv_rV (C := R_Marks) (As := [.int q4]) (rest := []) (v := .int q5) X (c_Marks_countAt l D ca (ad 21) (ad 22) (ad 23) (ad 24) (ad 25) (ad 26) _ (g_kept g) q4 q5 hq5) g_Log_101 yo_Marks_countAt ⟨Nat.le_of_ble_eq_true rfl, Nat.le_of_ble_eq_true rfl⟩ hl hP hD [21, 22, 23, 24, 25, 26] rfl rfl (ci := 4) rfl rfl hS hA rfl rfl (Nat.le_of_ble_eq_true rfl) ⟨Nat.zero_le _, Nat.zero_le _⟩ d_Log_drawSavepoint_25 (fun H locs hP hS => ?_)
    refine lv_istore (lv' := [(5, .int q5), (4, .int q4), (3, .ref (ad 21)), (0, .ref (ad 0)), (1, .ref (ad 7)), (2, .int p2)]) hx hb d_Log_drawSavepoint_28 hl (by decide) rfl (fun ls hl => ?_)
    refine lv_aload_n hx hb d_Log_drawSavepoint_30 rfl (lv_at hl 4 rfl) ?_
    refine lv_ldc2 hx hb hown (hts _ wc_Log_383) d_Log_drawSavepoint_31 ?_
    refine lv_iconst (v := 1) hx hb d_Log_drawSavepoint_34 (by decide) ?_
    obtain ⟨q6, hq6, hm⟩ := ob hm
    refine inv_mU (C := R_Bytes) (As := [.long 77, .int 1]) (rest := []) (ws' := wl_Log ca ad (s_savepoint (s_savepoint g q1) q6)) X (c_Bytes_add l D ca (ad 7) (ad 8) _ q1 77 1 q6 hq6) g_Log_76 yo_Bytes_add ⟨Nat.le_of_ble_eq_true rfl, Nat.le_of_ble_eq_true rfl⟩ hl hP hD [7, 8] rfl rfl rfl rfl (ci := 1) rfl rfl hS hA rfl rfl (Nat.le_of_ble_eq_true rfl) ⟨Nat.zero_le _, Nat.zero_le _⟩ d_Log_drawSavepoint_35 (fun H locs hP hD hS => ?_)
    refine lv_aload_n hx hb d_Log_drawSavepoint_38 rfl (lv_at hl 4 rfl) ?_
    refine lv_iload hx hb d_Log_drawSavepoint_39 (lv_at hl 0 rfl) ?_
    refine lv_i2l (v := ((q5).toInt64)) hx hb d_Log_drawSavepoint_41 rfl ?_
    refine lv_iconst (v := 1) hx hb d_Log_drawSavepoint_42 (by decide) ?_
    obtain ⟨q7, hq7, hm⟩ := ob hm
    refine inv_mU (C := R_Bytes) (As := [.long ((q5).toInt64), .int 1]) (rest := []) (ws' := wl_Log ca ad (s_savepoint (s_savepoint (s_savepoint g q1) q6) q7)) X (c_Bytes_add l D ca (ad 7) (ad 8) _ q6 ((q5).toInt64) 1 q7 hq7) g_Log_76 yo_Bytes_add ⟨Nat.le_of_ble_eq_true rfl, Nat.le_of_ble_eq_true rfl⟩ hl hP hD [7, 8] rfl rfl rfl rfl (ci := 1) rfl rfl hS hA rfl rfl (Nat.le_of_ble_eq_true rfl) ⟨Nat.zero_le _, Nat.zero_le _⟩ d_Log_drawSavepoint_43 (fun H locs hP hD hS => ?_)
    refine lv_iconst (v := 0) hx hb d_Log_drawSavepoint_46 (by decide) ?_
    refine lv_istore (lv' := [(6, .int 0), (5, .int q5), (4, .int q4), (3, .ref (ad 21)), (0, .ref (ad 0)), (1, .ref (ad 7)), (2, .int p2)]) hx hb d_Log_drawSavepoint_47 hl (by decide) rfl (fun ls hl => ?_)
    exact k_m_Log_drawSavepoint_savepoint_L49 X hA FU (s_savepoint (s_savepoint (s_savepoint g q1) q6) q7) q4 q5 0 _ hm _ _ hP hD hS ls (lv_sub hl [4, 5, 3, 2, 1, 0] rfl)
  replace hm := ineg c3 hm
  by_cases c15 : q2 = 2
  · replace hm := ip c15 hm
    refine W.eq (g2 := F0 m 9 ls [.ref (ad 27)]) (by rw [c15]; rfl) ?_
    refine lv_astore_n (lv' := [(3, .ref (ad 27)), (0, .ref (ad 0)), (1, .ref (ad 7)), (2, .int p2)]) hx hb d_Log_drawSavepoint_9 rfl hl (by decide) rfl (fun ls hl => ?_)
    refine lv_aload_n hx hb d_Log_drawSavepoint_10 rfl (lv_at hl 0 rfl) ?_
    refine lv_ifnonnull (tgt := 15) hx hb d_Log_drawSavepoint_11 (by decide) ?_
    refine lv_aload_n hx hb d_Log_drawSavepoint_15 rfl (lv_at hl 0 rfl) ?_
    refine lv_iload_n hx hb d_Log_drawSavepoint_16 rfl (lv_at hl 3 rfl) ?_
    obtain ⟨q16, hq16, hm⟩ := ob hm
    refine inv_rV (C := R_Marks) (As := [.int p2]) (rest := []) (v := .int q16) X (c_Marks_find l D ca (ad 27) (ad 28) (ad 29) (ad 30) (ad 31) (ad 32) _ (g_made g) p2 q16 hq16) g_Log_98 yo_Marks_find ⟨Nat.le_of_ble_eq_true rfl, Nat.le_of_ble_eq_true rfl⟩ hl hP hD [27, 28, 29, 30, 31, 32] rfl rfl (ci := 4) rfl rfl hS hA rfl rfl (Nat.le_of_ble_eq_true rfl) ⟨Nat.zero_le _, Nat.zero_le _⟩ d_Log_drawSavepoint_17 (fun H locs hP hS => ?_)
    refine lv_istore (lv' := [(4, .int q16), (3, .ref (ad 27)), (0, .ref (ad 0)), (1, .ref (ad 7)), (2, .int p2)]) hx hb d_Log_drawSavepoint_20 hl (by decide) rfl (fun ls hl => ?_)
    refine lv_aload_n hx hb d_Log_drawSavepoint_22 rfl (lv_at hl 1 rfl) ?_
    refine lv_iload hx hb d_Log_drawSavepoint_23 (lv_at hl 0 rfl) ?_
    obtain ⟨q17, hq17, hm⟩ := ob hm
    refine inv_rV (C := R_Marks) (As := [.int q16]) (rest := []) (v := .int q17) X (c_Marks_countAt l D ca (ad 27) (ad 28) (ad 29) (ad 30) (ad 31) (ad 32) _ (g_made g) q16 q17 hq17) g_Log_101 yo_Marks_countAt ⟨Nat.le_of_ble_eq_true rfl, Nat.le_of_ble_eq_true rfl⟩ hl hP hD [27, 28, 29, 30, 31, 32] rfl rfl (ci := 4) rfl rfl hS hA rfl rfl (Nat.le_of_ble_eq_true rfl) ⟨Nat.zero_le _, Nat.zero_le _⟩ d_Log_drawSavepoint_25 (fun H locs hP hS => ?_)
    refine lv_istore (lv' := [(5, .int q17), (4, .int q16), (3, .ref (ad 27)), (0, .ref (ad 0)), (1, .ref (ad 7)), (2, .int p2)]) hx hb d_Log_drawSavepoint_28 hl (by decide) rfl (fun ls hl => ?_)
    refine lv_aload_n hx hb d_Log_drawSavepoint_30 rfl (lv_at hl 4 rfl) ?_
    refine lv_ldc2 hx hb hown (hts _ wc_Log_383) d_Log_drawSavepoint_31 ?_
    refine lv_iconst (v := 1) hx hb d_Log_drawSavepoint_34 (by decide) ?_
    obtain ⟨q18, hq18, hm⟩ := ob hm
    refine inv_mU (C := R_Bytes) (As := [.long 77, .int 1]) (rest := []) (ws' := wl_Log ca ad (s_savepoint (s_savepoint g q1) q18)) X (c_Bytes_add l D ca (ad 7) (ad 8) _ q1 77 1 q18 hq18) g_Log_76 yo_Bytes_add ⟨Nat.le_of_ble_eq_true rfl, Nat.le_of_ble_eq_true rfl⟩ hl hP hD [7, 8] rfl rfl rfl rfl (ci := 1) rfl rfl hS hA rfl rfl (Nat.le_of_ble_eq_true rfl) ⟨Nat.zero_le _, Nat.zero_le _⟩ d_Log_drawSavepoint_35 (fun H locs hP hD hS => ?_)
    refine lv_aload_n hx hb d_Log_drawSavepoint_38 rfl (lv_at hl 4 rfl) ?_
    refine lv_iload hx hb d_Log_drawSavepoint_39 (lv_at hl 0 rfl) ?_
    refine lv_i2l (v := ((q17).toInt64)) hx hb d_Log_drawSavepoint_41 rfl ?_
    refine lv_iconst (v := 1) hx hb d_Log_drawSavepoint_42 (by decide) ?_
    obtain ⟨q19, hq19, hm⟩ := ob hm
    refine inv_mU (C := R_Bytes) (As := [.long ((q17).toInt64), .int 1]) (rest := []) (ws' := wl_Log ca ad (s_savepoint (s_savepoint (s_savepoint g q1) q18) q19)) X (c_Bytes_add l D ca (ad 7) (ad 8) _ q18 ((q17).toInt64) 1 q19 hq19) g_Log_76 yo_Bytes_add ⟨Nat.le_of_ble_eq_true rfl, Nat.le_of_ble_eq_true rfl⟩ hl hP hD [7, 8] rfl rfl rfl rfl (ci := 1) rfl rfl hS hA rfl rfl (Nat.le_of_ble_eq_true rfl) ⟨Nat.zero_le _, Nat.zero_le _⟩ d_Log_drawSavepoint_43 (fun H locs hP hD hS => ?_)
    refine lv_iconst (v := 0) hx hb d_Log_drawSavepoint_46 (by decide) ?_
    refine lv_istore (lv' := [(6, .int 0), (5, .int q17), (4, .int q16), (3, .ref (ad 27)), (0, .ref (ad 0)), (1, .ref (ad 7)), (2, .int p2)]) hx hb d_Log_drawSavepoint_47 hl (by decide) rfl (fun ls hl => ?_)
    exact k_m_Log_drawSavepoint_savepoint_L49a X hA FU (s_savepoint (s_savepoint (s_savepoint g q1) q18) q19) q16 q17 0 _ hm _ _ hP hD hS ls (lv_sub hl [4, 5, 3, 2, 1, 0] rfl)
  replace hm := ineg c15 hm
  refine W.eq (g2 := F0 m 9 ls [.null]) (by rw [tb_Log_tableOf, if_neg c3, if_neg c15]) ?_
  refine lv_astore_nN (lv' := [(3, .null), (0, .ref (ad 0)), (1, .ref (ad 7)), (2, .int p2)]) hx hb d_Log_drawSavepoint_9 rfl hl (by decide) rfl (fun ls hl => ?_)
  refine lv_aload_nN hx hb d_Log_drawSavepoint_10 rfl (lv_at hl 0 rfl) ?_
  refine lv_ifnonnullN hx hb d_Log_drawSavepoint_11 ?_
  cases hm
  exact ret_mv X hP hS d_Log_drawSavepoint_14
set_option maxHeartbeats 4000000 in
set_option maxRecDepth 100000 in
theorem c_Log_out (l : Launch) (D : va_G) (ca : Nat → ClassId) (ad : Nat → Nat) (sz : Nat) (g : St_Log) (p1 : Int32) (p2 : Int32) (res : Int32 × St_Log) (hm : m_Log_out g p1 p2 = some res) : Met l y_Log_out (cws y_Log_out b_Log_out 3 (some .int)) (RM 7 165) (PreW D ca (wl_Log ca ad g) [.ref (ad 0), .int p1, .int p2] sz) (QRm D (some (.int res.1)) (wl_Log ca ad res.2) (va_A (wl_Log ca ad g) sz)) 0 0 (va_A (wl_Log ca ad g) sz) := by
  refine met_ofM (own := R_Log) (by decide) rfl (Nat.le_of_ble_eq_true rfl) ?_
  intro p e s m below meth c A X hA hP hD ls hl
  obtain ⟨hx, hb, hml, hr, hown, hts, hK, hlocks⟩ := id X
  have hS : va_S A s.heap s.heap [] := va_S.rf
  have hl : lv_has ls 3 [(0, .ref (ad 0)), (1, .int p1), (2, .int p2)] := hl
  unfold m_Log_out at hm
  refine lv_aload_n hx hb d_Log_out_0 rfl (lv_at hl 0 rfl) ?_
  refine va_get (D := D) (ci := 5) (v := .int (g_isOpen g)) (C := R_Log) (T := F_Log) (N := 15) hx hb hts i_Log hown hK hP 0 rfl rfl 14 (by decide) (hts _ wf_Log_69) (fun _ h9 => h9) rfl d_Log_out_1 ?_
  refine lv_if_ne (tgt := 10) hx hb d_Log_out_4 (by decide) (fun c1 => ?_) (fun c1 => ?_)
  · replace hm := ineg c1 hm
    refine lv_aload_n hx hb d_Log_out_10 rfl (lv_at hl 0 rfl) ?_
    refine lv_iload_n hx hb d_Log_out_11 rfl (lv_at hl 1 rfl) ?_
    obtain ⟨q2, hq2, hm⟩ := ob hm
    refine inv_rVa (C := R_Log) (As := [.int p1]) (rest := []) (v := tb_Log_tableOf ad q2) X (c_Log_tableOf l D ca ad _ g p1 q2 hq2) g_Log_175 yo_Log_tableOf ⟨Nat.le_of_ble_eq_true rfl, Nat.le_of_ble_eq_true rfl⟩ hl hP hD (ci := 5) rfl rfl hS hA rfl rfl (Nat.le_of_ble_eq_true rfl) ⟨Nat.zero_le _, Nat.zero_le _⟩ d_Log_out_12 (fun H locs hP hS => ?_)
    by_cases c3 : q2 = 1
    · replace hm := ip c3 hm
      refine W.eq (g2 := F0 m 15 ls [.ref (ad 21)]) (by rw [c3]; rfl) ?_
      refine lv_ifnonnull (tgt := 20) hx hb d_Log_out_15 (by decide) ?_
      refine lv_aload_n hx hb d_Log_out_20 rfl (lv_at hl 0 rfl) ?_
      refine lv_iload_n hx hb d_Log_out_21 rfl (lv_at hl 1 rfl) ?_
      obtain ⟨q4, hq4, hm⟩ := ob hm
      refine inv_rVa (C := R_Log) (As := [.int p1]) (rest := []) (v := .int q4) X (c_Log_isMarkWhole l D ca ad _ g p1 q4 hq4) g_Log_179 yo_Log_isMarkWhole ⟨Nat.le_of_ble_eq_true rfl, Nat.le_of_ble_eq_true rfl⟩ hl hP hD (ci := 5) rfl rfl hS hA rfl rfl (Nat.le_of_ble_eq_true rfl) ⟨Nat.zero_le _, Nat.zero_le _⟩ d_Log_out_22 (fun H locs hP hS => ?_)
      refine lv_if_ne (tgt := 31) hx hb d_Log_out_25 (by decide) (fun c5 => ?_) (fun c5 => ?_)
      · replace hm := ineg c5 hm
        refine lv_aload_n hx hb d_Log_out_31 rfl (lv_at hl 0 rfl) ?_
        refine lv_aload_n hx hb d_Log_out_32 rfl (lv_at hl 0 rfl) ?_
        refine va_get (D := D) (ci := 5) (v := .ref (ad 7)) (C := R_Log) (T := F_Log) (N := 15) hx hb hts i_Log hown hK hP 0 rfl rfl 3 (by decide) (hts _ wf_Log_28) (fun _ h9 => h9) rfl d_Log_out_33 ?_
        refine lv_iload_n hx hb d_Log_out_36 rfl (lv_at hl 1 rfl) ?_
        obtain ⟨q6, hq6, hm⟩ := ob hm
        refine inv_mUa (C := R_Log) (As := [.ref (ad 7), .int p1]) (rest := []) X (c_Log_drawSavepoint_savepoint l D ca ad _ g p1 q6 hq6) g_Log_235 yo_Log_drawSavepoint ⟨Nat.le_of_ble_eq_true rfl, Nat.le_of_ble_eq_true rfl⟩ hl hP hD rfl (ci := 5) rfl rfl hS hA rfl rfl (Nat.le_of_ble_eq_true rfl) ⟨Nat.zero_le _, Nat.zero_le _⟩ d_Log_out_37 (fun H locs hP hD hS => ?_)
        refine lv_iload_n hx hb d_Log_out_40 rfl (lv_at hl 2 rfl) ?_
        refine lv_iconst (v := (-1)) hx hb d_Log_out_41 (by decide) ?_
        refine lv_icmp_ne (tgt := 53) hx hb d_Log_out_42 (by decide) (fun c7 => ?_) (fun c7 => ?_)
        · replace hm := ineg c7 hm
          refine lv_iload_n hx hb d_Log_out_53 rfl (lv_at hl 2 rfl) ?_
          refine lv_if_lt (tgt := 79) hx hb d_Log_out_54 (by decide) (fun c8 => ?_) (fun c8 => ?_)
          · replace hm := ip c8 hm
            refine lv_iconst (v := (-1)) hx hb d_Log_out_79 (by decide) ?_
            cases hm
            exact ret_mi X hP hS d_Log_out_80
          · replace hm := ineg c8 hm
            refine lv_iload_n hx hb d_Log_out_57 rfl (lv_at hl 2 rfl) ?_
            refine lv_aload_n hx hb d_Log_out_58 rfl (lv_at hl 0 rfl) ?_
            refine va_get (D := D) (ci := 5) (v := .ref (ad 7)) (C := R_Log) (T := F_Log) (N := 15) hx hb hts i_Log hown hK hP 0 rfl rfl 3 (by decide) (hts _ wf_Log_28) (fun _ h9 => h9) rfl d_Log_out_59 ?_
            obtain ⟨q9, hq9, hm⟩ := ob hm
            refine inv_rV (C := R_Bytes) (As := []) (rest := [.int p2]) (v := .int q9) X (c_Bytes_size l D ca (ad 7) (ad 8) _ (g_savepoint q6) q9 hq9) g_Log_73 yo_Bytes_size ⟨Nat.le_of_ble_eq_true rfl, Nat.le_of_ble_eq_true rfl⟩ hl hP hD [7, 8] rfl rfl (ci := 1) rfl rfl hS hA rfl rfl (Nat.le_of_ble_eq_true rfl) ⟨Nat.zero_le _, Nat.zero_le _⟩ d_Log_out_62 (fun H locs hP hS => ?_)
            refine lv_icmp_ge (tgt := 79) hx hb d_Log_out_65 (by decide) (fun c10 => ?_) (fun c10 => ?_)
            · replace hm := ip c10 hm
              refine lv_iconst (v := (-1)) hx hb d_Log_out_79 (by decide) ?_
              cases hm
              exact ret_mi X hP hS d_Log_out_80
            · replace hm := ineg c10 hm
              refine lv_aload_n hx hb d_Log_out_68 rfl (lv_at hl 0 rfl) ?_
              refine va_get (D := D) (ci := 5) (v := .ref (ad 7)) (C := R_Log) (T := F_Log) (N := 15) hx hb hts i_Log hown hK hP 0 rfl rfl 3 (by decide) (hts _ wf_Log_28) (fun _ h9 => h9) rfl d_Log_out_69 ?_
              refine lv_iload_n hx hb d_Log_out_72 rfl (lv_at hl 2 rfl) ?_
              obtain ⟨q11, hq11, hm⟩ := ob hm
              refine inv_rV (C := R_Bytes) (As := [.int p2]) (rest := []) (v := .int q11) X (c_Bytes_at l D ca (ad 7) (ad 8) _ (g_savepoint q6) p2 q11 hq11) g_Log_239 yo_Bytes_at ⟨Nat.le_of_ble_eq_true rfl, Nat.le_of_ble_eq_true rfl⟩ hl hP hD [7, 8] rfl rfl (ci := 1) rfl rfl hS hA rfl rfl (Nat.le_of_ble_eq_true rfl) ⟨Nat.zero_le _, Nat.zero_le _⟩ d_Log_out_73 (fun H locs hP hS => ?_)
              refine lv_goto (tgt := 80) hx hb d_Log_out_76 (by decide) ?_
              cases hm
              exact ret_mi X hP hS d_Log_out_80
        · replace hm := ip c7 hm
          refine lv_aload_n hx hb d_Log_out_45 rfl (lv_at hl 0 rfl) ?_
          refine va_get (D := D) (ci := 5) (v := .ref (ad 7)) (C := R_Log) (T := F_Log) (N := 15) hx hb hts i_Log hown hK hP 0 rfl rfl 3 (by decide) (hts _ wf_Log_28) (fun _ h9 => h9) rfl d_Log_out_46 ?_
          obtain ⟨q12, hq12, hm⟩ := ob hm
          refine inv_rV (C := R_Bytes) (As := []) (rest := []) (v := .int q12) X (c_Bytes_size l D ca (ad 7) (ad 8) _ (g_savepoint q6) q12 hq12) g_Log_73 yo_Bytes_size ⟨Nat.le_of_ble_eq_true rfl, Nat.le_of_ble_eq_true rfl⟩ hl hP hD [7, 8] rfl rfl (ci := 1) rfl rfl hS hA rfl rfl (Nat.le_of_ble_eq_true rfl) ⟨Nat.zero_le _, Nat.zero_le _⟩ d_Log_out_49 (fun H locs hP hS => ?_)
          cases hm
          exact ret_mi X hP hS d_Log_out_52
      · replace hm := ip c5 hm
        refine lv_bipush (v := (-2)) hx hb d_Log_out_28 (by decide) ?_
        cases hm
        exact ret_mi X hP hS d_Log_out_30
    replace hm := ineg c3 hm
    by_cases c13 : q2 = 2
    · replace hm := ip c13 hm
      refine W.eq (g2 := F0 m 15 ls [.ref (ad 27)]) (by rw [c13]; rfl) ?_
      refine lv_ifnonnull (tgt := 20) hx hb d_Log_out_15 (by decide) ?_
      refine lv_aload_n hx hb d_Log_out_20 rfl (lv_at hl 0 rfl) ?_
      refine lv_iload_n hx hb d_Log_out_21 rfl (lv_at hl 1 rfl) ?_
      obtain ⟨q14, hq14, hm⟩ := ob hm
      refine inv_rVa (C := R_Log) (As := [.int p1]) (rest := []) (v := .int q14) X (c_Log_isMarkWhole l D ca ad _ g p1 q14 hq14) g_Log_179 yo_Log_isMarkWhole ⟨Nat.le_of_ble_eq_true rfl, Nat.le_of_ble_eq_true rfl⟩ hl hP hD (ci := 5) rfl rfl hS hA rfl rfl (Nat.le_of_ble_eq_true rfl) ⟨Nat.zero_le _, Nat.zero_le _⟩ d_Log_out_22 (fun H locs hP hS => ?_)
      refine lv_if_ne (tgt := 31) hx hb d_Log_out_25 (by decide) (fun c15 => ?_) (fun c15 => ?_)
      · replace hm := ineg c15 hm
        refine lv_aload_n hx hb d_Log_out_31 rfl (lv_at hl 0 rfl) ?_
        refine lv_aload_n hx hb d_Log_out_32 rfl (lv_at hl 0 rfl) ?_
        refine va_get (D := D) (ci := 5) (v := .ref (ad 7)) (C := R_Log) (T := F_Log) (N := 15) hx hb hts i_Log hown hK hP 0 rfl rfl 3 (by decide) (hts _ wf_Log_28) (fun _ h9 => h9) rfl d_Log_out_33 ?_
        refine lv_iload_n hx hb d_Log_out_36 rfl (lv_at hl 1 rfl) ?_
        obtain ⟨q16, hq16, hm⟩ := ob hm
        refine inv_mUa (C := R_Log) (As := [.ref (ad 7), .int p1]) (rest := []) X (c_Log_drawSavepoint_savepoint l D ca ad _ g p1 q16 hq16) g_Log_235 yo_Log_drawSavepoint ⟨Nat.le_of_ble_eq_true rfl, Nat.le_of_ble_eq_true rfl⟩ hl hP hD rfl (ci := 5) rfl rfl hS hA rfl rfl (Nat.le_of_ble_eq_true rfl) ⟨Nat.zero_le _, Nat.zero_le _⟩ d_Log_out_37 (fun H locs hP hD hS => ?_)
        refine lv_iload_n hx hb d_Log_out_40 rfl (lv_at hl 2 rfl) ?_
        refine lv_iconst (v := (-1)) hx hb d_Log_out_41 (by decide) ?_
        refine lv_icmp_ne (tgt := 53) hx hb d_Log_out_42 (by decide) (fun c17 => ?_) (fun c17 => ?_)
        · replace hm := ineg c17 hm
          refine lv_iload_n hx hb d_Log_out_53 rfl (lv_at hl 2 rfl) ?_
          refine lv_if_lt (tgt := 79) hx hb d_Log_out_54 (by decide) (fun c18 => ?_) (fun c18 => ?_)
          · replace hm := ip c18 hm
            refine lv_iconst (v := (-1)) hx hb d_Log_out_79 (by decide) ?_
            cases hm
            exact ret_mi X hP hS d_Log_out_80
          · replace hm := ineg c18 hm
            refine lv_iload_n hx hb d_Log_out_57 rfl (lv_at hl 2 rfl) ?_
            refine lv_aload_n hx hb d_Log_out_58 rfl (lv_at hl 0 rfl) ?_
            refine va_get (D := D) (ci := 5) (v := .ref (ad 7)) (C := R_Log) (T := F_Log) (N := 15) hx hb hts i_Log hown hK hP 0 rfl rfl 3 (by decide) (hts _ wf_Log_28) (fun _ h9 => h9) rfl d_Log_out_59 ?_
            obtain ⟨q19, hq19, hm⟩ := ob hm
            refine inv_rV (C := R_Bytes) (As := []) (rest := [.int p2]) (v := .int q19) X (c_Bytes_size l D ca (ad 7) (ad 8) _ (g_savepoint q16) q19 hq19) g_Log_73 yo_Bytes_size ⟨Nat.le_of_ble_eq_true rfl, Nat.le_of_ble_eq_true rfl⟩ hl hP hD [7, 8] rfl rfl (ci := 1) rfl rfl hS hA rfl rfl (Nat.le_of_ble_eq_true rfl) ⟨Nat.zero_le _, Nat.zero_le _⟩ d_Log_out_62 (fun H locs hP hS => ?_)
            refine lv_icmp_ge (tgt := 79) hx hb d_Log_out_65 (by decide) (fun c20 => ?_) (fun c20 => ?_)
            · replace hm := ip c20 hm
              refine lv_iconst (v := (-1)) hx hb d_Log_out_79 (by decide) ?_
              cases hm
              exact ret_mi X hP hS d_Log_out_80
            · replace hm := ineg c20 hm
              refine lv_aload_n hx hb d_Log_out_68 rfl (lv_at hl 0 rfl) ?_
              refine va_get (D := D) (ci := 5) (v := .ref (ad 7)) (C := R_Log) (T := F_Log) (N := 15) hx hb hts i_Log hown hK hP 0 rfl rfl 3 (by decide) (hts _ wf_Log_28) (fun _ h9 => h9) rfl d_Log_out_69 ?_
              refine lv_iload_n hx hb d_Log_out_72 rfl (lv_at hl 2 rfl) ?_
              obtain ⟨q21, hq21, hm⟩ := ob hm
              refine inv_rV (C := R_Bytes) (As := [.int p2]) (rest := []) (v := .int q21) X (c_Bytes_at l D ca (ad 7) (ad 8) _ (g_savepoint q16) p2 q21 hq21) g_Log_239 yo_Bytes_at ⟨Nat.le_of_ble_eq_true rfl, Nat.le_of_ble_eq_true rfl⟩ hl hP hD [7, 8] rfl rfl (ci := 1) rfl rfl hS hA rfl rfl (Nat.le_of_ble_eq_true rfl) ⟨Nat.zero_le _, Nat.zero_le _⟩ d_Log_out_73 (fun H locs hP hS => ?_)
              refine lv_goto (tgt := 80) hx hb d_Log_out_76 (by decide) ?_
              cases hm
              exact ret_mi X hP hS d_Log_out_80
        · replace hm := ip c17 hm
          refine lv_aload_n hx hb d_Log_out_45 rfl (lv_at hl 0 rfl) ?_
          refine va_get (D := D) (ci := 5) (v := .ref (ad 7)) (C := R_Log) (T := F_Log) (N := 15) hx hb hts i_Log hown hK hP 0 rfl rfl 3 (by decide) (hts _ wf_Log_28) (fun _ h9 => h9) rfl d_Log_out_46 ?_
          obtain ⟨q22, hq22, hm⟩ := ob hm
          refine inv_rV (C := R_Bytes) (As := []) (rest := []) (v := .int q22) X (c_Bytes_size l D ca (ad 7) (ad 8) _ (g_savepoint q16) q22 hq22) g_Log_73 yo_Bytes_size ⟨Nat.le_of_ble_eq_true rfl, Nat.le_of_ble_eq_true rfl⟩ hl hP hD [7, 8] rfl rfl (ci := 1) rfl rfl hS hA rfl rfl (Nat.le_of_ble_eq_true rfl) ⟨Nat.zero_le _, Nat.zero_le _⟩ d_Log_out_49 (fun H locs hP hS => ?_)
          cases hm
          exact ret_mi X hP hS d_Log_out_52
      · replace hm := ip c15 hm
        refine lv_bipush (v := (-2)) hx hb d_Log_out_28 (by decide) ?_
        cases hm
        exact ret_mi X hP hS d_Log_out_30
    replace hm := ineg c13 hm
    refine W.eq (g2 := F0 m 15 ls [.null]) (by rw [tb_Log_tableOf, if_neg c3, if_neg c13]) ?_
    refine lv_ifnonnullN hx hb d_Log_out_15 ?_
    refine lv_iconst (v := (-1)) hx hb d_Log_out_18 (by decide) ?_
    cases hm
    exact ret_mi X hP hS d_Log_out_19
  · replace hm := ip c1 hm
    refine lv_bipush (v := (-3)) hx hb d_Log_out_7 (by decide) ?_
    cases hm
    exact ret_mi X hP hS d_Log_out_9
set_option maxHeartbeats 4000000 in
set_option maxRecDepth 100000 in
theorem c_Log_lengthOnTape (l : Launch) (D : va_G) (ca : Nat → ClassId) (ad : Nat → Nat) (sz : Nat) (g : St_Log) (p1 : Int32) (res : Int32) (hm : m_Log_lengthOnTape g p1 = some res) : Met l y_Log_lengthOnTape (cws y_Log_lengthOnTape b_Log_lengthOnTape 2 (some .int)) (RM 2 46) (PreW D ca (wl_Log ca ad g) [.ref (ad 0), .int p1] sz) (QRr (.int res) (va_A [] sz)) 0 0 (va_A [] sz) := by
  refine met_ofR (own := R_Log) (by decide) rfl (Nat.le_of_ble_eq_true rfl) ?_
  intro p e s m below meth c A X hA hP hD ls hl
  obtain ⟨hx, hb, hml, hr, hown, hts, hK, hlocks⟩ := id X
  have hS : va_S A s.heap s.heap [] := va_S.rf
  have hl : lv_has ls 2 [(0, .ref (ad 0)), (1, .int p1)] := hl
  unfold m_Log_lengthOnTape at hm
  refine lv_aload_n hx hb d_Log_lengthOnTape_0 rfl (lv_at hl 0 rfl) ?_
  refine va_get (D := D) (ci := 5) (v := .ref (ad 3)) (C := R_Log) (T := F_Log) (N := 15) hx hb hts i_Log hown hK hP 0 rfl rfl 1 (by decide) (hts _ wf_Log_21) (fun _ h9 => h9) rfl d_Log_lengthOnTape_1 ?_
  refine lv_iload_n hx hb d_Log_lengthOnTape_4 rfl (lv_at hl 1 rfl) ?_
  refine lv_bipush (v := 9) hx hb d_Log_lengthOnTape_5 (by decide) ?_
  refine lv_iadd hx hb d_Log_lengthOnTape_7 ?_
  refine lv_iconst (v := 2) hx hb d_Log_lengthOnTape_8 (by decide) ?_
  obtain ⟨q1, hq1, hm⟩ := ob hm
  refine inv_rV (C := R_Bytes) (As := [.int (p1 + 9), .int 2]) (rest := []) (v := .long q1) X (c_Bytes_number l D ca (ad 3) (ad 4) _ (g_tape g) (p1 + 9) 2 q1 hq1) g_Log_394 yo_Bytes_number ⟨Nat.le_of_ble_eq_true rfl, Nat.le_of_ble_eq_true rfl⟩ hl hP hD [3, 4] rfl rfl (ci := 1) rfl rfl hS hA rfl rfl (Nat.le_of_ble_eq_true rfl) ⟨Nat.zero_le _, Nat.zero_le _⟩ d_Log_lengthOnTape_9 (fun H locs hP hS => ?_)
  refine lv_l2i (v := ((q1).toInt32)) hx hb d_Log_lengthOnTape_12 rfl ?_
  cases hm
  exact ret_ri X hS d_Log_lengthOnTape_13
set_option maxHeartbeats 4000000 in
set_option maxRecDepth 100000 in
theorem c_Log_behindPart (l : Launch) (D : va_G) (ca : Nat → ClassId) (ad : Nat → Nat) (sz : Nat) (g : St_Log) (p1 : Int32) (res : Int32) (hm : m_Log_behindPart g p1 = some res) : Met l y_Log_behindPart (cws y_Log_behindPart b_Log_behindPart 2 (some .int)) (RM 3 67) (PreW D ca (wl_Log ca ad g) [.ref (ad 0), .int p1] sz) (QRr (.int res) (va_A [] sz)) 0 0 (va_A [] sz) := by
  refine met_ofR (own := R_Log) (by decide) rfl (Nat.le_of_ble_eq_true rfl) ?_
  intro p e s m below meth c A X hA hP hD ls hl
  obtain ⟨hx, hb, hml, hr, hown, hts, hK, hlocks⟩ := id X
  have hS : va_S A s.heap s.heap [] := va_S.rf
  have hl : lv_has ls 2 [(0, .ref (ad 0)), (1, .int p1)] := hl
  unfold m_Log_behindPart at hm
  refine lv_iload_n hx hb d_Log_behindPart_0 rfl (lv_at hl 1 rfl) ?_
  refine lv_bipush (v := 11) hx hb d_Log_behindPart_1 (by decide) ?_
  refine lv_iadd hx hb d_Log_behindPart_3 ?_
  refine lv_aload_n hx hb d_Log_behindPart_4 rfl (lv_at hl 0 rfl) ?_
  refine lv_iload_n hx hb d_Log_behindPart_5 rfl (lv_at hl 1 rfl) ?_
  obtain ⟨q1, hq1, hm⟩ := ob hm
  refine inv_rVa (C := R_Log) (As := [.int p1]) (rest := [.int (p1 + 11)]) (v := .int q1) X (c_Log_lengthOnTape l D ca ad _ g p1 q1 hq1) g_Log_396 yo_Log_lengthOnTape ⟨Nat.le_of_ble_eq_true rfl, Nat.le_of_ble_eq_true rfl⟩ hl hP hD (ci := 5) rfl rfl hS hA rfl rfl (Nat.le_of_ble_eq_true rfl) ⟨Nat.zero_le _, Nat.zero_le _⟩ d_Log_behindPart_6 (fun H locs hP hS => ?_)
  refine lv_iadd hx hb d_Log_behindPart_9 ?_
  cases hm
  exact ret_ri X hS d_Log_behindPart_10
set_option maxHeartbeats 4000000 in
set_option maxRecDepth 100000 in
theorem c_Log_isPartOnTape (l : Launch) (D : va_G) (ca : Nat → ClassId) (ad : Nat → Nat) (sz : Nat) (g : St_Log) (p1 : Int32) (res : Int32) (hm : m_Log_isPartOnTape g p1 = some res) : Met l y_Log_isPartOnTape (cws y_Log_isPartOnTape b_Log_isPartOnTape 2 (some .boolean)) (RM 4 88) (PreW D ca (wl_Log ca ad g) [.ref (ad 0), .int p1] sz) (QRr (.int res) (va_A [] sz)) 0 0 (va_A [] sz) := by
  refine met_ofR (own := R_Log) (by decide) rfl (Nat.le_of_ble_eq_true rfl) ?_
  intro p e s m below meth c A X hA hP hD ls hl
  obtain ⟨hx, hb, hml, hr, hown, hts, hK, hlocks⟩ := id X
  have hS : va_S A s.heap s.heap [] := va_S.rf
  have hl : lv_has ls 2 [(0, .ref (ad 0)), (1, .int p1)] := hl
  unfold m_Log_isPartOnTape at hm
  refine lv_iload_n hx hb d_Log_isPartOnTape_0 rfl (lv_at hl 1 rfl) ?_
  refine lv_bipush (v := 11) hx hb d_Log_isPartOnTape_1 (by decide) ?_
  refine lv_iadd hx hb d_Log_isPartOnTape_3 ?_
  refine lv_aload_n hx hb d_Log_isPartOnTape_4 rfl (lv_at hl 0 rfl) ?_
  refine va_get (D := D) (ci := 5) (v := .ref (ad 3)) (C := R_Log) (T := F_Log) (N := 15) hx hb hts i_Log hown hK hP 0 rfl rfl 1 (by decide) (hts _ wf_Log_21) (fun _ h9 => h9) rfl d_Log_isPartOnTape_5 ?_
  obtain ⟨q1, hq1, hm⟩ := ob hm
  refine inv_rV (C := R_Bytes) (As := []) (rest := [.int (p1 + 11)]) (v := .int q1) X (c_Bytes_size l D ca (ad 3) (ad 4) _ (g_tape g) q1 hq1) g_Log_73 yo_Bytes_size ⟨Nat.le_of_ble_eq_true rfl, Nat.le_of_ble_eq_true rfl⟩ hl hP hD [3, 4] rfl rfl (ci := 1) rfl rfl hS hA rfl rfl (Nat.le_of_ble_eq_true rfl) ⟨Nat.zero_le _, Nat.zero_le _⟩ d_Log_isPartOnTape_8 (fun H locs hP hS => ?_)
  refine lv_icmp_gt (tgt := 58) hx hb d_Log_isPartOnTape_11 (by decide) (fun c2 => ?_) (fun c2 => ?_)
  · replace hm := ip c2 hm
    refine lv_iconst (v := 0) hx hb d_Log_isPartOnTape_58 (by decide) ?_
    cases hm
    exact ret_rz X nz0 hS d_Log_isPartOnTape_59
  · replace hm := ineg c2 hm
    refine lv_aload_n hx hb d_Log_isPartOnTape_14 rfl (lv_at hl 0 rfl) ?_
    refine va_get (D := D) (ci := 5) (v := .ref (ad 3)) (C := R_Log) (T := F_Log) (N := 15) hx hb hts i_Log hown hK hP 0 rfl rfl 1 (by decide) (hts _ wf_Log_21) (fun _ h9 => h9) rfl d_Log_isPartOnTape_15 ?_
    refine lv_iload_n hx hb d_Log_isPartOnTape_18 rfl (lv_at hl 1 rfl) ?_
    obtain ⟨q3, hq3, hm⟩ := ob hm
    refine inv_rV (C := R_Bytes) (As := [.int p1]) (rest := []) (v := .int q3) X (c_Bytes_at l D ca (ad 3) (ad 4) _ (g_tape g) p1 q3 hq3) g_Log_239 yo_Bytes_at ⟨Nat.le_of_ble_eq_true rfl, Nat.le_of_ble_eq_true rfl⟩ hl hP hD [3, 4] rfl rfl (ci := 1) rfl rfl hS hA rfl rfl (Nat.le_of_ble_eq_true rfl) ⟨Nat.zero_le _, Nat.zero_le _⟩ d_Log_isPartOnTape_19 (fun H locs hP hS => ?_)
    obtain ⟨q4, hq4, hm⟩ := ob hm
    refine inv_rS (As := [.int q3]) (rest := []) (v := .int q4) X (c_Log_isGroup l D ca  _ q3 q4 hq4) g_Log_132 yo_Log_isGroup ⟨Nat.le_of_ble_eq_true rfl, Nat.le_of_ble_eq_true rfl⟩ hl hP hD [] rfl rfl hS hA rfl rfl (Nat.le_of_ble_eq_true rfl) ⟨Nat.zero_le _, Nat.zero_le _⟩ d_Log_isPartOnTape_22 (fun H locs hP hS => ?_)
    refine lv_if_eq (tgt := 58) hx hb d_Log_isPartOnTape_25 (by decide) (fun c5 => ?_) (fun c5 => ?_)
    · replace hm := ip c5 hm
      refine lv_iconst (v := 0) hx hb d_Log_isPartOnTape_58 (by decide) ?_
      cases hm
      exact ret_rz X nz0 hS d_Log_isPartOnTape_59
    · replace hm := ineg c5 hm
      refine lv_aload_n hx hb d_Log_isPartOnTape_28 rfl (lv_at hl 0 rfl) ?_
      refine lv_iload_n hx hb d_Log_isPartOnTape_29 rfl (lv_at hl 1 rfl) ?_
      obtain ⟨q6, hq6, hm⟩ := ob hm
      refine inv_rVa (C := R_Log) (As := [.int p1]) (rest := []) (v := .int q6) X (c_Log_lengthOnTape l D ca ad _ g p1 q6 hq6) g_Log_396 yo_Log_lengthOnTape ⟨Nat.le_of_ble_eq_true rfl, Nat.le_of_ble_eq_true rfl⟩ hl hP hD (ci := 5) rfl rfl hS hA rfl rfl (Nat.le_of_ble_eq_true rfl) ⟨Nat.zero_le _, Nat.zero_le _⟩ d_Log_isPartOnTape_30 (fun H locs hP hS => ?_)
      refine lv_sipush (v := 155) hx hb d_Log_isPartOnTape_33 (by decide) ?_
      refine lv_icmp_gt (tgt := 58) hx hb d_Log_isPartOnTape_36 (by decide) (fun c7 => ?_) (fun c7 => ?_)
      · replace hm := ip c7 hm
        refine lv_iconst (v := 0) hx hb d_Log_isPartOnTape_58 (by decide) ?_
        cases hm
        exact ret_rz X nz0 hS d_Log_isPartOnTape_59
      · replace hm := ineg c7 hm
        refine lv_aload_n hx hb d_Log_isPartOnTape_39 rfl (lv_at hl 0 rfl) ?_
        refine lv_iload_n hx hb d_Log_isPartOnTape_40 rfl (lv_at hl 1 rfl) ?_
        obtain ⟨q8, hq8, hm⟩ := ob hm
        refine inv_rVa (C := R_Log) (As := [.int p1]) (rest := []) (v := .int q8) X (c_Log_behindPart l D ca ad _ g p1 q8 hq8) g_Log_391 yo_Log_behindPart ⟨Nat.le_of_ble_eq_true rfl, Nat.le_of_ble_eq_true rfl⟩ hl hP hD (ci := 5) rfl rfl hS hA rfl rfl (Nat.le_of_ble_eq_true rfl) ⟨Nat.zero_le _, Nat.zero_le _⟩ d_Log_isPartOnTape_41 (fun H locs hP hS => ?_)
        refine lv_aload_n hx hb d_Log_isPartOnTape_44 rfl (lv_at hl 0 rfl) ?_
        refine va_get (D := D) (ci := 5) (v := .ref (ad 3)) (C := R_Log) (T := F_Log) (N := 15) hx hb hts i_Log hown hK hP 0 rfl rfl 1 (by decide) (hts _ wf_Log_21) (fun _ h9 => h9) rfl d_Log_isPartOnTape_45 ?_
        obtain ⟨q9, hq9, hm⟩ := ob hm
        refine inv_rV (C := R_Bytes) (As := []) (rest := [.int q8]) (v := .int q9) X (c_Bytes_size l D ca (ad 3) (ad 4) _ (g_tape g) q9 hq9) g_Log_73 yo_Bytes_size ⟨Nat.le_of_ble_eq_true rfl, Nat.le_of_ble_eq_true rfl⟩ hl hP hD [3, 4] rfl rfl (ci := 1) rfl rfl hS hA rfl rfl (Nat.le_of_ble_eq_true rfl) ⟨Nat.zero_le _, Nat.zero_le _⟩ d_Log_isPartOnTape_48 (fun H locs hP hS => ?_)
        refine lv_icmp_gt (tgt := 58) hx hb d_Log_isPartOnTape_51 (by decide) (fun c10 => ?_) (fun c10 => ?_)
        · replace hm := ip c10 hm
          refine lv_iconst (v := 0) hx hb d_Log_isPartOnTape_58 (by decide) ?_
          cases hm
          exact ret_rz X nz0 hS d_Log_isPartOnTape_59
        · replace hm := ineg c10 hm
          refine lv_iconst (v := 1) hx hb d_Log_isPartOnTape_54 (by decide) ?_
          refine lv_goto (tgt := 59) hx hb d_Log_isPartOnTape_55 (by decide) ?_
          cases hm
          exact ret_rz X nz1 hS d_Log_isPartOnTape_59
set_option maxHeartbeats 4000000 in
set_option maxRecDepth 100000 in
theorem k_m_Log_isSavepointOnTape_L39 {p : Program} {l : Launch} {e : Env} {s : State} {m : MethodId} {args : Array Value} {below : List Frame} {meth : Method} {c : Code} {D : va_G} {ca : Nat → ClassId} {ad : Nat → Nat} {A : Nat → Prop} (X : Cx p s m args meth c R_Log b_Log_isSavepointOnTape 4 (some .boolean) D ca) (hA : ∀ q, s.heap.size ≤ q → A q) {g : St_Log} : ∀ (n : Nat) (v1 : Int32) (v2 : Int32) (v3 : Int32) (res : Int32), m_Log_isSavepointOnTape_L39 g n v1 v2 v3 = some res → ∀ (H : Heap) (locs : List Loc), va_P D classes (wl_Log ca ad g) H → va_D (fun _ => True) (wl_Log ca ad g) → va_S A s.heap H locs → ∀ ls : Array Slot, lv_has ls 4 [(0, .ref (ad 0)), (1, .int v1), (2, .int v2), (3, .int v3)] → W p l e (RM 5 109) s m args below meth c H locs 0 0 (MQ below (QRr (.int res) A) args s 0 0 A) (F0 m 39 ls []) := by
  obtain ⟨hx, hb, hml, hr, hown, hts, hK, hlocks⟩ := id X
  intro n
  induction n with
  | zero =>
    intro v1 v2 v3 res hm
    rw [m_Log_isSavepointOnTape_L39] at hm
    cases hm
  | succ n ih =>
    intro v1 v2 v3 res hm H locs hP hD hS ls hl
    rw [m_Log_isSavepointOnTape_L39] at hm
    refine lv_iload_n hx hb d_Log_isSavepointOnTape_39 rfl (lv_at hl 3 rfl) ?_
    refine lv_iload_n hx hb d_Log_isSavepointOnTape_40 rfl (lv_at hl 1 rfl) ?_
    refine lv_icmp_ge (tgt := 66) hx hb d_Log_isSavepointOnTape_41 (by decide) (fun c6 => ?_) (fun c6 => ?_)
    · replace hm := ip c6 hm
      refine lv_iload_n hx hb d_Log_isSavepointOnTape_66 rfl (lv_at hl 2 rfl) ?_
      refine lv_bipush (v := 8) hx hb d_Log_isSavepointOnTape_67 (by decide) ?_
      refine lv_iadd hx hb d_Log_isSavepointOnTape_69 ?_
      refine lv_aload_n hx hb d_Log_isSavepointOnTape_70 rfl (lv_at hl 0 rfl) ?_
      refine va_get (D := D) (ci := 5) (v := .ref (ad 3)) (C := R_Log) (T := F_Log) (N := 15) hx hb hts i_Log hown hK hP 0 rfl rfl 1 (by decide) (hts _ wf_Log_21) (fun _ h9 => h9) rfl d_Log_isSavepointOnTape_71 ?_
      obtain ⟨q7, hq7, hm⟩ := ob hm
      refine inv_rV (C := R_Bytes) (As := []) (rest := [.int (v2 + 8)]) (v := .int q7) X (c_Bytes_size l D ca (ad 3) (ad 4) _ (g_tape g) q7 hq7) g_Log_73 yo_Bytes_size ⟨Nat.le_of_ble_eq_true rfl, Nat.le_of_ble_eq_true rfl⟩ hl hP hD [3, 4] rfl rfl (ci := 1) rfl rfl hS hA rfl rfl (Nat.le_of_ble_eq_true rfl) ⟨Nat.zero_le _, Nat.zero_le _⟩ d_Log_isSavepointOnTape_74 (fun H locs hP hS => ?_)
      refine lv_icmp_ne (tgt := 107) hx hb d_Log_isSavepointOnTape_77 (by decide) (fun c8 => ?_) (fun c8 => ?_)
      · replace hm := ineg c8 hm
        refine lv_iconst (v := 0) hx hb d_Log_isSavepointOnTape_107 (by decide) ?_
        cases hm
        exact ret_rz X nz0 hS d_Log_isSavepointOnTape_108
      · replace hm := ip c8 hm
        refine lv_aload_n hx hb d_Log_isSavepointOnTape_80 rfl (lv_at hl 0 rfl) ?_
        refine va_get (D := D) (ci := 5) (v := .ref (ad 3)) (C := R_Log) (T := F_Log) (N := 15) hx hb hts i_Log hown hK hP 0 rfl rfl 1 (by decide) (hts _ wf_Log_21) (fun _ h9 => h9) rfl d_Log_isSavepointOnTape_81 ?_
        refine lv_iload_n hx hb d_Log_isSavepointOnTape_84 rfl (lv_at hl 2 rfl) ?_
        refine lv_bipush (v := 8) hx hb d_Log_isSavepointOnTape_85 (by decide) ?_
        obtain ⟨q9, hq9, hm⟩ := ob hm
        refine inv_rV (C := R_Bytes) (As := [.int v2, .int 8]) (rest := []) (v := .long q9) X (c_Bytes_number l D ca (ad 3) (ad 4) _ (g_tape g) v2 8 q9 hq9) g_Log_394 yo_Bytes_number ⟨Nat.le_of_ble_eq_true rfl, Nat.le_of_ble_eq_true rfl⟩ hl hP hD [3, 4] rfl rfl (ci := 1) rfl rfl hS hA rfl rfl (Nat.le_of_ble_eq_true rfl) ⟨Nat.zero_le _, Nat.zero_le _⟩ d_Log_isSavepointOnTape_87 (fun H locs hP hS => ?_)
        refine lv_aload_n hx hb d_Log_isSavepointOnTape_90 rfl (lv_at hl 0 rfl) ?_
        refine va_get (D := D) (ci := 5) (v := .ref (ad 3)) (C := R_Log) (T := F_Log) (N := 15) hx hb hts i_Log hown hK hP 0 rfl rfl 1 (by decide) (hts _ wf_Log_21) (fun _ h9 => h9) rfl d_Log_isSavepointOnTape_91 ?_
        refine lv_iconst (v := 0) hx hb d_Log_isSavepointOnTape_94 (by decide) ?_
        refine lv_iload_n hx hb d_Log_isSavepointOnTape_95 rfl (lv_at hl 2 rfl) ?_
        obtain ⟨q10, hq10, hm⟩ := ob hm
        refine inv_rV (C := R_Bytes) (As := [.int 0, .int v2]) (rest := [.long q9]) (v := .long q10) X (c_Bytes_digest l D ca (ad 3) (ad 4) _ (g_tape g) 0 v2 q10 hq10) g_Log_290 yo_Bytes_digest ⟨Nat.le_of_ble_eq_true rfl, Nat.le_of_ble_eq_true rfl⟩ hl hP hD [3, 4] rfl rfl (ci := 1) rfl rfl hS hA rfl rfl (Nat.le_of_ble_eq_true rfl) ⟨Nat.zero_le _, Nat.zero_le _⟩ d_Log_isSavepointOnTape_96 (fun H locs hP hS => ?_)
        refine W.lcmp hx hb d_Log_isSavepointOnTape_99 ?_
        refine lv_if_ne (tgt := 107) hx hb d_Log_isSavepointOnTape_100 (by decide) (fun c11 => ?_) (fun c11 => ?_)
        · replace hm := ineg c11 hm
          refine lv_iconst (v := 0) hx hb d_Log_isSavepointOnTape_107 (by decide) ?_
          cases hm
          exact ret_rz X nz0 hS d_Log_isSavepointOnTape_108
        · replace hm := ip c11 hm
          refine lv_iconst (v := 1) hx hb d_Log_isSavepointOnTape_103 (by decide) ?_
          refine lv_goto (tgt := 108) hx hb d_Log_isSavepointOnTape_104 (by decide) ?_
          cases hm
          exact ret_rz X nz1 hS d_Log_isSavepointOnTape_108
    · replace hm := ineg c6 hm
      refine lv_aload_n hx hb d_Log_isSavepointOnTape_44 rfl (lv_at hl 0 rfl) ?_
      refine lv_iload_n hx hb d_Log_isSavepointOnTape_45 rfl (lv_at hl 2 rfl) ?_
      obtain ⟨q12, hq12, hm⟩ := ob hm
      refine inv_rVa (C := R_Log) (As := [.int v2]) (rest := []) (v := .int q12) X (c_Log_isPartOnTape l D ca ad _ g v2 q12 hq12) g_Log_388 yo_Log_isPartOnTape ⟨Nat.le_of_ble_eq_true rfl, Nat.le_of_ble_eq_true rfl⟩ hl hP hD (ci := 5) rfl rfl hS hA rfl rfl (Nat.le_of_ble_eq_true rfl) ⟨Nat.zero_le _, Nat.zero_le _⟩ d_Log_isSavepointOnTape_46 (fun H locs hP hS => ?_)
      refine lv_if_ne (tgt := 54) hx hb d_Log_isSavepointOnTape_49 (by decide) (fun c13 => ?_) (fun c13 => ?_)
      · replace hm := ineg c13 hm
        refine lv_aload_n hx hb d_Log_isSavepointOnTape_54 rfl (lv_at hl 0 rfl) ?_
        refine lv_iload_n hx hb d_Log_isSavepointOnTape_55 rfl (lv_at hl 2 rfl) ?_
        obtain ⟨q14, hq14, hm⟩ := ob hm
        refine inv_rVa (C := R_Log) (As := [.int v2]) (rest := []) (v := .int q14) X (c_Log_behindPart l D ca ad _ g v2 q14 hq14) g_Log_391 yo_Log_behindPart ⟨Nat.le_of_ble_eq_true rfl, Nat.le_of_ble_eq_true rfl⟩ hl hP hD (ci := 5) rfl rfl hS hA rfl rfl (Nat.le_of_ble_eq_true rfl) ⟨Nat.zero_le _, Nat.zero_le _⟩ d_Log_isSavepointOnTape_56 (fun H locs hP hS => ?_)
        refine lv_istore_n (lv' := [(2, .int q14), (0, .ref (ad 0)), (1, .int v1), (3, .int v3)]) hx hb d_Log_isSavepointOnTape_59 rfl hl (by decide) rfl (fun ls hl => ?_)
        refine lv_iinc (v := (v3 + 1)) (lv' := [(3, .int (v3 + 1)), (2, .int q14), (0, .ref (ad 0)), (1, .int v1)]) hx hb d_Log_isSavepointOnTape_60 hl (k := 3) rfl rfl (by decide) rfl (fun ls hl => ?_)
        refine lv_goto (tgt := 39) hx hb d_Log_isSavepointOnTape_63 (by decide) ?_
        exact ih  v1 q14 (v3 + 1) _ hm _ _ hP hD hS ls (lv_sub hl [2, 3, 1, 0] rfl)
      · replace hm := ip c13 hm
        refine lv_iconst (v := 0) hx hb d_Log_isSavepointOnTape_52 (by decide) ?_
        cases hm
        exact ret_rz X nz0 hS d_Log_isSavepointOnTape_53
set_option maxHeartbeats 4000000 in
set_option maxRecDepth 100000 in
theorem c_Log_isSavepointOnTape (l : Launch) (D : va_G) (ca : Nat → ClassId) (ad : Nat → Nat) (sz : Nat) (g : St_Log)  (res : Int32) (hm : m_Log_isSavepointOnTape g = some res) : Met l y_Log_isSavepointOnTape (cws y_Log_isSavepointOnTape b_Log_isSavepointOnTape 4 (some .boolean)) (RM 5 109) (PreW D ca (wl_Log ca ad g) [.ref (ad 0)] sz) (QRr (.int res) (va_A [] sz)) 0 0 (va_A [] sz) := by
  refine met_ofR (own := R_Log) (by decide) rfl (Nat.le_of_ble_eq_true rfl) ?_
  intro p e s m below meth c A X hA hP hD ls hl
  obtain ⟨hx, hb, hml, hr, hown, hts, hK, hlocks⟩ := id X
  have hS : va_S A s.heap s.heap [] := va_S.rf
  have hl : lv_has ls 4 [(0, .ref (ad 0))] := hl
  unfold m_Log_isSavepointOnTape at hm
  refine lv_aload_n hx hb d_Log_isSavepointOnTape_0 rfl (lv_at hl 0 rfl) ?_
  refine va_get (D := D) (ci := 5) (v := .ref (ad 3)) (C := R_Log) (T := F_Log) (N := 15) hx hb hts i_Log hown hK hP 0 rfl rfl 1 (by decide) (hts _ wf_Log_21) (fun _ h9 => h9) rfl d_Log_isSavepointOnTape_1 ?_
  refine lv_iconst (v := 1) hx hb d_Log_isSavepointOnTape_4 (by decide) ?_
  obtain ⟨q1, hq1, hm⟩ := ob hm
  refine inv_rV (C := R_Bytes) (As := [.int 1]) (rest := []) (v := .int q1) X (c_Bytes_at l D ca (ad 3) (ad 4) _ (g_tape g) 1 q1 hq1) g_Log_239 yo_Bytes_at ⟨Nat.le_of_ble_eq_true rfl, Nat.le_of_ble_eq_true rfl⟩ hl hP hD [3, 4] rfl rfl (ci := 1) rfl rfl hS hA rfl rfl (Nat.le_of_ble_eq_true rfl) ⟨Nat.zero_le _, Nat.zero_le _⟩ d_Log_isSavepointOnTape_5 (fun H locs hP hS => ?_)
  refine lv_istore_n (lv' := [(1, .int q1), (0, .ref (ad 0))]) hx hb d_Log_isSavepointOnTape_8 rfl hl (by decide) rfl (fun ls hl => ?_)
  refine lv_aload_n hx hb d_Log_isSavepointOnTape_9 rfl (lv_at hl 1 rfl) ?_
  refine va_get (D := D) (ci := 5) (v := .ref (ad 3)) (C := R_Log) (T := F_Log) (N := 15) hx hb hts i_Log hown hK hP 0 rfl rfl 1 (by decide) (hts _ wf_Log_21) (fun _ h9 => h9) rfl d_Log_isSavepointOnTape_10 ?_
  refine lv_iconst (v := 0) hx hb d_Log_isSavepointOnTape_13 (by decide) ?_
  obtain ⟨q2, hq2, hm⟩ := ob hm
  refine inv_rV (C := R_Bytes) (As := [.int 0]) (rest := []) (v := .int q2) X (c_Bytes_at l D ca (ad 3) (ad 4) _ (g_tape g) 0 q2 hq2) g_Log_239 yo_Bytes_at ⟨Nat.le_of_ble_eq_true rfl, Nat.le_of_ble_eq_true rfl⟩ hl hP hD [3, 4] rfl rfl (ci := 1) rfl rfl hS hA rfl rfl (Nat.le_of_ble_eq_true rfl) ⟨Nat.zero_le _, Nat.zero_le _⟩ d_Log_isSavepointOnTape_14 (fun H locs hP hS => ?_)
  refine lv_bipush (v := 77) hx hb d_Log_isSavepointOnTape_17 (by decide) ?_
  refine lv_icmp_ne (tgt := 33) hx hb d_Log_isSavepointOnTape_19 (by decide) (fun c3 => ?_) (fun c3 => ?_)
  · replace hm := ineg c3 hm
    refine lv_iconst (v := 0) hx hb d_Log_isSavepointOnTape_33 (by decide) ?_
    cases hm
    exact ret_rz X nz0 hS d_Log_isSavepointOnTape_34
  · replace hm := ip c3 hm
    refine lv_iload_n hx hb d_Log_isSavepointOnTape_22 rfl (lv_at hl 0 rfl) ?_
    refine lv_iconst (v := 1) hx hb d_Log_isSavepointOnTape_23 (by decide) ?_
    refine lv_icmp_lt (tgt := 33) hx hb d_Log_isSavepointOnTape_24 (by decide) (fun c4 => ?_) (fun c4 => ?_)
    · replace hm := ip c4 hm
      refine lv_iconst (v := 0) hx hb d_Log_isSavepointOnTape_33 (by decide) ?_
      cases hm
      exact ret_rz X nz0 hS d_Log_isSavepointOnTape_34
    · replace hm := ineg c4 hm
      refine lv_iload_n hx hb d_Log_isSavepointOnTape_27 rfl (lv_at hl 0 rfl) ?_
      refine lv_bipush (v := 12) hx hb d_Log_isSavepointOnTape_28 (by decide) ?_
      refine lv_icmp_le (tgt := 35) hx hb d_Log_isSavepointOnTape_30 (by decide) (fun c5 => ?_) (fun c5 => ?_)
      · replace hm := ip c5 hm
        refine lv_iconst (v := 2) hx hb d_Log_isSavepointOnTape_35 (by decide) ?_
        refine lv_istore_n (lv' := [(2, .int 2), (1, .int q1), (0, .ref (ad 0))]) hx hb d_Log_isSavepointOnTape_36 rfl hl (by decide) rfl (fun ls hl => ?_)
        refine lv_iconst (v := 0) hx hb d_Log_isSavepointOnTape_37 (by decide) ?_
        refine lv_istore_n (lv' := [(3, .int 0), (2, .int 2), (1, .int q1), (0, .ref (ad 0))]) hx hb d_Log_isSavepointOnTape_38 rfl hl (by decide) rfl (fun ls hl => ?_)
        exact k_m_Log_isSavepointOnTape_L39 X hA FU  q1 2 0 _ hm _ _ hP hD hS ls (lv_sub hl [3, 2, 1, 0] rfl)
      · replace hm := ineg c5 hm
        refine lv_iconst (v := 0) hx hb d_Log_isSavepointOnTape_33 (by decide) ?_
        cases hm
        exact ret_rz X nz0 hS d_Log_isSavepointOnTape_34
set_option maxHeartbeats 4000000 in
set_option maxRecDepth 100000 in
theorem k_m_Log_isRoomForSavepoint_L51 {p : Program} {l : Launch} {e : Env} {s : State} {m : MethodId} {args : Array Value} {below : List Frame} {meth : Method} {c : Code} {D : va_G} {ca : Nat → ClassId} {ad : Nat → Nat} {A : Nat → Prop} (X : Cx p s m args meth c R_Log b_Log_isRoomForSavepoint 6 (some .boolean) D ca) (hA : ∀ q, s.heap.size ≤ q → A q)  : ∀ (n : Nat) (g : St_Log) (v1 : Int32) (v2 : Int32) (v3 : Int32) (res : Int32 × St_Log), m_Log_isRoomForSavepoint_L51  n g v1 v2 v3 = some res → ∀ (H : Heap) (locs : List Loc), va_P D classes (wl_Log ca ad g) H → va_D A (wl_Log ca ad g) → va_S A s.heap H locs → ∀ ls : Array Slot, lv_has ls 6 [(0, .ref (ad 0)), (1, .int v1), (2, .int v2), (3, .int v3)] → W p l e (RM 4 88) s m args below meth c H locs 0 0 (MQ below (QRm D (some (.int res.1)) (wl_Log ca ad res.2) A) args s 0 0 A) (F0 m 51 ls []) := by
  obtain ⟨hx, hb, hml, hr, hown, hts, hK, hlocks⟩ := id X
  intro n
  induction n with
  | zero =>
    intro g v1 v2 v3 res hm
    rw [m_Log_isRoomForSavepoint_L51] at hm
    cases hm
  | succ n ih =>
    intro g v1 v2 v3 res hm H locs hP hD hS ls hl
    rw [m_Log_isRoomForSavepoint_L51] at hm
    refine lv_iload_n hx hb d_Log_isRoomForSavepoint_51 rfl (lv_at hl 3 rfl) ?_
    refine lv_iload_n hx hb d_Log_isRoomForSavepoint_52 rfl (lv_at hl 1 rfl) ?_
    refine lv_icmp_ge (tgt := 108) hx hb d_Log_isRoomForSavepoint_53 (by decide) (fun c6 => ?_) (fun c6 => ?_)
    · replace hm := ip c6 hm
      refine lv_iconst (v := 1) hx hb d_Log_isRoomForSavepoint_108 (by decide) ?_
      cases hm
      exact ret_mz X nz1 hP hS d_Log_isRoomForSavepoint_109
    · replace hm := ineg c6 hm
      refine lv_aload_n hx hb d_Log_isRoomForSavepoint_56 rfl (lv_at hl 0 rfl) ?_
      refine lv_iload_n hx hb d_Log_isRoomForSavepoint_57 rfl (lv_at hl 2 rfl) ?_
      obtain ⟨q7, hq7, hm⟩ := ob hm
      refine inv_rVa (C := R_Log) (As := [.int v2]) (rest := []) (v := .int q7) X (c_Log_lengthOnTape l D ca ad _ g v2 q7 hq7) g_Log_396 yo_Log_lengthOnTape ⟨Nat.le_of_ble_eq_true rfl, Nat.le_of_ble_eq_true rfl⟩ hl hP hD (ci := 5) rfl rfl hS hA rfl rfl (Nat.le_of_ble_eq_true rfl) ⟨Nat.zero_le _, Nat.zero_le _⟩ d_Log_isRoomForSavepoint_58 (fun H locs hP hS => ?_)
      obtain ⟨q8, hq8, hm⟩ := ob hm
      refine inv_rS (As := [.int q7]) (rest := []) (v := .int q8) X (c_Log_rowsOfPart l D ca  _ q7 q8 hq8) g_Log_270 yo_Log_rowsOfPart ⟨Nat.le_of_ble_eq_true rfl, Nat.le_of_ble_eq_true rfl⟩ hl hP hD [] rfl rfl hS hA rfl rfl (Nat.le_of_ble_eq_true rfl) ⟨Nat.zero_le _, Nat.zero_le _⟩ d_Log_isRoomForSavepoint_61 (fun H locs hP hS => ?_)
      refine lv_istore (lv' := [(4, .int q8), (0, .ref (ad 0)), (1, .int v1), (2, .int v2), (3, .int v3)]) hx hb d_Log_isRoomForSavepoint_64 hl (by decide) rfl (fun ls hl => ?_)
      refine lv_aload_n hx hb d_Log_isRoomForSavepoint_66 rfl (lv_at hl 1 rfl) ?_
      refine va_get (D := D) (ci := 5) (v := .ref (ad 13)) (C := R_Log) (T := F_Log) (N := 15) hx hb hts i_Log hown hK hP 0 rfl rfl 6 (by decide) (hts _ wf_Log_45) (fun _ h9 => h9) rfl d_Log_isRoomForSavepoint_67 ?_
      refine lv_iload hx hb d_Log_isRoomForSavepoint_70 (lv_at hl 0 rfl) ?_
      obtain ⟨q9, hq9, hm⟩ := ob hm
      refine inv_rV (C := R_Room) (As := [.int q8]) (rest := []) (v := .int q9) X (c_Room_firstRun l D ca (ad 13) (ad 14) _ (g_trial g) q8 q9 hq9) g_Log_107 yo_Room_firstRun ⟨Nat.le_of_ble_eq_true rfl, Nat.le_of_ble_eq_true rfl⟩ hl hP hD [13, 14] rfl rfl (ci := 2) rfl rfl hS hA rfl rfl (Nat.le_of_ble_eq_true rfl) ⟨Nat.zero_le _, Nat.zero_le _⟩ d_Log_isRoomForSavepoint_72 (fun H locs hP hS => ?_)
      refine lv_istore (lv' := [(5, .int q9), (4, .int q8), (0, .ref (ad 0)), (1, .int v1), (2, .int v2), (3, .int v3)]) hx hb d_Log_isRoomForSavepoint_75 hl (by decide) rfl (fun ls hl => ?_)
      refine lv_iload hx hb d_Log_isRoomForSavepoint_77 (lv_at hl 0 rfl) ?_
      refine lv_iconst (v := (-1)) hx hb d_Log_isRoomForSavepoint_79 (by decide) ?_
      refine lv_icmp_ne (tgt := 85) hx hb d_Log_isRoomForSavepoint_80 (by decide) (fun c10 => ?_) (fun c10 => ?_)
      · replace hm := ineg c10 hm
        refine lv_aload_n hx hb d_Log_isRoomForSavepoint_85 rfl (lv_at hl 2 rfl) ?_
        refine va_get (D := D) (ci := 5) (v := .ref (ad 13)) (C := R_Log) (T := F_Log) (N := 15) hx hb hts i_Log hown hK hP 0 rfl rfl 6 (by decide) (hts _ wf_Log_45) (fun _ h9 => h9) rfl d_Log_isRoomForSavepoint_86 ?_
        refine lv_iload hx hb d_Log_isRoomForSavepoint_89 (lv_at hl 0 rfl) ?_
        refine lv_iload hx hb d_Log_isRoomForSavepoint_91 (lv_at hl 1 rfl) ?_
        obtain ⟨q11, hq11, hm⟩ := ob hm
        refine inv_mU (C := R_Room) (As := [.int q9, .int q8]) (rest := []) (ws' := wl_Log ca ad (s_trial g q11)) X (c_Room_take l D ca (ad 13) (ad 14) _ (g_trial g) q9 q8 q11 hq11) g_Log_321 yo_Room_take ⟨Nat.le_of_ble_eq_true rfl, Nat.le_of_ble_eq_true rfl⟩ hl hP hD [13, 14] rfl rfl rfl rfl (ci := 2) rfl rfl hS hA rfl rfl (Nat.le_of_ble_eq_true rfl) ⟨Nat.zero_le _, Nat.zero_le _⟩ d_Log_isRoomForSavepoint_93 (fun H locs hP hD hS => ?_)
        refine lv_aload_n hx hb d_Log_isRoomForSavepoint_96 rfl (lv_at hl 2 rfl) ?_
        refine lv_iload_n hx hb d_Log_isRoomForSavepoint_97 rfl (lv_at hl 4 rfl) ?_
        obtain ⟨q12, hq12, hm⟩ := ob hm
        refine inv_rVa (C := R_Log) (As := [.int v2]) (rest := []) (v := .int q12) X (c_Log_behindPart l D ca ad _ (s_trial g q11) v2 q12 hq12) g_Log_391 yo_Log_behindPart ⟨Nat.le_of_ble_eq_true rfl, Nat.le_of_ble_eq_true rfl⟩ hl hP hD (ci := 5) rfl rfl hS hA rfl rfl (Nat.le_of_ble_eq_true rfl) ⟨Nat.zero_le _, Nat.zero_le _⟩ d_Log_isRoomForSavepoint_98 (fun H locs hP hS => ?_)
        refine lv_istore_n (lv' := [(2, .int q12), (5, .int q9), (4, .int q8), (0, .ref (ad 0)), (1, .int v1), (3, .int v3)]) hx hb d_Log_isRoomForSavepoint_101 rfl hl (by decide) rfl (fun ls hl => ?_)
        refine lv_iinc (v := (v3 + 1)) (lv' := [(3, .int (v3 + 1)), (2, .int q12), (5, .int q9), (4, .int q8), (0, .ref (ad 0)), (1, .int v1)]) hx hb d_Log_isRoomForSavepoint_102 hl (k := 5) rfl rfl (by decide) rfl (fun ls hl => ?_)
        refine lv_goto (tgt := 51) hx hb d_Log_isRoomForSavepoint_105 (by decide) ?_
        exact ih (s_trial g q11) v1 q12 (v3 + 1) _ hm _ _ hP hD hS ls (lv_sub hl [4, 5, 1, 0] rfl)
      · replace hm := ip c10 hm
        refine lv_iconst (v := 0) hx hb d_Log_isRoomForSavepoint_83 (by decide) ?_
        cases hm
        exact ret_mz X nz0 hP hS d_Log_isRoomForSavepoint_84
set_option maxHeartbeats 4000000 in
set_option maxRecDepth 100000 in
theorem c_Log_isRoomForSavepoint (l : Launch) (D : va_G) (ca : Nat → ClassId) (ad : Nat → Nat) (sz : Nat) (g : St_Log) (p1 : Int32) (res : Int32 × St_Log) (hm : m_Log_isRoomForSavepoint g p1 = some res) : Met l y_Log_isRoomForSavepoint (cws y_Log_isRoomForSavepoint b_Log_isRoomForSavepoint 6 (some .boolean)) (RM 4 88) (PreW D ca (wl_Log ca ad g) [.ref (ad 0), .int p1] sz) (QRm D (some (.int res.1)) (wl_Log ca ad res.2) (va_A (wl_Log ca ad g) sz)) 0 0 (va_A (wl_Log ca ad g) sz) := by
  refine met_ofM (own := R_Log) (by decide) rfl (Nat.le_of_ble_eq_true rfl) ?_
  intro p e s m below meth c A X hA hP hD ls hl
  obtain ⟨hx, hb, hml, hr, hown, hts, hK, hlocks⟩ := id X
  have hS : va_S A s.heap s.heap [] := va_S.rf
  have hl : lv_has ls 6 [(0, .ref (ad 0)), (1, .int p1)] := hl
  unfold m_Log_isRoomForSavepoint at hm
  refine lv_aload_n hx hb d_Log_isRoomForSavepoint_0 rfl (lv_at hl 0 rfl) ?_
  refine va_get (D := D) (ci := 5) (v := .ref (ad 27)) (C := R_Log) (T := F_Log) (N := 15) hx hb hts i_Log hown hK hP 0 rfl rfl 9 (by decide) (hts _ wf_Log_62) (fun _ h9 => h9) rfl d_Log_isRoomForSavepoint_1 ?_
  obtain ⟨q1, hq1, hm⟩ := ob hm
  refine inv_rV (C := R_Marks) (As := []) (rest := []) (v := .int q1) X (c_Marks_size l D ca (ad 27) (ad 28) (ad 29) (ad 30) (ad 31) (ad 32) _ (g_made g) q1 hq1) g_Log_88 yo_Marks_size ⟨Nat.le_of_ble_eq_true rfl, Nat.le_of_ble_eq_true rfl⟩ hl hP hD [27, 28, 29, 30, 31, 32] rfl rfl (ci := 4) rfl rfl hS hA rfl rfl (Nat.le_of_ble_eq_true rfl) ⟨Nat.zero_le _, Nat.zero_le _⟩ d_Log_isRoomForSavepoint_4 (fun H locs hP hS => ?_)
  refine lv_bipush (v := 6) hx hb d_Log_isRoomForSavepoint_7 (by decide) ?_
  refine lv_icmp_ge (tgt := 21) hx hb d_Log_isRoomForSavepoint_9 (by decide) (fun c2 => ?_) (fun c2 => ?_)
  · replace hm := ip c2 hm
    refine lv_iconst (v := 0) hx hb d_Log_isRoomForSavepoint_21 (by decide) ?_
    cases hm
    exact ret_mz X nz0 hP hS d_Log_isRoomForSavepoint_22
  · replace hm := ineg c2 hm
    refine lv_aload_n hx hb d_Log_isRoomForSavepoint_12 rfl (lv_at hl 0 rfl) ?_
    refine va_get (D := D) (ci := 5) (v := .int (g_greatestMark g)) (C := R_Log) (T := F_Log) (N := 15) hx hb hts i_Log hown hK hP 0 rfl rfl 13 (by decide) (hts _ wf_Log_89) (fun _ h9 => h9) rfl d_Log_isRoomForSavepoint_13 ?_
    refine lv_ldc hx hb hown (hts _ wc_Log_93) d_Log_isRoomForSavepoint_16 ?_
    refine lv_icmp_lt (tgt := 23) hx hb d_Log_isRoomForSavepoint_18 (by decide) (fun c3 => ?_) (fun c3 => ?_)
    · replace hm := ip c3 hm
      refine lv_aload_n hx hb d_Log_isRoomForSavepoint_23 rfl (lv_at hl 0 rfl) ?_
      refine va_get (D := D) (ci := 5) (v := .int (g_greatestPart g)) (C := R_Log) (T := F_Log) (N := 15) hx hb hts i_Log hown hK hP 0 rfl rfl 12 (by decide) (hts _ wf_Log_268) (fun _ h9 => h9) rfl d_Log_isRoomForSavepoint_24 ?_
      refine lv_ldc hx hb hown (hts _ wc_Log_93) d_Log_isRoomForSavepoint_27 ?_
      refine lv_iload_n hx hb d_Log_isRoomForSavepoint_29 rfl (lv_at hl 1 rfl) ?_
      refine lv_isub hx hb d_Log_isRoomForSavepoint_30 ?_
      refine lv_icmp_le (tgt := 36) hx hb d_Log_isRoomForSavepoint_31 (by decide) (fun c4 => ?_) (fun c4 => ?_)
      · replace hm := ip c4 hm
        refine lv_aload_n hx hb d_Log_isRoomForSavepoint_36 rfl (lv_at hl 0 rfl) ?_
        refine va_get (D := D) (ci := 5) (v := .ref (ad 13)) (C := R_Log) (T := F_Log) (N := 15) hx hb hts i_Log hown hK hP 0 rfl rfl 6 (by decide) (hts _ wf_Log_45) (fun _ h9 => h9) rfl d_Log_isRoomForSavepoint_37 ?_
        refine lv_aload_n hx hb d_Log_isRoomForSavepoint_40 rfl (lv_at hl 0 rfl) ?_
        refine va_get (D := D) (ci := 5) (v := .ref (ad 11)) (C := R_Log) (T := F_Log) (N := 15) hx hb hts i_Log hown hK hP 0 rfl rfl 5 (by decide) (hts _ wf_Log_41) (fun _ h9 => h9) rfl d_Log_isRoomForSavepoint_41 ?_
        obtain ⟨q5, hq5, hm⟩ := ob hm
        refine inv_mU (C := R_Room) (As := [.ref (ad 11)]) (rest := []) (ws' := wl_Log ca ad (s_trial g q5)) X (c_Room_copyFrom l D ca (ad 13) (ad 14) (ad 11) (ad 12) _ (g_trial g) (g_room g) q5 hq5) g_Log_399 yo_Room_copyFrom ⟨Nat.le_of_ble_eq_true rfl, Nat.le_of_ble_eq_true rfl⟩ hl hP hD [13, 14, 11, 12] rfl rfl rfl rfl (ci := 2) rfl rfl hS hA rfl rfl (Nat.le_of_ble_eq_true rfl) ⟨Nat.zero_le _, Nat.zero_le _⟩ d_Log_isRoomForSavepoint_44 (fun H locs hP hD hS => ?_)
        refine lv_iconst (v := 2) hx hb d_Log_isRoomForSavepoint_47 (by decide) ?_
        refine lv_istore_n (lv' := [(2, .int 2), (0, .ref (ad 0)), (1, .int p1)]) hx hb d_Log_isRoomForSavepoint_48 rfl hl (by decide) rfl (fun ls hl => ?_)
        refine lv_iconst (v := 0) hx hb d_Log_isRoomForSavepoint_49 (by decide) ?_
        refine lv_istore_n (lv' := [(3, .int 0), (2, .int 2), (0, .ref (ad 0)), (1, .int p1)]) hx hb d_Log_isRoomForSavepoint_50 rfl hl (by decide) rfl (fun ls hl => ?_)
        exact k_m_Log_isRoomForSavepoint_L51 X hA FU (s_trial g q5) p1 2 0 _ hm _ _ hP hD hS ls (lv_sub hl [2, 3, 1, 0] rfl)
      · replace hm := ineg c4 hm
        refine lv_iconst (v := 0) hx hb d_Log_isRoomForSavepoint_34 (by decide) ?_
        cases hm
        exact ret_mz X nz0 hP hS d_Log_isRoomForSavepoint_35
    · replace hm := ineg c3 hm
      refine lv_iconst (v := 0) hx hb d_Log_isRoomForSavepoint_21 (by decide) ?_
      cases hm
      exact ret_mz X nz0 hP hS d_Log_isRoomForSavepoint_22
set_option maxHeartbeats 4000000 in
set_option maxRecDepth 100000 in
theorem k_m_Log_writeSavepoint_L4 {p : Program} {l : Launch} {e : Env} {s : State} {m : MethodId} {args : Array Value} {below : List Frame} {meth : Method} {c : Code} {D : va_G} {ca : Nat → ClassId} {ad : Nat → Nat} {A : Nat → Prop} (X : Cx p s m args meth c R_Log b_Log_writeSavepoint 6 (some .int) D ca) (hA : ∀ q, s.heap.size ≤ q → A q)  : ∀ (n : Nat) (g : St_Log) (v1 : Int32) (v2 : Int32) (v3 : Int32) (res : Int32 × St_Log), m_Log_writeSavepoint_L4  n g v1 v2 v3 = some res → ∀ (H : Heap) (locs : List Loc), va_P D classes (wl_Log ca ad g) H → va_D A (wl_Log ca ad g) → va_S A s.heap H locs → ∀ ls : Array Slot, lv_has ls 6 [(0, .ref (ad 0)), (1, .int v1), (2, .int v2), (3, .int v3)] → W p l e (RM 6 136) s m args below meth c H locs 0 0 (MQ below (QRm D (some (.int res.1)) (wl_Log ca ad res.2) A) args s 0 0 A) (F0 m 4 ls []) := by
  obtain ⟨hx, hb, hml, hr, hown, hts, hK, hlocks⟩ := id X
  intro n
  induction n with
  | zero =>
    intro g v1 v2 v3 res hm
    rw [m_Log_writeSavepoint_L4] at hm
    cases hm
  | succ n ih =>
    intro g v1 v2 v3 res hm H locs hP hD hS ls hl
    rw [m_Log_writeSavepoint_L4] at hm
    refine lv_iload_n hx hb d_Log_writeSavepoint_4 rfl (lv_at hl 3 rfl) ?_
    refine lv_iload_n hx hb d_Log_writeSavepoint_5 rfl (lv_at hl 1 rfl) ?_
    refine lv_icmp_ge (tgt := 82) hx hb d_Log_writeSavepoint_6 (by decide) (fun c1 => ?_) (fun c1 => ?_)
    · replace hm := ip c1 hm
      refine lv_aload_n hx hb d_Log_writeSavepoint_82 rfl (lv_at hl 0 rfl) ?_
      refine va_get (D := D) (ci := 5) (v := .int (g_isOpen g)) (C := R_Log) (T := F_Log) (N := 15) hx hb hts i_Log hown hK hP 0 rfl rfl 14 (by decide) (hts _ wf_Log_69) (fun _ h9 => h9) rfl d_Log_writeSavepoint_83 ?_
      refine lv_if_eq (tgt := 97) hx hb d_Log_writeSavepoint_86 (by decide) (fun c2 => ?_) (fun c2 => ?_)
      · replace hm := ip c2 hm
        refine lv_bipush (v := (-5)) hx hb d_Log_writeSavepoint_97 (by decide) ?_
        cases hm
        exact ret_mi X hP hS d_Log_writeSavepoint_99
      · replace hm := ineg c2 hm
        refine lv_aload_n hx hb d_Log_writeSavepoint_89 rfl (lv_at hl 0 rfl) ?_
        refine lv_iload_n hx hb d_Log_writeSavepoint_90 rfl (lv_at hl 1 rfl) ?_
        obtain ⟨q3, hq3, hm⟩ := ob hm
        refine inv_mVa (C := R_Log) (As := [.int v1]) (rest := []) (v := .int q3.1) X (c_Log_makeMark l D ca ad _ g v1 q3 hq3) g_Log_94 yo_Log_makeMark ⟨Nat.le_of_ble_eq_true rfl, Nat.le_of_ble_eq_true rfl⟩ hl hP hD rfl (ci := 5) rfl rfl hS hA rfl rfl (Nat.le_of_ble_eq_true rfl) ⟨Nat.zero_le _, Nat.zero_le _⟩ d_Log_writeSavepoint_91 (fun H locs hP hD hS => ?_)
        refine lv_goto (tgt := 99) hx hb d_Log_writeSavepoint_94 (by decide) ?_
        cases hm
        exact ret_mi X hP hS d_Log_writeSavepoint_99
    · replace hm := ineg c1 hm
      refine lv_aload_n hx hb d_Log_writeSavepoint_9 rfl (lv_at hl 0 rfl) ?_
      refine va_get (D := D) (ci := 5) (v := .int (g_isOpen g)) (C := R_Log) (T := F_Log) (N := 15) hx hb hts i_Log hown hK hP 0 rfl rfl 14 (by decide) (hts _ wf_Log_69) (fun _ h9 => h9) rfl d_Log_writeSavepoint_10 ?_
      refine lv_if_eq (tgt := 82) hx hb d_Log_writeSavepoint_13 (by decide) (fun c4 => ?_) (fun c4 => ?_)
      · replace hm := ip c4 hm
        refine lv_aload_n hx hb d_Log_writeSavepoint_82 rfl (lv_at hl 0 rfl) ?_
        refine va_get (D := D) (ci := 5) (v := .int (g_isOpen g)) (C := R_Log) (T := F_Log) (N := 15) hx hb hts i_Log hown hK hP 0 rfl rfl 14 (by decide) (hts _ wf_Log_69) (fun _ h9 => h9) rfl d_Log_writeSavepoint_83 ?_
        refine lv_if_eq (tgt := 97) hx hb d_Log_writeSavepoint_86 (by decide) (fun c5 => ?_) (fun c5 => ?_)
        · replace hm := ip c5 hm
          refine lv_bipush (v := (-5)) hx hb d_Log_writeSavepoint_97 (by decide) ?_
          cases hm
          exact ret_mi X hP hS d_Log_writeSavepoint_99
        · replace hm := ineg c5 hm
          refine lv_aload_n hx hb d_Log_writeSavepoint_89 rfl (lv_at hl 0 rfl) ?_
          refine lv_iload_n hx hb d_Log_writeSavepoint_90 rfl (lv_at hl 1 rfl) ?_
          obtain ⟨q6, hq6, hm⟩ := ob hm
          refine inv_mVa (C := R_Log) (As := [.int v1]) (rest := []) (v := .int q6.1) X (c_Log_makeMark l D ca ad _ g v1 q6 hq6) g_Log_94 yo_Log_makeMark ⟨Nat.le_of_ble_eq_true rfl, Nat.le_of_ble_eq_true rfl⟩ hl hP hD rfl (ci := 5) rfl rfl hS hA rfl rfl (Nat.le_of_ble_eq_true rfl) ⟨Nat.zero_le _, Nat.zero_le _⟩ d_Log_writeSavepoint_91 (fun H locs hP hD hS => ?_)
          refine lv_goto (tgt := 99) hx hb d_Log_writeSavepoint_94 (by decide) ?_
          cases hm
          exact ret_mi X hP hS d_Log_writeSavepoint_99
      · replace hm := ineg c4 hm
        refine lv_aload_n hx hb d_Log_writeSavepoint_16 rfl (lv_at hl 0 rfl) ?_
        refine lv_iload_n hx hb d_Log_writeSavepoint_17 rfl (lv_at hl 2 rfl) ?_
        obtain ⟨q7, hq7, hm⟩ := ob hm
        refine inv_rVa (C := R_Log) (As := [.int v2]) (rest := []) (v := .int q7) X (c_Log_lengthOnTape l D ca ad _ g v2 q7 hq7) g_Log_396 yo_Log_lengthOnTape ⟨Nat.le_of_ble_eq_true rfl, Nat.le_of_ble_eq_true rfl⟩ hl hP hD (ci := 5) rfl rfl hS hA rfl rfl (Nat.le_of_ble_eq_true rfl) ⟨Nat.zero_le _, Nat.zero_le _⟩ d_Log_writeSavepoint_18 (fun H locs hP hS => ?_)
        refine lv_istore (lv' := [(4, .int q7), (0, .ref (ad 0)), (1, .int v1), (2, .int v2), (3, .int v3)]) hx hb d_Log_writeSavepoint_21 hl (by decide) rfl (fun ls hl => ?_)
        refine lv_aload_n hx hb d_Log_writeSavepoint_23 rfl (lv_at hl 1 rfl) ?_
        refine va_get (D := D) (ci := 5) (v := .ref (ad 11)) (C := R_Log) (T := F_Log) (N := 15) hx hb hts i_Log hown hK hP 0 rfl rfl 5 (by decide) (hts _ wf_Log_41) (fun _ h9 => h9) rfl d_Log_writeSavepoint_24 ?_
        refine lv_iload hx hb d_Log_writeSavepoint_27 (lv_at hl 0 rfl) ?_
        obtain ⟨q8, hq8, hm⟩ := ob hm
        refine inv_rS (As := [.int q7]) (rest := [.ref (ad 11)]) (v := .int q8) X (c_Log_rowsOfPart l D ca  _ q7 q8 hq8) g_Log_270 yo_Log_rowsOfPart ⟨Nat.le_of_ble_eq_true rfl, Nat.le_of_ble_eq_true rfl⟩ hl hP hD [] rfl rfl hS hA rfl rfl (Nat.le_of_ble_eq_true rfl) ⟨Nat.zero_le _, Nat.zero_le _⟩ d_Log_writeSavepoint_29 (fun H locs hP hS => ?_)
        obtain ⟨q9, hq9, hm⟩ := ob hm
        refine inv_rV (C := R_Room) (As := [.int q8]) (rest := []) (v := .int q9) X (c_Room_firstRun l D ca (ad 11) (ad 12) _ (g_room g) q8 q9 hq9) g_Log_107 yo_Room_firstRun ⟨Nat.le_of_ble_eq_true rfl, Nat.le_of_ble_eq_true rfl⟩ hl hP hD [11, 12] rfl rfl (ci := 2) rfl rfl hS hA rfl rfl (Nat.le_of_ble_eq_true rfl) ⟨Nat.zero_le _, Nat.zero_le _⟩ d_Log_writeSavepoint_32 (fun H locs hP hS => ?_)
        refine lv_istore (lv' := [(5, .int q9), (4, .int q7), (0, .ref (ad 0)), (1, .int v1), (2, .int v2), (3, .int v3)]) hx hb d_Log_writeSavepoint_35 hl (by decide) rfl (fun ls hl => ?_)
        refine lv_aload_n hx hb d_Log_writeSavepoint_37 rfl (lv_at hl 2 rfl) ?_
        refine lv_iload hx hb d_Log_writeSavepoint_38 (lv_at hl 0 rfl) ?_
        refine lv_aload_n hx hb d_Log_writeSavepoint_40 rfl (lv_at hl 2 rfl) ?_
        refine va_get (D := D) (ci := 5) (v := .ref (ad 3)) (C := R_Log) (T := F_Log) (N := 15) hx hb hts i_Log hown hK hP 0 rfl rfl 1 (by decide) (hts _ wf_Log_21) (fun _ h9 => h9) rfl d_Log_writeSavepoint_41 ?_
        refine lv_iload_n hx hb d_Log_writeSavepoint_44 rfl (lv_at hl 4 rfl) ?_
        obtain ⟨q10, hq10, hm⟩ := ob hm
        refine inv_rV (C := R_Bytes) (As := [.int v2]) (rest := [.int q9, .ref (ad 0)]) (v := .int q10) X (c_Bytes_at l D ca (ad 3) (ad 4) _ (g_tape g) v2 q10 hq10) g_Log_239 yo_Bytes_at ⟨Nat.le_of_ble_eq_true rfl, Nat.le_of_ble_eq_true rfl⟩ hl hP hD [3, 4] rfl rfl (ci := 1) rfl rfl hS hA rfl rfl (Nat.le_of_ble_eq_true rfl) ⟨Nat.zero_le _, Nat.zero_le _⟩ d_Log_writeSavepoint_45 (fun H locs hP hS => ?_)
        refine lv_aload_n hx hb d_Log_writeSavepoint_48 rfl (lv_at hl 2 rfl) ?_
        refine va_get (D := D) (ci := 5) (v := .ref (ad 3)) (C := R_Log) (T := F_Log) (N := 15) hx hb hts i_Log hown hK hP 0 rfl rfl 1 (by decide) (hts _ wf_Log_21) (fun _ h9 => h9) rfl d_Log_writeSavepoint_49 ?_
        refine lv_iload_n hx hb d_Log_writeSavepoint_52 rfl (lv_at hl 4 rfl) ?_
        refine lv_iconst (v := 1) hx hb d_Log_writeSavepoint_53 (by decide) ?_
        refine lv_iadd hx hb d_Log_writeSavepoint_54 ?_
        refine lv_bipush (v := 8) hx hb d_Log_writeSavepoint_55 (by decide) ?_
        obtain ⟨q11, hq11, hm⟩ := ob hm
        refine inv_rV (C := R_Bytes) (As := [.int (v2 + 1), .int 8]) (rest := [.int q10, .int q9, .ref (ad 0)]) (v := .long q11) X (c_Bytes_number l D ca (ad 3) (ad 4) _ (g_tape g) (v2 + 1) 8 q11 hq11) g_Log_394 yo_Bytes_number ⟨Nat.le_of_ble_eq_true rfl, Nat.le_of_ble_eq_true rfl⟩ hl hP hD [3, 4] rfl rfl (ci := 1) rfl rfl hS hA rfl rfl (Nat.le_of_ble_eq_true rfl) ⟨Nat.zero_le _, Nat.zero_le _⟩ d_Log_writeSavepoint_57 (fun H locs hP hS => ?_)
        refine lv_iload_n hx hb d_Log_writeSavepoint_60 rfl (lv_at hl 4 rfl) ?_
        refine lv_bipush (v := 11) hx hb d_Log_writeSavepoint_61 (by decide) ?_
        refine lv_iadd hx hb d_Log_writeSavepoint_63 ?_
        refine lv_iload hx hb d_Log_writeSavepoint_64 (lv_at hl 1 rfl) ?_
        obtain ⟨q12, hq12, hm⟩ := ob hm
        refine inv_mVa (C := R_Log) (As := [.int q9, .int q10, .long q11, .int (v2 + 11), .int q7]) (rest := []) (v := .int q12.1) X (c_Log_writePart l D ca ad _ g q9 q10 q11 (v2 + 11) q7 q12 hq12) g_Log_273 yo_Log_writePart ⟨Nat.le_of_ble_eq_true rfl, Nat.le_of_ble_eq_true rfl⟩ hl hP hD rfl (ci := 5) rfl rfl hS hA rfl rfl (Nat.le_of_ble_eq_true rfl) ⟨Nat.zero_le _, Nat.zero_le _⟩ d_Log_writeSavepoint_66 (fun H locs hP hD hS => ?_)
        refine lv_pop hx hb d_Log_writeSavepoint_69 rfl ?_
        refine lv_aload_n hx hb d_Log_writeSavepoint_70 rfl (lv_at hl 2 rfl) ?_
        refine lv_iload_n hx hb d_Log_writeSavepoint_71 rfl (lv_at hl 4 rfl) ?_
        obtain ⟨q13, hq13, hm⟩ := ob hm
        refine inv_rVa (C := R_Log) (As := [.int v2]) (rest := []) (v := .int q13) X (c_Log_behindPart l D ca ad _ q12.2 v2 q13 hq13) g_Log_391 yo_Log_behindPart ⟨Nat.le_of_ble_eq_true rfl, Nat.le_of_ble_eq_true rfl⟩ hl hP hD (ci := 5) rfl rfl hS hA rfl rfl (Nat.le_of_ble_eq_true rfl) ⟨Nat.zero_le _, Nat.zero_le _⟩ d_Log_writeSavepoint_72 (fun H locs hP hS => ?_)
        refine lv_istore_n (lv' := [(2, .int q13), (5, .int q9), (4, .int q7), (0, .ref (ad 0)), (1, .int v1), (3, .int v3)]) hx hb d_Log_writeSavepoint_75 rfl hl (by decide) rfl (fun ls hl => ?_)
        refine lv_iinc (v := (v3 + 1)) (lv' := [(3, .int (v3 + 1)), (2, .int q13), (5, .int q9), (4, .int q7), (0, .ref (ad 0)), (1, .int v1)]) hx hb d_Log_writeSavepoint_76 hl (k := 5) rfl rfl (by decide) rfl (fun ls hl => ?_)
        refine lv_goto (tgt := 4) hx hb d_Log_writeSavepoint_79 (by decide) ?_
        exact ih q12.2 v1 q13 (v3 + 1) _ hm _ _ hP hD hS ls (lv_sub hl [4, 5, 1, 0] rfl)
set_option maxHeartbeats 4000000 in
set_option maxRecDepth 100000 in
theorem c_Log_writeSavepoint (l : Launch) (D : va_G) (ca : Nat → ClassId) (ad : Nat → Nat) (sz : Nat) (g : St_Log) (p1 : Int32) (res : Int32 × St_Log) (hm : m_Log_writeSavepoint g p1 = some res) : Met l y_Log_writeSavepoint (cws y_Log_writeSavepoint b_Log_writeSavepoint 6 (some .int)) (RM 6 136) (PreW D ca (wl_Log ca ad g) [.ref (ad 0), .int p1] sz) (QRm D (some (.int res.1)) (wl_Log ca ad res.2) (va_A (wl_Log ca ad g) sz)) 0 0 (va_A (wl_Log ca ad g) sz) := by
  refine met_ofM (own := R_Log) (by decide) rfl (Nat.le_of_ble_eq_true rfl) ?_
  intro p e s m below meth c A X hA hP hD ls hl
  obtain ⟨hx, hb, hml, hr, hown, hts, hK, hlocks⟩ := id X
  have hS : va_S A s.heap s.heap [] := va_S.rf
  have hl : lv_has ls 6 [(0, .ref (ad 0)), (1, .int p1)] := hl
  unfold m_Log_writeSavepoint at hm
  refine lv_iconst (v := 2) hx hb d_Log_writeSavepoint_0 (by decide) ?_
  refine lv_istore_n (lv' := [(2, .int 2), (0, .ref (ad 0)), (1, .int p1)]) hx hb d_Log_writeSavepoint_1 rfl hl (by decide) rfl (fun ls hl => ?_)
  refine lv_iconst (v := 0) hx hb d_Log_writeSavepoint_2 (by decide) ?_
  refine lv_istore_n (lv' := [(3, .int 0), (2, .int 2), (0, .ref (ad 0)), (1, .int p1)]) hx hb d_Log_writeSavepoint_3 rfl hl (by decide) rfl (fun ls hl => ?_)
  exact k_m_Log_writeSavepoint_L4 X hA FU g p1 2 0 _ hm _ _ hP hD hS ls (lv_sub hl [2, 3, 1, 0] rfl)
