set_option maxHeartbeats 4000000 in
set_option maxRecDepth 100000 in
theorem k_m_RRef_equal_L197 {p : Program} {l : Launch} {e : Env} {s : State} {m : MethodId} {args : Array Value} {below : List Frame} {meth : Method} {c : Code} {D : va_G} {ca : Nat → ClassId} {ad : Nat → Nat} {A : Nat → Prop} (X : Cx p s m args meth c R_RRef b_RRef_equal 10 (some .int) D ca) (hA : ∀ q, s.heap.size ≤ q → A q) {g : St_Ref} {k : Int32 → Int32 → Int32 → Int32 → Option (Int32)} (hk : ∀ (w3 : Int32) (w4 : Int32) (w5 : Int32) (w6 : Int32) (res : Int32), k w3 w4 w5 w6 = some res → ∀ (H : Heap) (locs : List Loc), va_P D classes (wl_Ref ca ad g) H → va_D (fun _ => True) (wl_Ref ca ad g) → va_S A s.heap H locs → ∀ ls : Array Slot, lv_has ls 10 [(0, .ref (ad 0)), (3, .int w3), (4, .int w4), (5, .int w5), (6, .int w6)] → W p l e (RM 4 95) s m args below meth c H locs 0 0 (MQ below (QRr (.int res) A) args s 0 0 A) (F0 m 246 ls [])) : ∀ (n : Nat) (v3 : Int32) (v4 : Int32) (v5 : Int32) (v6 : Int32) (v7 : Int32) (v8 : Int32) (v9 : Int32) (res : Int32), m_RRef_equal_L197 g k n v3 v4 v5 v6 v7 v8 v9 = some res → ∀ (H : Heap) (locs : List Loc), va_P D classes (wl_Ref ca ad g) H → va_D (fun _ => True) (wl_Ref ca ad g) → va_S A s.heap H locs → ∀ ls : Array Slot, lv_has ls 10 [(0, .ref (ad 0)), (3, .int v3), (4, .int v4), (5, .int v5), (6, .int v6), (7, .int v7), (8, .int v8), (9, .int v9)] → W p l e (RM 4 95) s m args below meth c H locs 0 0 (MQ below (QRr (.int res) A) args s 0 0 A) (F0 m 197 ls []) := by
  obtain ⟨hx, hb, hml, hr, hown, hts, hK, hlocks⟩ := id X
  intro n
  induction n with
  | zero =>
    intro v3 v4 v5 v6 v7 v8 v9 res hm
    rw [m_RRef_equal_L197] at hm
    cases hm
  | succ n ih =>
    intro v3 v4 v5 v6 v7 v8 v9 res hm H locs hP hD hS ls hl
    rw [m_RRef_equal_L197] at hm
    refine lv_iload hx hb d_RRef_equal_197 (lv_at hl 7 rfl) ?_
    refine lv_aload_n hx hb d_RRef_equal_199 rfl (lv_at hl 0 rfl) ?_
    refine va_get (D := D) (ci := 6) (v := .ref (ad 6)) (C := R_RRef) (T := F_RRef) (N := 29) hx hb hts i_RRef hown hK hP 0 rfl rfl 10 (by decide) (hts _ wf_RRef_35) (fun _ h9 => h9) rfl d_RRef_equal_200 ?_
    refine lv_iload hx hb d_RRef_equal_203 (lv_at hl 5 rfl) ?_
    obtain ⟨b25, hm⟩ := on hm
    refine va_iald hx hb hK hP 6 2 rfl rfl b25 d_RRef_equal_205 ?_
    refine lv_icmp_ge (tgt := 246) hx hb d_RRef_equal_206 (by decide) (fun c26 => ?_) (fun c26 => ?_)
    · replace hm := ip c26 hm
      exact hk v3 v4 v5 v6 _ hm _ _ hP hD hS ls (lv_sub hl [0, 1, 2, 3, 4] rfl)
    · replace hm := ineg c26 hm
      refine lv_iload hx hb d_RRef_equal_209 (lv_at hl 3 rfl) ?_
      refine lv_if_eq (tgt := 246) hx hb d_RRef_equal_211 (by decide) (fun c27 => ?_) (fun c27 => ?_)
      · replace hm := ip c27 hm
        exact hk v3 v4 v5 v6 _ hm _ _ hP hD hS ls (lv_sub hl [0, 1, 2, 3, 4] rfl)
      · replace hm := ineg c27 hm
        refine lv_aload_n hx hb d_RRef_equal_214 rfl (lv_at hl 0 rfl) ?_
        refine lv_iload hx hb d_RRef_equal_215 (lv_at hl 5 rfl) ?_
        refine lv_iload hx hb d_RRef_equal_217 (lv_at hl 7 rfl) ?_
        obtain ⟨q28, hq28, hm⟩ := ob hm
        refine inv_rVa (C := R_RRef) (As := [.int v7, .int v9]) (rest := []) (v := .int q28) X (c_RRef_byteOf l D ca ad _ g v7 v9 q28 hq28) g_RRef_233 yo_RRef_byteOf ⟨Nat.le_of_ble_eq_true rfl, Nat.le_of_ble_eq_true rfl⟩ hl hP hD (ci := 6) rfl rfl hS hA rfl rfl (Nat.le_of_ble_eq_true rfl) ⟨Nat.zero_le _, Nat.zero_le _⟩ d_RRef_equal_219 (fun H locs hP hS => ?_)
        refine lv_aload_n hx hb d_RRef_equal_222 rfl (lv_at hl 0 rfl) ?_
        refine lv_iload hx hb d_RRef_equal_223 (lv_at hl 6 rfl) ?_
        refine lv_iload hx hb d_RRef_equal_225 (lv_at hl 7 rfl) ?_
        obtain ⟨q29, hq29, hm⟩ := ob hm
        refine inv_rVa (C := R_RRef) (As := [.int v8, .int v9]) (rest := [.int q28]) (v := .int q29) X (c_RRef_byteOf l D ca ad _ g v8 v9 q29 hq29) g_RRef_233 yo_RRef_byteOf ⟨Nat.le_of_ble_eq_true rfl, Nat.le_of_ble_eq_true rfl⟩ hl hP hD (ci := 6) rfl rfl hS hA rfl rfl (Nat.le_of_ble_eq_true rfl) ⟨Nat.zero_le _, Nat.zero_le _⟩ d_RRef_equal_227 (fun H locs hP hS => ?_)
        refine lv_icmp_ne (tgt := 237) hx hb d_RRef_equal_230 (by decide) (fun c30 => ?_) (fun c30 => ?_)
        · replace hm := ineg c30 hm
          refine lv_iconst (v := 0) hx hb d_RRef_equal_237 (by decide) ?_
          refine lv_istore (lv' := [(5, .int 0), (0, .ref (ad 0)), (3, .int v3), (4, .int v4), (6, .int v6), (7, .int v7), (8, .int v8), (9, .int v9)]) hx hb d_RRef_equal_238 hl (by decide) rfl (fun ls hl => ?_)
          refine lv_iinc (v := (v9 + 1)) (lv' := [(9, .int (v9 + 1)), (5, .int 0), (0, .ref (ad 0)), (3, .int v3), (4, .int v4), (6, .int v6), (7, .int v7), (8, .int v8)]) hx hb d_RRef_equal_240 hl (k := 7) rfl rfl (by decide) rfl (fun ls hl => ?_)
          refine lv_goto (tgt := 197) hx hb d_RRef_equal_243 (by decide) ?_
          exact ih  v3 v4 0 v6 v7 v8 (v9 + 1) _ hm _ _ hP hD hS ls (lv_sub hl [2, 3, 4, 1, 5, 6, 7, 0] rfl)
        · replace hm := ip c30 hm
          refine lv_iconst (v := 1) hx hb d_RRef_equal_233 (by decide) ?_
          refine lv_goto (tgt := 238) hx hb d_RRef_equal_234 (by decide) ?_
          refine lv_istore (lv' := [(5, .int 1), (0, .ref (ad 0)), (3, .int v3), (4, .int v4), (6, .int v6), (7, .int v7), (8, .int v8), (9, .int v9)]) hx hb d_RRef_equal_238 hl (by decide) rfl (fun ls hl => ?_)
          refine lv_iinc (v := (v9 + 1)) (lv' := [(9, .int (v9 + 1)), (5, .int 1), (0, .ref (ad 0)), (3, .int v3), (4, .int v4), (6, .int v6), (7, .int v7), (8, .int v8)]) hx hb d_RRef_equal_240 hl (k := 7) rfl rfl (by decide) rfl (fun ls hl => ?_)
          refine lv_goto (tgt := 197) hx hb d_RRef_equal_243 (by decide) ?_
          exact ih  v3 v4 1 v6 v7 v8 (v9 + 1) _ hm _ _ hP hD hS ls (lv_sub hl [2, 3, 4, 1, 5, 6, 7, 0] rfl)
set_option maxHeartbeats 4000000 in
set_option maxRecDepth 100000 in
theorem k_m_RRef_equal_L82 {p : Program} {l : Launch} {e : Env} {s : State} {m : MethodId} {args : Array Value} {below : List Frame} {meth : Method} {c : Code} {D : va_G} {ca : Nat → ClassId} {ad : Nat → Nat} {A : Nat → Prop} (X : Cx p s m args meth c R_RRef b_RRef_equal 10 (some .int) D ca) (hA : ∀ q, s.heap.size ≤ q → A q) {g : St_Ref} : ∀ (n : Nat) (v3 : Int32) (v4 : Int32) (v5 : Int32) (v6 : Int32) (res : Int32), m_RRef_equal_L82 g n v3 v4 v5 v6 = some res → ∀ (H : Heap) (locs : List Loc), va_P D classes (wl_Ref ca ad g) H → va_D (fun _ => True) (wl_Ref ca ad g) → va_S A s.heap H locs → ∀ ls : Array Slot, lv_has ls 10 [(0, .ref (ad 0)), (3, .int v3), (4, .int v4), (5, .int v5), (6, .int v6)] → W p l e (RM 4 95) s m args below meth c H locs 0 0 (MQ below (QRr (.int res) A) args s 0 0 A) (F0 m 82 ls []) := by
  obtain ⟨hx, hb, hml, hr, hown, hts, hK, hlocks⟩ := id X
  intro n
  induction n with
  | zero =>
    intro v3 v4 v5 v6 res hm
    rw [m_RRef_equal_L82] at hm
    cases hm
  | succ n ih =>
    intro v3 v4 v5 v6 res hm H locs hP hD hS ls hl
    rw [m_RRef_equal_L82] at hm
    refine lv_iload hx hb d_RRef_equal_82 (lv_at hl 4 rfl) ?_
    refine lv_aload_n hx hb d_RRef_equal_84 rfl (lv_at hl 0 rfl) ?_
    refine va_get (D := D) (ci := 6) (v := .ref (ad 10)) (C := R_RRef) (T := F_RRef) (N := 29) hx hb hts i_RRef hown hK hP 0 rfl rfl 15 (by decide) (hts _ wf_RRef_47) (fun _ h9 => h9) rfl d_RRef_equal_85 ?_
    refine lv_iload_n hx hb d_RRef_equal_88 rfl (lv_at hl 1 rfl) ?_
    obtain ⟨b13, hm⟩ := on hm
    refine va_iald hx hb hK hP 10 2 rfl rfl b13 d_RRef_equal_89 ?_
    refine lv_icmp_ge (tgt := 252) hx hb d_RRef_equal_90 (by decide) (fun c14 => ?_) (fun c14 => ?_)
    · replace hm := ip c14 hm
      refine lv_iload hx hb d_RRef_equal_252 (lv_at hl 3 rfl) ?_
      refine lv_if_eq (tgt := 261) hx hb d_RRef_equal_254 (by decide) (fun c15 => ?_) (fun c15 => ?_)
      · replace hm := ip c15 hm
        refine lv_iconst (v := 0) hx hb d_RRef_equal_261 (by decide) ?_
        cases hm
        exact ret_ri X hS d_RRef_equal_262
      · replace hm := ineg c15 hm
        refine lv_iconst (v := 1) hx hb d_RRef_equal_257 (by decide) ?_
        refine lv_goto (tgt := 262) hx hb d_RRef_equal_258 (by decide) ?_
        cases hm
        exact ret_ri X hS d_RRef_equal_262
    · replace hm := ineg c14 hm
      refine lv_iload hx hb d_RRef_equal_93 (lv_at hl 3 rfl) ?_
      refine lv_if_eq (tgt := 252) hx hb d_RRef_equal_95 (by decide) (fun c16 => ?_) (fun c16 => ?_)
      · replace hm := ip c16 hm
        refine lv_iload hx hb d_RRef_equal_252 (lv_at hl 3 rfl) ?_
        refine lv_if_eq (tgt := 261) hx hb d_RRef_equal_254 (by decide) (fun c17 => ?_) (fun c17 => ?_)
        · replace hm := ip c17 hm
          refine lv_iconst (v := 0) hx hb d_RRef_equal_261 (by decide) ?_
          cases hm
          exact ret_ri X hS d_RRef_equal_262
        · replace hm := ineg c17 hm
          refine lv_iconst (v := 1) hx hb d_RRef_equal_257 (by decide) ?_
          refine lv_goto (tgt := 262) hx hb d_RRef_equal_258 (by decide) ?_
          cases hm
          exact ret_ri X hS d_RRef_equal_262
      · replace hm := ineg c16 hm
        refine lv_aload_n hx hb d_RRef_equal_98 rfl (lv_at hl 0 rfl) ?_
        refine lv_aload_n hx hb d_RRef_equal_99 rfl (lv_at hl 0 rfl) ?_
        refine va_get (D := D) (ci := 6) (v := .ref (ad 12)) (C := R_RRef) (T := F_RRef) (N := 29) hx hb hts i_RRef hown hK hP 0 rfl rfl 17 (by decide) (hts _ wf_RRef_53) (fun _ h9 => h9) rfl d_RRef_equal_100 ?_
        refine lv_bipush (v := 12) hx hb d_RRef_equal_103 (by decide) ?_
        refine lv_iload_n hx hb d_RRef_equal_105 rfl (lv_at hl 1 rfl) ?_
        refine lv_imul hx hb d_RRef_equal_106 ?_
        refine lv_iload hx hb d_RRef_equal_107 (lv_at hl 4 rfl) ?_
        refine lv_iadd hx hb d_RRef_equal_109 ?_
        obtain ⟨b18, hm⟩ := on hm
        refine va_iald hx hb hK hP 12 2 rfl rfl b18 d_RRef_equal_110 ?_
        obtain ⟨q19, hq19, hm⟩ := ob hm
        refine inv_rVa (C := R_RRef) (As := [.int ((g_RmPart g).2 (((12 * v3) + v6)).toNatClampNeg)]) (rest := []) (v := .int q19) X (c_RRef_findPart l D ca ad _ g ((g_RmPart g).2 (((12 * v3) + v6)).toNatClampNeg) q19 hq19) g_RRef_129 yo_RRef_findPart ⟨Nat.le_of_ble_eq_true rfl, Nat.le_of_ble_eq_true rfl⟩ hl hP hD (ci := 6) rfl rfl hS hA rfl rfl (Nat.le_of_ble_eq_true rfl) ⟨Nat.zero_le _, Nat.zero_le _⟩ d_RRef_equal_111 (fun H locs hP hS => ?_)
        refine lv_istore (lv' := [(7, .int q19), (0, .ref (ad 0)), (3, .int v3), (4, .int v4), (5, .int v5), (6, .int v6)]) hx hb d_RRef_equal_114 hl (by decide) rfl (fun ls hl => ?_)
        refine lv_aload_n hx hb d_RRef_equal_116 rfl (lv_at hl 1 rfl) ?_
        refine lv_aload_n hx hb d_RRef_equal_117 rfl (lv_at hl 1 rfl) ?_
        refine va_get (D := D) (ci := 6) (v := .ref (ad 12)) (C := R_RRef) (T := F_RRef) (N := 29) hx hb hts i_RRef hown hK hP 0 rfl rfl 17 (by decide) (hts _ wf_RRef_53) (fun _ h9 => h9) rfl d_RRef_equal_118 ?_
        refine lv_bipush (v := 12) hx hb d_RRef_equal_121 (by decide) ?_
        refine lv_iload hx hb d_RRef_equal_123 (lv_at hl 3 rfl) ?_
        refine lv_imul hx hb d_RRef_equal_125 ?_
        refine lv_iload hx hb d_RRef_equal_126 (lv_at hl 5 rfl) ?_
        refine lv_iadd hx hb d_RRef_equal_128 ?_
        obtain ⟨b20, hm⟩ := on hm
        refine va_iald hx hb hK hP 12 2 rfl rfl b20 d_RRef_equal_129 ?_
        obtain ⟨q21, hq21, hm⟩ := ob hm
        refine inv_rVa (C := R_RRef) (As := [.int ((g_RmPart g).2 (((12 * v4) + v6)).toNatClampNeg)]) (rest := []) (v := .int q21) X (c_RRef_findPart l D ca ad _ g ((g_RmPart g).2 (((12 * v4) + v6)).toNatClampNeg) q21 hq21) g_RRef_129 yo_RRef_findPart ⟨Nat.le_of_ble_eq_true rfl, Nat.le_of_ble_eq_true rfl⟩ hl hP hD (ci := 6) rfl rfl hS hA rfl rfl (Nat.le_of_ble_eq_true rfl) ⟨Nat.zero_le _, Nat.zero_le _⟩ d_RRef_equal_130 (fun H locs hP hS => ?_)
        refine lv_istore (lv' := [(8, .int q21), (7, .int q19), (0, .ref (ad 0)), (3, .int v3), (4, .int v4), (5, .int v5), (6, .int v6)]) hx hb d_RRef_equal_133 hl (by decide) rfl (fun ls hl => ?_)
        refine lv_aload_n hx hb d_RRef_equal_135 rfl (lv_at hl 2 rfl) ?_
        refine va_get (D := D) (ci := 6) (v := .ref (ad 4)) (C := R_RRef) (T := F_RRef) (N := 29) hx hb hts i_RRef hown hK hP 0 rfl rfl 8 (by decide) (hts _ wf_RRef_28) (fun _ h9 => h9) rfl d_RRef_equal_136 ?_
        refine lv_iload hx hb d_RRef_equal_139 (lv_at hl 1 rfl) ?_
        obtain ⟨b22, hm⟩ := on hm
        refine va_iald hx hb hK hP 4 2 rfl rfl b22 d_RRef_equal_141 ?_
        refine lv_aload_n hx hb d_RRef_equal_142 rfl (lv_at hl 2 rfl) ?_
        refine va_get (D := D) (ci := 6) (v := .ref (ad 4)) (C := R_RRef) (T := F_RRef) (N := 29) hx hb hts i_RRef hown hK hP 0 rfl rfl 8 (by decide) (hts _ wf_RRef_28) (fun _ h9 => h9) rfl d_RRef_equal_143 ?_
        refine lv_iload hx hb d_RRef_equal_146 (lv_at hl 0 rfl) ?_
        obtain ⟨b23, hm⟩ := on hm
        refine va_iald hx hb hK hP 4 2 rfl rfl b23 d_RRef_equal_148 ?_
        refine lv_icmp_ne (tgt := 191) hx hb d_RRef_equal_149 (by decide) (fun c24 => ?_) (fun c24 => ?_)
        · replace hm := ineg c24 hm
          refine lv_iconst (v := 0) hx hb d_RRef_equal_191 (by decide) ?_
          refine lv_istore (lv' := [(5, .int 0), (8, .int q21), (7, .int q19), (0, .ref (ad 0)), (3, .int v3), (4, .int v4), (6, .int v6)]) hx hb d_RRef_equal_192 hl (by decide) rfl (fun ls hl => ?_)
          refine lv_iconst (v := 0) hx hb d_RRef_equal_194 (by decide) ?_
          refine lv_istore (lv' := [(9, .int 0), (5, .int 0), (8, .int q21), (7, .int q19), (0, .ref (ad 0)), (3, .int v3), (4, .int v4), (6, .int v6)]) hx hb d_RRef_equal_195 hl (by decide) rfl (fun ls hl => ?_)
          refine k_m_RRef_equal_L197 X hA (k := (fun (v3_31 : Int32) (v4_32 : Int32) (v5_33 : Int32) (v6_34 : Int32) => m_RRef_equal_L82 g n v3_31 v4_32 v5_33 (v6_34 + 1))) (fun v3_31 v4_32 v5_33 v6_34 res hm H locs hP hD hS ls hl => ?_) FU  v3 v4 0 v6 q19 q21 0 _ hm _ _ hP hD hS ls (lv_sub hl [4, 5, 6, 1, 7, 3, 2, 0] rfl)
          · have hm := hm
            refine lv_iinc (v := (v6_34 + 1)) (lv' := [(6, .int (v6_34 + 1)), (0, .ref (ad 0)), (3, .int v3_31), (4, .int v4_32), (5, .int v5_33)]) hx hb d_RRef_equal_246 hl (k := 4) rfl rfl (by decide) rfl (fun ls hl => ?_)
            refine lv_goto (tgt := 82) hx hb d_RRef_equal_249 (by decide) ?_
            exact ih  v3_31 v4_32 v5_33 (v6_34 + 1) _ hm _ _ hP hD hS ls (lv_sub hl [1, 2, 3, 4, 0] rfl)
        · replace hm := ip c24 hm
          refine lv_aload_n hx hb d_RRef_equal_152 rfl (lv_at hl 2 rfl) ?_
          refine va_get (D := D) (ci := 6) (v := .ref (ad 5)) (C := R_RRef) (T := F_RRef) (N := 29) hx hb hts i_RRef hown hK hP 0 rfl rfl 9 (by decide) (hts _ wf_RRef_31) (fun _ h9 => h9) rfl d_RRef_equal_153 ?_
          refine lv_iload hx hb d_RRef_equal_156 (lv_at hl 1 rfl) ?_
          obtain ⟨b35, hm⟩ := on hm
          refine va_lald hx hb hK hP 5 3 rfl rfl b35 d_RRef_equal_158 ?_
          refine lv_aload_n hx hb d_RRef_equal_159 rfl (lv_at hl 2 rfl) ?_
          refine va_get (D := D) (ci := 6) (v := .ref (ad 5)) (C := R_RRef) (T := F_RRef) (N := 29) hx hb hts i_RRef hown hK hP 0 rfl rfl 9 (by decide) (hts _ wf_RRef_31) (fun _ h9 => h9) rfl d_RRef_equal_160 ?_
          refine lv_iload hx hb d_RRef_equal_163 (lv_at hl 0 rfl) ?_
          obtain ⟨b36, hm⟩ := on hm
          refine va_lald hx hb hK hP 5 3 rfl rfl b36 d_RRef_equal_165 ?_
          refine W.lcmp hx hb d_RRef_equal_166 ?_
          refine lv_if_ne (tgt := 191) hx hb d_RRef_equal_167 (by decide) (fun c37 => ?_) (fun c37 => ?_)
          · replace hm := ineg c37 hm
            refine lv_iconst (v := 0) hx hb d_RRef_equal_191 (by decide) ?_
            refine lv_istore (lv' := [(5, .int 0), (8, .int q21), (7, .int q19), (0, .ref (ad 0)), (3, .int v3), (4, .int v4), (6, .int v6)]) hx hb d_RRef_equal_192 hl (by decide) rfl (fun ls hl => ?_)
            refine lv_iconst (v := 0) hx hb d_RRef_equal_194 (by decide) ?_
            refine lv_istore (lv' := [(9, .int 0), (5, .int 0), (8, .int q21), (7, .int q19), (0, .ref (ad 0)), (3, .int v3), (4, .int v4), (6, .int v6)]) hx hb d_RRef_equal_195 hl (by decide) rfl (fun ls hl => ?_)
            refine k_m_RRef_equal_L197 X hA (k := (fun (v3_38 : Int32) (v4_39 : Int32) (v5_40 : Int32) (v6_41 : Int32) => m_RRef_equal_L82 g n v3_38 v4_39 v5_40 (v6_41 + 1))) (fun v3_38 v4_39 v5_40 v6_41 res hm H locs hP hD hS ls hl => ?_) FU  v3 v4 0 v6 q19 q21 0 _ hm _ _ hP hD hS ls (lv_sub hl [4, 5, 6, 1, 7, 3, 2, 0] rfl)
            · have hm := hm
              refine lv_iinc (v := (v6_41 + 1)) (lv' := [(6, .int (v6_41 + 1)), (0, .ref (ad 0)), (3, .int v3_38), (4, .int v4_39), (5, .int v5_40)]) hx hb d_RRef_equal_246 hl (k := 4) rfl rfl (by decide) rfl (fun ls hl => ?_)
              refine lv_goto (tgt := 82) hx hb d_RRef_equal_249 (by decide) ?_
              exact ih  v3_38 v4_39 v5_40 (v6_41 + 1) _ hm _ _ hP hD hS ls (lv_sub hl [1, 2, 3, 4, 0] rfl)
          · replace hm := ip c37 hm
            refine lv_aload_n hx hb d_RRef_equal_170 rfl (lv_at hl 2 rfl) ?_
            refine va_get (D := D) (ci := 6) (v := .ref (ad 6)) (C := R_RRef) (T := F_RRef) (N := 29) hx hb hts i_RRef hown hK hP 0 rfl rfl 10 (by decide) (hts _ wf_RRef_35) (fun _ h9 => h9) rfl d_RRef_equal_171 ?_
            refine lv_iload hx hb d_RRef_equal_174 (lv_at hl 1 rfl) ?_
            obtain ⟨b42, hm⟩ := on hm
            refine va_iald hx hb hK hP 6 2 rfl rfl b42 d_RRef_equal_176 ?_
            refine lv_aload_n hx hb d_RRef_equal_177 rfl (lv_at hl 2 rfl) ?_
            refine va_get (D := D) (ci := 6) (v := .ref (ad 6)) (C := R_RRef) (T := F_RRef) (N := 29) hx hb hts i_RRef hown hK hP 0 rfl rfl 10 (by decide) (hts _ wf_RRef_35) (fun _ h9 => h9) rfl d_RRef_equal_178 ?_
            refine lv_iload hx hb d_RRef_equal_181 (lv_at hl 0 rfl) ?_
            obtain ⟨b43, hm⟩ := on hm
            refine va_iald hx hb hK hP 6 2 rfl rfl b43 d_RRef_equal_183 ?_
            refine lv_icmp_ne (tgt := 191) hx hb d_RRef_equal_184 (by decide) (fun c44 => ?_) (fun c44 => ?_)
            · replace hm := ineg c44 hm
              refine lv_iconst (v := 0) hx hb d_RRef_equal_191 (by decide) ?_
              refine lv_istore (lv' := [(5, .int 0), (8, .int q21), (7, .int q19), (0, .ref (ad 0)), (3, .int v3), (4, .int v4), (6, .int v6)]) hx hb d_RRef_equal_192 hl (by decide) rfl (fun ls hl => ?_)
              refine lv_iconst (v := 0) hx hb d_RRef_equal_194 (by decide) ?_
              refine lv_istore (lv' := [(9, .int 0), (5, .int 0), (8, .int q21), (7, .int q19), (0, .ref (ad 0)), (3, .int v3), (4, .int v4), (6, .int v6)]) hx hb d_RRef_equal_195 hl (by decide) rfl (fun ls hl => ?_)
              refine k_m_RRef_equal_L197 X hA (k := (fun (v3_45 : Int32) (v4_46 : Int32) (v5_47 : Int32) (v6_48 : Int32) => m_RRef_equal_L82 g n v3_45 v4_46 v5_47 (v6_48 + 1))) (fun v3_45 v4_46 v5_47 v6_48 res hm H locs hP hD hS ls hl => ?_) FU  v3 v4 0 v6 q19 q21 0 _ hm _ _ hP hD hS ls (lv_sub hl [4, 5, 6, 1, 7, 3, 2, 0] rfl)
              · have hm := hm
                refine lv_iinc (v := (v6_48 + 1)) (lv' := [(6, .int (v6_48 + 1)), (0, .ref (ad 0)), (3, .int v3_45), (4, .int v4_46), (5, .int v5_47)]) hx hb d_RRef_equal_246 hl (k := 4) rfl rfl (by decide) rfl (fun ls hl => ?_)
                refine lv_goto (tgt := 82) hx hb d_RRef_equal_249 (by decide) ?_
                exact ih  v3_45 v4_46 v5_47 (v6_48 + 1) _ hm _ _ hP hD hS ls (lv_sub hl [1, 2, 3, 4, 0] rfl)
            · replace hm := ip c44 hm
              refine lv_iconst (v := 1) hx hb d_RRef_equal_187 (by decide) ?_
              refine lv_goto (tgt := 192) hx hb d_RRef_equal_188 (by decide) ?_
              refine lv_istore (lv' := [(5, .int 1), (8, .int q21), (7, .int q19), (0, .ref (ad 0)), (3, .int v3), (4, .int v4), (6, .int v6)]) hx hb d_RRef_equal_192 hl (by decide) rfl (fun ls hl => ?_)
              refine lv_iconst (v := 0) hx hb d_RRef_equal_194 (by decide) ?_
              refine lv_istore (lv' := [(9, .int 0), (5, .int 1), (8, .int q21), (7, .int q19), (0, .ref (ad 0)), (3, .int v3), (4, .int v4), (6, .int v6)]) hx hb d_RRef_equal_195 hl (by decide) rfl (fun ls hl => ?_)
              refine k_m_RRef_equal_L197 X hA (k := (fun (v3_49 : Int32) (v4_50 : Int32) (v5_51 : Int32) (v6_52 : Int32) => m_RRef_equal_L82 g n v3_49 v4_50 v5_51 (v6_52 + 1))) (fun v3_49 v4_50 v5_51 v6_52 res hm H locs hP hD hS ls hl => ?_) FU  v3 v4 1 v6 q19 q21 0 _ hm _ _ hP hD hS ls (lv_sub hl [4, 5, 6, 1, 7, 3, 2, 0] rfl)
              · have hm := hm
                refine lv_iinc (v := (v6_52 + 1)) (lv' := [(6, .int (v6_52 + 1)), (0, .ref (ad 0)), (3, .int v3_49), (4, .int v4_50), (5, .int v5_51)]) hx hb d_RRef_equal_246 hl (k := 4) rfl rfl (by decide) rfl (fun ls hl => ?_)
                refine lv_goto (tgt := 82) hx hb d_RRef_equal_249 (by decide) ?_
                exact ih  v3_49 v4_50 v5_51 (v6_52 + 1) _ hm _ _ hP hD hS ls (lv_sub hl [1, 2, 3, 4, 0] rfl)
set_option maxHeartbeats 4000000 in
set_option maxRecDepth 100000 in
theorem c_RRef_equal (l : Launch) (D : va_G) (ca : Nat → ClassId) (ad : Nat → Nat) (sz : Nat) (g : St_Ref) (p1 : Int32) (p2 : Int32) (res : Int32) (hm : m_RRef_equal g p1 p2 = some res) : Met l y_RRef_equal (cws y_RRef_equal b_RRef_equal 10 (some .int)) (RM 4 95) (PreW D ca (wl_Ref ca ad g) [.ref (ad 0), .int p1, .int p2] sz) (QRr (.int res) (va_A [] sz)) 0 0 (va_A [] sz) := by
  refine met_ofR (own := R_RRef) (by decide) rfl (Nat.le_of_ble_eq_true rfl) ?_
  intro p e s m below meth c A X hA hP hD ls hl
  obtain ⟨hx, hb, hml, hr, hown, hts, hK, hlocks⟩ := id X
  have hS : va_S A s.heap s.heap [] := va_S.rf
  have hl : lv_has ls 10 [(0, .ref (ad 0)), (1, .int p1), (2, .int p2)] := hl
  unfold m_RRef_equal at hm
  refine lv_aload_n hx hb d_RRef_equal_0 rfl (lv_at hl 0 rfl) ?_
  refine va_get (D := D) (ci := 6) (v := .int (g_Ropen g)) (C := R_RRef) (T := F_RRef) (N := 29) hx hb hts i_RRef hown hK hP 0 rfl rfl 2 (by decide) (hts _ wf_RRef_13) (fun _ h9 => h9) rfl d_RRef_equal_1 ?_
  refine lv_if_ne (tgt := 10) hx hb d_RRef_equal_4 (by decide) (fun c1 => ?_) (fun c1 => ?_)
  · replace hm := ineg c1 hm
    refine lv_aload_n hx hb d_RRef_equal_10 rfl (lv_at hl 0 rfl) ?_
    refine lv_iload_n hx hb d_RRef_equal_11 rfl (lv_at hl 1 rfl) ?_
    obtain ⟨q2, hq2, hm⟩ := ob hm
    refine inv_rVa (C := R_RRef) (As := [.int p1]) (rest := []) (v := .int q2) X (c_RRef_findMark l D ca ad _ g p1 q2 hq2) g_RRef_150 yo_RRef_findMark ⟨Nat.le_of_ble_eq_true rfl, Nat.le_of_ble_eq_true rfl⟩ hl hP hD (ci := 6) rfl rfl hS hA rfl rfl (Nat.le_of_ble_eq_true rfl) ⟨Nat.zero_le _, Nat.zero_le _⟩ d_RRef_equal_12 (fun H locs hP hS => ?_)
    refine lv_istore_n (lv' := [(3, .int q2), (0, .ref (ad 0)), (1, .int p1), (2, .int p2)]) hx hb d_RRef_equal_15 rfl hl (by decide) rfl (fun ls hl => ?_)
    refine lv_aload_n hx hb d_RRef_equal_16 rfl (lv_at hl 1 rfl) ?_
    refine lv_iload_n hx hb d_RRef_equal_17 rfl (lv_at hl 3 rfl) ?_
    obtain ⟨q3, hq3, hm⟩ := ob hm
    refine inv_rVa (C := R_RRef) (As := [.int p2]) (rest := []) (v := .int q3) X (c_RRef_findMark l D ca ad _ g p2 q3 hq3) g_RRef_150 yo_RRef_findMark ⟨Nat.le_of_ble_eq_true rfl, Nat.le_of_ble_eq_true rfl⟩ hl hP hD (ci := 6) rfl rfl hS hA rfl rfl (Nat.le_of_ble_eq_true rfl) ⟨Nat.zero_le _, Nat.zero_le _⟩ d_RRef_equal_18 (fun H locs hP hS => ?_)
    refine lv_istore (lv' := [(4, .int q3), (3, .int q2), (0, .ref (ad 0)), (1, .int p1), (2, .int p2)]) hx hb d_RRef_equal_21 hl (by decide) rfl (fun ls hl => ?_)
    refine lv_iload_n hx hb d_RRef_equal_23 rfl (lv_at hl 1 rfl) ?_
    refine lv_iconst (v := (-1)) hx hb d_RRef_equal_24 (by decide) ?_
    refine lv_icmp_eq (tgt := 34) hx hb d_RRef_equal_25 (by decide) (fun c4 => ?_) (fun c4 => ?_)
    · replace hm := ip c4 hm
      refine lv_iconst (v := (-1)) hx hb d_RRef_equal_34 (by decide) ?_
      cases hm
      exact ret_ri X hS d_RRef_equal_35
    · replace hm := ineg c4 hm
      refine lv_iload hx hb d_RRef_equal_28 (lv_at hl 0 rfl) ?_
      refine lv_iconst (v := (-1)) hx hb d_RRef_equal_30 (by decide) ?_
      refine lv_icmp_ne (tgt := 36) hx hb d_RRef_equal_31 (by decide) (fun c5 => ?_) (fun c5 => ?_)
      · replace hm := ineg c5 hm
        refine lv_aload_n hx hb d_RRef_equal_36 rfl (lv_at hl 2 rfl) ?_
        refine lv_iload_n hx hb d_RRef_equal_37 rfl (lv_at hl 1 rfl) ?_
        obtain ⟨q6, hq6, hm⟩ := ob hm
        refine inv_rVa (C := R_RRef) (As := [.int q2]) (rest := []) (v := .int q6) X (c_RRef_isWholeMark l D ca ad _ g q2 q6 hq6) g_RRef_224 yo_RRef_isWholeMark ⟨Nat.le_of_ble_eq_true rfl, Nat.le_of_ble_eq_true rfl⟩ hl hP hD (ci := 6) rfl rfl hS hA rfl rfl (Nat.le_of_ble_eq_true rfl) ⟨Nat.zero_le _, Nat.zero_le _⟩ d_RRef_equal_38 (fun H locs hP hS => ?_)
        refine lv_if_eq (tgt := 53) hx hb d_RRef_equal_41 (by decide) (fun c7 => ?_) (fun c7 => ?_)
        · replace hm := ip c7 hm
          refine lv_bipush (v := (-2)) hx hb d_RRef_equal_53 (by decide) ?_
          cases hm
          exact ret_ri X hS d_RRef_equal_55
        · replace hm := ineg c7 hm
          refine lv_aload_n hx hb d_RRef_equal_44 rfl (lv_at hl 2 rfl) ?_
          refine lv_iload hx hb d_RRef_equal_45 (lv_at hl 0 rfl) ?_
          obtain ⟨q8, hq8, hm⟩ := ob hm
          refine inv_rVa (C := R_RRef) (As := [.int q3]) (rest := []) (v := .int q8) X (c_RRef_isWholeMark l D ca ad _ g q3 q8 hq8) g_RRef_224 yo_RRef_isWholeMark ⟨Nat.le_of_ble_eq_true rfl, Nat.le_of_ble_eq_true rfl⟩ hl hP hD (ci := 6) rfl rfl hS hA rfl rfl (Nat.le_of_ble_eq_true rfl) ⟨Nat.zero_le _, Nat.zero_le _⟩ d_RRef_equal_47 (fun H locs hP hS => ?_)
          refine lv_if_ne (tgt := 56) hx hb d_RRef_equal_50 (by decide) (fun c9 => ?_) (fun c9 => ?_)
          · replace hm := ineg c9 hm
            refine lv_aload_n hx hb d_RRef_equal_56 rfl (lv_at hl 2 rfl) ?_
            refine va_get (D := D) (ci := 6) (v := .ref (ad 10)) (C := R_RRef) (T := F_RRef) (N := 29) hx hb hts i_RRef hown hK hP 0 rfl rfl 15 (by decide) (hts _ wf_RRef_47) (fun _ h9 => h9) rfl d_RRef_equal_57 ?_
            refine lv_iload_n hx hb d_RRef_equal_60 rfl (lv_at hl 1 rfl) ?_
            obtain ⟨b10, hm⟩ := on hm
            refine va_iald hx hb hK hP 10 2 rfl rfl b10 d_RRef_equal_61 ?_
            refine lv_aload_n hx hb d_RRef_equal_62 rfl (lv_at hl 2 rfl) ?_
            refine va_get (D := D) (ci := 6) (v := .ref (ad 10)) (C := R_RRef) (T := F_RRef) (N := 29) hx hb hts i_RRef hown hK hP 0 rfl rfl 15 (by decide) (hts _ wf_RRef_47) (fun _ h9 => h9) rfl d_RRef_equal_63 ?_
            refine lv_iload hx hb d_RRef_equal_66 (lv_at hl 0 rfl) ?_
            obtain ⟨b11, hm⟩ := on hm
            refine va_iald hx hb hK hP 10 2 rfl rfl b11 d_RRef_equal_68 ?_
            refine lv_icmp_ne (tgt := 76) hx hb d_RRef_equal_69 (by decide) (fun c12 => ?_) (fun c12 => ?_)
            · replace hm := ineg c12 hm
              refine lv_iconst (v := 0) hx hb d_RRef_equal_76 (by decide) ?_
              refine lv_istore (lv' := [(5, .int 0), (4, .int q3), (3, .int q2), (0, .ref (ad 0)), (1, .int p1), (2, .int p2)]) hx hb d_RRef_equal_77 hl (by decide) rfl (fun ls hl => ?_)
              refine lv_iconst (v := 0) hx hb d_RRef_equal_79 (by decide) ?_
              refine lv_istore (lv' := [(6, .int 0), (5, .int 0), (4, .int q3), (3, .int q2), (0, .ref (ad 0)), (1, .int p1), (2, .int p2)]) hx hb d_RRef_equal_80 hl (by decide) rfl (fun ls hl => ?_)
              exact k_m_RRef_equal_L82 X hA FU  q2 q3 0 0 _ hm _ _ hP hD hS ls (lv_sub hl [4, 3, 2, 1, 0] rfl)
            · replace hm := ip c12 hm
              refine lv_iconst (v := 1) hx hb d_RRef_equal_72 (by decide) ?_
              refine lv_goto (tgt := 77) hx hb d_RRef_equal_73 (by decide) ?_
              refine lv_istore (lv' := [(5, .int 1), (4, .int q3), (3, .int q2), (0, .ref (ad 0)), (1, .int p1), (2, .int p2)]) hx hb d_RRef_equal_77 hl (by decide) rfl (fun ls hl => ?_)
              refine lv_iconst (v := 0) hx hb d_RRef_equal_79 (by decide) ?_
              refine lv_istore (lv' := [(6, .int 0), (5, .int 1), (4, .int q3), (3, .int q2), (0, .ref (ad 0)), (1, .int p1), (2, .int p2)]) hx hb d_RRef_equal_80 hl (by decide) rfl (fun ls hl => ?_)
              exact k_m_RRef_equal_L82 X hA FU  q2 q3 1 0 _ hm _ _ hP hD hS ls (lv_sub hl [4, 3, 2, 1, 0] rfl)
          · replace hm := ip c9 hm
            refine lv_bipush (v := (-2)) hx hb d_RRef_equal_53 (by decide) ?_
            cases hm
            exact ret_ri X hS d_RRef_equal_55
      · replace hm := ip c5 hm
        refine lv_iconst (v := (-1)) hx hb d_RRef_equal_34 (by decide) ?_
        cases hm
        exact ret_ri X hS d_RRef_equal_35
  · replace hm := ip c1 hm
    refine lv_bipush (v := (-3)) hx hb d_RRef_equal_7 (by decide) ?_
    cases hm
    exact ret_ri X hS d_RRef_equal_9
set_option maxHeartbeats 4000000 in
set_option maxRecDepth 100000 in
theorem k_m_RRef_told_L76 {p : Program} {l : Launch} {e : Env} {s : State} {m : MethodId} {args : Array Value} {below : List Frame} {meth : Method} {c : Code} {D : va_G} {ca : Nat → ClassId} {ad : Nat → Nat} {A : Nat → Prop} (X : Cx p s m args meth c R_RRef b_RRef_told 4 (some .int) D ca) (hA : ∀ q, s.heap.size ≤ q → A q)  : ∀ (n : Nat) (g : St_Ref) (v2 : Int32) (v3 : Int32) (res : Int32 × St_Ref), m_RRef_told_L76  n g v2 v3 = some res → ∀ (H : Heap) (locs : List Loc), va_P D classes (wl_Ref ca ad g) H → va_D A (wl_Ref ca ad g) → va_S A s.heap H locs → ∀ ls : Array Slot, lv_has ls 4 [(0, .ref (ad 0)), (2, .int v2), (3, .int v3)] → W p l e (RM 2 42) s m args below meth c H locs 0 0 (MQ below (QRm D (some (.int res.1)) (wl_Ref ca ad res.2) A) args s 0 0 A) (F0 m 76 ls []) := by
  obtain ⟨hx, hb, hml, hr, hown, hts, hK, hlocks⟩ := id X
  intro n
  induction n with
  | zero =>
    intro g v2 v3 res hm
    rw [m_RRef_told_L76] at hm
    cases hm
  | succ n ih =>
    intro g v2 v3 res hm H locs hP hD hS ls hl
    rw [m_RRef_told_L76] at hm
    refine lv_iload_n hx hb d_RRef_told_76 rfl (lv_at hl 2 rfl) ?_
    refine lv_aload_n hx hb d_RRef_told_77 rfl (lv_at hl 0 rfl) ?_
    refine va_get (D := D) (ci := 6) (v := .int (g_Rrows g)) (C := R_RRef) (T := F_RRef) (N := 29) hx hb hts i_RRef hown hK hP 0 rfl rfl 1 (by decide) (hts _ wf_RRef_78) (fun _ h9 => h9) rfl d_RRef_told_78 ?_
    refine lv_icmp_ge (tgt := 107) hx hb d_RRef_told_81 (by decide) (fun c14 => ?_) (fun c14 => ?_)
    · replace hm := ip c14 hm
      refine lv_iload_n hx hb d_RRef_told_107 rfl (lv_at hl 1 rfl) ?_
      cases hm
      exact ret_mi X hP hS d_RRef_told_108
    · replace hm := ineg c14 hm
      refine lv_iload_n hx hb d_RRef_told_84 rfl (lv_at hl 1 rfl) ?_
      refine lv_aload_n hx hb d_RRef_told_85 rfl (lv_at hl 0 rfl) ?_
      refine va_get (D := D) (ci := 6) (v := .ref (ad 16)) (C := R_RRef) (T := F_RRef) (N := 29) hx hb hts i_RRef hown hK hP 0 rfl rfl 25 (by decide) (hts _ wf_RRef_65) (fun _ h9 => h9) rfl d_RRef_told_86 ?_
      refine lv_iload_n hx hb d_RRef_told_89 rfl (lv_at hl 2 rfl) ?_
      obtain ⟨b15, hm⟩ := on hm
      refine va_zald hx hb hK hP 16 1 rfl rfl b15 d_RRef_told_90 ?_
      refine lv_if_eq (tgt := 98) hx hb d_RRef_told_91 (by decide) (fun c16 => ?_) (fun c16 => ?_)
      · replace hm := ip c16 hm
        refine lv_iconst (v := 1) hx hb d_RRef_told_98 (by decide) ?_
        refine lv_iadd hx hb d_RRef_told_99 ?_
        refine lv_istore_n (lv' := [(2, .int (v2 + 1)), (0, .ref (ad 0)), (3, .int v3)]) hx hb d_RRef_told_100 rfl hl (by decide) rfl (fun ls hl => ?_)
        refine lv_iinc (v := (v3 + 1)) (lv' := [(3, .int (v3 + 1)), (2, .int (v2 + 1)), (0, .ref (ad 0))]) hx hb d_RRef_told_101 hl (k := 2) rfl rfl (by decide) rfl (fun ls hl => ?_)
        refine lv_goto (tgt := 76) hx hb d_RRef_told_104 (by decide) ?_
        exact ih g (v2 + 1) (v3 + 1) _ hm _ _ hP hD hS ls (lv_sub hl [2, 1, 0] rfl)
      · replace hm := ineg c16 hm
        refine lv_iconst (v := 0) hx hb d_RRef_told_94 (by decide) ?_
        refine lv_goto (tgt := 99) hx hb d_RRef_told_95 (by decide) ?_
        refine lv_iadd hx hb d_RRef_told_99 ?_
        refine lv_istore_n (lv' := [(2, .int (v2 + 0)), (0, .ref (ad 0)), (3, .int v3)]) hx hb d_RRef_told_100 rfl hl (by decide) rfl (fun ls hl => ?_)
        refine lv_iinc (v := (v3 + 1)) (lv' := [(3, .int (v3 + 1)), (2, .int (v2 + 0)), (0, .ref (ad 0))]) hx hb d_RRef_told_101 hl (k := 2) rfl rfl (by decide) rfl (fun ls hl => ?_)
        refine lv_goto (tgt := 76) hx hb d_RRef_told_104 (by decide) ?_
        exact ih g (v2 + 0) (v3 + 1) _ hm _ _ hP hD hS ls (lv_sub hl [2, 1, 0] rfl)
set_option maxHeartbeats 4000000 in
set_option maxRecDepth 100000 in
theorem c_RRef_told (l : Launch) (D : va_G) (ca : Nat → ClassId) (ad : Nat → Nat) (sz : Nat) (g : St_Ref) (p1 : Int32) (res : Int32 × St_Ref) (hm : m_RRef_told g p1 = some res) : Met l y_RRef_told (cws y_RRef_told b_RRef_told 4 (some .int)) (RM 2 42) (PreW D ca (wl_Ref ca ad g) [.ref (ad 0), .int p1] sz) (QRm D (some (.int res.1)) (wl_Ref ca ad res.2) (va_A (wl_Ref ca ad g) sz)) 0 0 (va_A (wl_Ref ca ad g) sz) := by
  refine met_ofM (own := R_RRef) (by decide) rfl (Nat.le_of_ble_eq_true rfl) ?_
  intro p e s m below meth c A X hA hP hD ls hl
  obtain ⟨hx, hb, hml, hr, hown, hts, hK, hlocks⟩ := id X
  have hS : va_S A s.heap s.heap [] := va_S.rf
  have hl : lv_has ls 4 [(0, .ref (ad 0)), (1, .int p1)] := hl
  unfold m_RRef_told at hm
  refine lv_iload_n hx hb d_RRef_told_0 rfl (lv_at hl 1 rfl) ?_
  refine lv_iconst (v := 0) hx hb d_RRef_told_1 (by decide) ?_
  refine lv_bipush (v := 16) hx hb d_RRef_told_2 (by decide) ?_
  obtain ⟨q1, hq1, hm⟩ := ob hm
  refine inv_rS (As := [.int p1, .int 0, .int 16]) (rest := []) (v := .int q1) X (c_RRef_isIn l D ca  _ p1 0 16 q1 hq1) g_RRef_172 yo_RRef_isIn ⟨Nat.le_of_ble_eq_true rfl, Nat.le_of_ble_eq_true rfl⟩ hl hP hD [] rfl rfl hS hA rfl rfl (Nat.le_of_ble_eq_true rfl) ⟨Nat.zero_le _, Nat.zero_le _⟩ d_RRef_told_4 (fun H locs hP hS => ?_)
  refine lv_if_ne (tgt := 13) hx hb d_RRef_told_7 (by decide) (fun c2 => ?_) (fun c2 => ?_)
  · replace hm := ineg c2 hm
    refine lv_iload_n hx hb d_RRef_told_13 rfl (lv_at hl 1 rfl) ?_
    refine lv_iconst (v := 3) hx hb d_RRef_told_14 (by decide) ?_
    refine lv_icmp_ge (tgt := 54) hx hb d_RRef_told_15 (by decide) (fun c3 => ?_) (fun c3 => ?_)
    · replace hm := ip c3 hm
      refine lv_aload_n hx hb d_RRef_told_54 rfl (lv_at hl 0 rfl) ?_
      refine va_get (D := D) (ci := 6) (v := .int (g_Ropen g)) (C := R_RRef) (T := F_RRef) (N := 29) hx hb hts i_RRef hown hK hP 0 rfl rfl 2 (by decide) (hts _ wf_RRef_13) (fun _ h9 => h9) rfl d_RRef_told_55 ?_
      refine lv_if_ne (tgt := 63) hx hb d_RRef_told_58 (by decide) (fun c4 => ?_) (fun c4 => ?_)
      · replace hm := ineg c4 hm
        refine lv_iload_n hx hb d_RRef_told_63 rfl (lv_at hl 1 rfl) ?_
        refine lv_iconst (v := 3) hx hb d_RRef_told_64 (by decide) ?_
        refine lv_icmp_ne (tgt := 109) hx hb d_RRef_told_65 (by decide) (fun c5 => ?_) (fun c5 => ?_)
        · replace hm := ineg c5 hm
          refine lv_iload_n hx hb d_RRef_told_109 rfl (lv_at hl 1 rfl) ?_
          refine lv_iconst (v := 4) hx hb d_RRef_told_110 (by decide) ?_
          refine lv_icmp_ne (tgt := 121) hx hb d_RRef_told_111 (by decide) (fun c6 => ?_) (fun c6 => ?_)
          · replace hm := ineg c6 hm
            refine lv_iload_n hx hb d_RRef_told_121 rfl (lv_at hl 1 rfl) ?_
            refine lv_iconst (v := 5) hx hb d_RRef_told_122 (by decide) ?_
            refine lv_icmp_ne (tgt := 133) hx hb d_RRef_told_123 (by decide) (fun c7 => ?_) (fun c7 => ?_)
            · replace hm := ineg c7 hm
              refine lv_iload_n hx hb d_RRef_told_133 rfl (lv_at hl 1 rfl) ?_
              refine lv_bipush (v := 6) hx hb d_RRef_told_134 (by decide) ?_
              refine lv_icmp_ne (tgt := 146) hx hb d_RRef_told_136 (by decide) (fun c8 => ?_) (fun c8 => ?_)
              · replace hm := ineg c8 hm
                refine lv_iload_n hx hb d_RRef_told_146 rfl (lv_at hl 1 rfl) ?_
                refine lv_bipush (v := 7) hx hb d_RRef_told_147 (by decide) ?_
                refine lv_icmp_ne (tgt := 159) hx hb d_RRef_told_149 (by decide) (fun c9 => ?_) (fun c9 => ?_)
                · replace hm := ineg c9 hm
                  refine lv_iload_n hx hb d_RRef_told_159 rfl (lv_at hl 1 rfl) ?_
                  refine lv_bipush (v := 8) hx hb d_RRef_told_160 (by decide) ?_
                  refine lv_icmp_ne (tgt := 173) hx hb d_RRef_told_162 (by decide) (fun c10 => ?_) (fun c10 => ?_)
                  · replace hm := ineg c10 hm
                    refine lv_aload_n hx hb d_RRef_told_173 rfl (lv_at hl 0 rfl) ?_
                    refine va_get (D := D) (ci := 6) (v := .ref (ad 15)) (C := R_RRef) (T := F_RRef) (N := 29) hx hb hts i_RRef hown hK hP 0 rfl rfl 21 (by decide) (hts _ wf_RRef_62) (fun _ h9 => h9) rfl d_RRef_told_174 ?_
                    refine lv_iload_n hx hb d_RRef_told_177 rfl (lv_at hl 1 rfl) ?_
                    refine lv_bipush (v := 9) hx hb d_RRef_told_178 (by decide) ?_
                    refine lv_isub hx hb d_RRef_told_180 ?_
                    obtain ⟨b11, hm⟩ := on hm
                    refine va_iald hx hb hK hP 15 2 rfl rfl b11 d_RRef_told_181 ?_
                    cases hm
                    exact ret_mi X hP hS d_RRef_told_182
                  · replace hm := ip c10 hm
                    refine lv_aload_n hx hb d_RRef_told_165 rfl (lv_at hl 0 rfl) ?_
                    refine lv_iconst (v := 0) hx hb d_RRef_told_166 (by decide) ?_
                    obtain ⟨q12, hq12, hm⟩ := ob hm
                    refine inv_rVa (C := R_RRef) (As := [.int 0]) (rest := []) (v := .int q12) X (c_RRef_count l D ca ad _ g 0 q12 hq12) g_RRef_196 yo_RRef_count ⟨Nat.le_of_ble_eq_true rfl, Nat.le_of_ble_eq_true rfl⟩ hl hP hD (ci := 6) rfl rfl hS hA rfl rfl (Nat.le_of_ble_eq_true rfl) ⟨Nat.zero_le _, Nat.zero_le _⟩ d_RRef_told_167 (fun H locs hP hS => ?_)
                    refine lv_goto (tgt := 182) hx hb d_RRef_told_170 (by decide) ?_
                    cases hm
                    exact ret_mi X hP hS d_RRef_told_182
                · replace hm := ip c9 hm
                  refine lv_aload_n hx hb d_RRef_told_152 rfl (lv_at hl 0 rfl) ?_
                  refine va_get (D := D) (ci := 6) (v := .int (g_Rserial g)) (C := R_RRef) (T := F_RRef) (N := 29) hx hb hts i_RRef hown hK hP 0 rfl rfl 22 (by decide) (hts _ wf_RRef_137) (fun _ h9 => h9) rfl d_RRef_told_153 ?_
                  refine lv_goto (tgt := 182) hx hb d_RRef_told_156 (by decide) ?_
                  cases hm
                  exact ret_mi X hP hS d_RRef_told_182
              · replace hm := ip c8 hm
                refine lv_aload_n hx hb d_RRef_told_139 rfl (lv_at hl 0 rfl) ?_
                refine va_get (D := D) (ci := 6) (v := .int (g_RlastMark g)) (C := R_RRef) (T := F_RRef) (N := 29) hx hb hts i_RRef hown hK hP 0 rfl rfl 24 (by decide) (hts _ wf_RRef_153) (fun _ h9 => h9) rfl d_RRef_told_140 ?_
                refine lv_goto (tgt := 182) hx hb d_RRef_told_143 (by decide) ?_
                cases hm
                exact ret_mi X hP hS d_RRef_told_182
            · replace hm := ip c7 hm
              refine lv_aload_n hx hb d_RRef_told_126 rfl (lv_at hl 0 rfl) ?_
              refine va_get (D := D) (ci := 6) (v := .int (g_RlastPart g)) (C := R_RRef) (T := F_RRef) (N := 29) hx hb hts i_RRef hown hK hP 0 rfl rfl 23 (by decide) (hts _ wf_RRef_147) (fun _ h9 => h9) rfl d_RRef_told_127 ?_
              refine lv_goto (tgt := 182) hx hb d_RRef_told_130 (by decide) ?_
              cases hm
              exact ret_mi X hP hS d_RRef_told_182
          · replace hm := ip c6 hm
            refine lv_aload_n hx hb d_RRef_told_114 rfl (lv_at hl 0 rfl) ?_
            refine va_get (D := D) (ci := 6) (v := .int (g_Rparts g)) (C := R_RRef) (T := F_RRef) (N := 29) hx hb hts i_RRef hown hK hP 0 rfl rfl 12 (by decide) (hts _ wf_RRef_106) (fun _ h9 => h9) rfl d_RRef_told_115 ?_
            refine lv_goto (tgt := 182) hx hb d_RRef_told_118 (by decide) ?_
            cases hm
            exact ret_mi X hP hS d_RRef_told_182
        · replace hm := ip c5 hm
          refine lv_aload_n hx hb d_RRef_told_68 rfl (lv_at hl 0 rfl) ?_
          obtain ⟨q13, hq13, hm⟩ := ob hm
          refine inv_mUa (C := R_RRef) (As := []) (rest := []) X (c_RRef_marksUsed l D ca ad _ g q13 hq13) g_RRef_185 yo_RRef_marksUsed ⟨Nat.le_of_ble_eq_true rfl, Nat.le_of_ble_eq_true rfl⟩ hl hP hD rfl (ci := 6) rfl rfl hS hA rfl rfl (Nat.le_of_ble_eq_true rfl) ⟨Nat.zero_le _, Nat.zero_le _⟩ d_RRef_told_69 (fun H locs hP hD hS => ?_)
          refine lv_iconst (v := 0) hx hb d_RRef_told_72 (by decide) ?_
          refine lv_istore_n (lv' := [(2, .int 0), (0, .ref (ad 0)), (1, .int p1)]) hx hb d_RRef_told_73 rfl hl (by decide) rfl (fun ls hl => ?_)
          refine lv_iconst (v := 2) hx hb d_RRef_told_74 (by decide) ?_
          refine lv_istore_n (lv' := [(3, .int 2), (2, .int 0), (0, .ref (ad 0)), (1, .int p1)]) hx hb d_RRef_told_75 rfl hl (by decide) rfl (fun ls hl => ?_)
          exact k_m_RRef_told_L76 X hA FU q13 0 2 _ hm _ _ hP hD hS ls (lv_sub hl [2, 1, 0] rfl)
      · replace hm := ip c4 hm
        refine lv_iconst (v := 0) hx hb d_RRef_told_61 (by decide) ?_
        cases hm
        exact ret_mi X hP hS d_RRef_told_62
    · replace hm := ineg c3 hm
      refine lv_iload_n hx hb d_RRef_told_18 rfl (lv_at hl 1 rfl) ?_
      refine lv_if_ne (tgt := 37) hx hb d_RRef_told_19 (by decide) (fun c17 => ?_) (fun c17 => ?_)
      · replace hm := ineg c17 hm
        refine lv_iload_n hx hb d_RRef_told_37 rfl (lv_at hl 1 rfl) ?_
        refine lv_iconst (v := 1) hx hb d_RRef_told_38 (by decide) ?_
        refine lv_icmp_ne (tgt := 49) hx hb d_RRef_told_39 (by decide) (fun c18 => ?_) (fun c18 => ?_)
        · replace hm := ineg c18 hm
          refine lv_aload_n hx hb d_RRef_told_49 rfl (lv_at hl 0 rfl) ?_
          refine va_get (D := D) (ci := 6) (v := .int (g_Rwritten g)) (C := R_RRef) (T := F_RRef) (N := 29) hx hb hts i_RRef hown hK hP 0 rfl rfl 4 (by decide) (hts _ wf_RRef_92) (fun _ h9 => h9) rfl d_RRef_told_50 ?_
          cases hm
          exact ret_mi X hP hS d_RRef_told_53
        · replace hm := ip c18 hm
          refine lv_aload_n hx hb d_RRef_told_42 rfl (lv_at hl 0 rfl) ?_
          refine va_get (D := D) (ci := 6) (v := .int (g_Rrows g)) (C := R_RRef) (T := F_RRef) (N := 29) hx hb hts i_RRef hown hK hP 0 rfl rfl 1 (by decide) (hts _ wf_RRef_78) (fun _ h9 => h9) rfl d_RRef_told_43 ?_
          refine lv_goto (tgt := 53) hx hb d_RRef_told_46 (by decide) ?_
          cases hm
          exact ret_mi X hP hS d_RRef_told_53
      · replace hm := ip c17 hm
        refine lv_aload_n hx hb d_RRef_told_22 rfl (lv_at hl 0 rfl) ?_
        refine va_get (D := D) (ci := 6) (v := .int (g_Ropen g)) (C := R_RRef) (T := F_RRef) (N := 29) hx hb hts i_RRef hown hK hP 0 rfl rfl 2 (by decide) (hts _ wf_RRef_13) (fun _ h9 => h9) rfl d_RRef_told_23 ?_
        refine lv_if_eq (tgt := 33) hx hb d_RRef_told_26 (by decide) (fun c19 => ?_) (fun c19 => ?_)
        · replace hm := ip c19 hm
          refine lv_iconst (v := 0) hx hb d_RRef_told_33 (by decide) ?_
          refine lv_goto (tgt := 53) hx hb d_RRef_told_34 (by decide) ?_
          cases hm
          exact ret_mi X hP hS d_RRef_told_53
        · replace hm := ineg c19 hm
          refine lv_iconst (v := 1) hx hb d_RRef_told_29 (by decide) ?_
          refine lv_goto (tgt := 53) hx hb d_RRef_told_30 (by decide) ?_
          cases hm
          exact ret_mi X hP hS d_RRef_told_53
  · replace hm := ip c2 hm
    refine lv_bipush (v := (-2)) hx hb d_RRef_told_10 (by decide) ?_
    cases hm
    exact ret_mi X hP hS d_RRef_told_12
