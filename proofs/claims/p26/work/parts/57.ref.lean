set_option maxHeartbeats 4000000 in
set_option maxRecDepth 100000 in
theorem c_RRef_part (l : Launch) (D : va_G) (ca : Nat → ClassId) (ad : Nat → Nat) (sz : Nat) (g : St_Ref) (p1 : Int32) (p2 : Int64) (res : Int32 × St_Ref) (hm : m_RRef_part g p1 p2 = some res) : Met l y_RRef_part (cws y_RRef_part b_RRef_part 6 (some .int)) (RM 3 75) (PreW D ca (wl_Ref ca ad g) [.ref (ad 0), .int p1, .long p2] sz) (QRm D (some (.int res.1)) (wl_Ref ca ad res.2) (va_A (wl_Ref ca ad g) sz)) 0 0 (va_A (wl_Ref ca ad g) sz) := by
  refine met_ofM (own := R_RRef) (by decide) rfl (Nat.le_of_ble_eq_true rfl) ?_
  intro p e s m below meth c A X hA hP hD ls hl
  obtain ⟨hx, hb, hml, hr, hown, hts, hK, hlocks⟩ := id X
  have hS : va_S A s.heap s.heap [] := va_S.rf
  have hl : lv_has ls 6 [(0, .ref (ad 0)), (1, .int p1), (2, .long p2)] := hl
  unfold m_RRef_part at hm
  refine lv_aload_n hx hb d_RRef_part_0 rfl (lv_at hl 0 rfl) ?_
  refine va_get (D := D) (ci := 6) (v := .int (g_Rtaped g)) (C := R_RRef) (T := F_RRef) (N := 29) hx hb hts i_RRef hown hK hP 0 rfl rfl 6 (by decide) (hts _ wf_RRef_176) (fun _ h9 => h9) rfl d_RRef_part_1 ?_
  refine lv_istore (lv' := [(4, .int (g_Rtaped g)), (0, .ref (ad 0)), (1, .int p1), (2, .long p2)]) hx hb d_RRef_part_4 hl (by decide) rfl (fun ls hl => ?_)
  refine lv_aload_n hx hb d_RRef_part_6 rfl (lv_at hl 1 rfl) ?_
  refine lv_iconst (v := 0) hx hb d_RRef_part_7 (by decide) ?_
  refine va_put (D := D) (ci := 6) (v := .int 0) (ty := .int) (C := R_RRef) (T := F_RRef) (N := 29) hx hb hts i_RRef t_RRef t_RRef_ok n_RRef hown hK hP hD hS 0 rfl rfl 6 (by decide) (hts _ wf_RRef_176) (fun _ h9 => h9) rfl (by decide +kernel) rfl rfl (Nat.le_of_ble_eq_true rfl) d_RRef_part_8 (fun H locs hP hD hS => ?_)
  replace hP : va_P D classes (wl_Ref ca ad (s_Rtaped g 0)) H := hP
  replace hD : va_D A (wl_Ref ca ad (s_Rtaped g 0)) := hD
  refine lv_aload_n hx hb d_RRef_part_11 rfl (lv_at hl 1 rfl) ?_
  refine va_get (D := D) (ci := 6) (v := .int (g_Ropen g)) (C := R_RRef) (T := F_RRef) (N := 29) hx hb hts i_RRef hown hK hP 0 rfl rfl 2 (by decide) (hts _ wf_RRef_13) (fun _ h9 => h9) rfl d_RRef_part_12 ?_
  refine lv_if_ne (tgt := 21) hx hb d_RRef_part_15 (by decide) (fun c1 => ?_) (fun c1 => ?_)
  · replace hm := ineg c1 hm
    refine lv_iload_n hx hb d_RRef_part_21 rfl (lv_at hl 2 rfl) ?_
    refine lv_iconst (v := 0) hx hb d_RRef_part_22 (by decide) ?_
    refine lv_bipush (v := 7) hx hb d_RRef_part_23 (by decide) ?_
    obtain ⟨q2, hq2, hm⟩ := ob hm
    refine inv_rS (As := [.int p1, .int 0, .int 7]) (rest := []) (v := .int q2) X (c_RRef_isIn l D ca  _ p1 0 7 q2 hq2) g_RRef_172 yo_RRef_isIn ⟨Nat.le_of_ble_eq_true rfl, Nat.le_of_ble_eq_true rfl⟩ hl hP hD [] rfl rfl hS hA rfl rfl (Nat.le_of_ble_eq_true rfl) ⟨Nat.zero_le _, Nat.zero_le _⟩ d_RRef_part_25 (fun H locs hP hS => ?_)
    refine lv_if_eq (tgt := 39) hx hb d_RRef_part_28 (by decide) (fun c3 => ?_) (fun c3 => ?_)
    · replace hm := ip c3 hm
      refine lv_bipush (v := (-2)) hx hb d_RRef_part_39 (by decide) ?_
      cases hm
      exact ret_mi X hP hS d_RRef_part_41
    · replace hm := ineg c3 hm
      refine lv_iload hx hb d_RRef_part_31 (lv_at hl 0 rfl) ?_
      refine lv_sipush (v := 155) hx hb d_RRef_part_33 (by decide) ?_
      refine lv_icmp_le (tgt := 42) hx hb d_RRef_part_36 (by decide) (fun c4 => ?_) (fun c4 => ?_)
      · replace hm := ip c4 hm
        refine lv_aload_n hx hb d_RRef_part_42 rfl (lv_at hl 1 rfl) ?_
        obtain ⟨q5, hq5, hm⟩ := ob hm
        refine inv_mUa (C := R_RRef) (As := []) (rest := []) X (c_RRef_marksUsed l D ca ad _ (s_Rtaped g 0) q5 hq5) g_RRef_185 yo_RRef_marksUsed ⟨Nat.le_of_ble_eq_true rfl, Nat.le_of_ble_eq_true rfl⟩ hl hP hD rfl (ci := 6) rfl rfl hS hA rfl rfl (Nat.le_of_ble_eq_true rfl) ⟨Nat.zero_le _, Nat.zero_le _⟩ d_RRef_part_43 (fun H locs hP hD hS => ?_)
        refine lv_aload_n hx hb d_RRef_part_46 rfl (lv_at hl 1 rfl) ?_
        refine lv_iconst (v := 1) hx hb d_RRef_part_47 (by decide) ?_
        refine lv_iload hx hb d_RRef_part_48 (lv_at hl 0 rfl) ?_
        obtain ⟨q6, hq6, hm⟩ := ob hm
        refine inv_rS (As := [.int (g_Rtaped g)]) (rest := [.int 1, .ref (ad 0)]) (v := .int q6) X (c_RRef_bodies l D ca  _ (g_Rtaped g) q6 hq6) g_RRef_112 yo_RRef_bodies ⟨Nat.le_of_ble_eq_true rfl, Nat.le_of_ble_eq_true rfl⟩ hl hP hD [] rfl rfl hS hA rfl rfl (Nat.le_of_ble_eq_true rfl) ⟨Nat.zero_le _, Nat.zero_le _⟩ d_RRef_part_50 (fun H locs hP hS => ?_)
        refine lv_iadd hx hb d_RRef_part_53 ?_
        obtain ⟨q7, hq7, hm⟩ := ob hm
        refine inv_rVa (C := R_RRef) (As := [.int (1 + q6)]) (rest := []) (v := .int q7) X (c_RRef_room l D ca ad _ q5 (1 + q6) q7 hq7) g_RRef_188 yo_RRef_room ⟨Nat.le_of_ble_eq_true rfl, Nat.le_of_ble_eq_true rfl⟩ hl hP hD (ci := 6) rfl rfl hS hA rfl rfl (Nat.le_of_ble_eq_true rfl) ⟨Nat.zero_le _, Nat.zero_le _⟩ d_RRef_part_54 (fun H locs hP hS => ?_)
        refine lv_istore (lv' := [(5, .int q7), (4, .int (g_Rtaped g)), (0, .ref (ad 0)), (1, .int p1), (2, .long p2)]) hx hb d_RRef_part_57 hl (by decide) rfl (fun ls hl => ?_)
        refine lv_iload hx hb d_RRef_part_59 (lv_at hl 0 rfl) ?_
        refine lv_iconst (v := (-1)) hx hb d_RRef_part_61 (by decide) ?_
        refine lv_icmp_eq (tgt := 74) hx hb d_RRef_part_62 (by decide) (fun c8 => ?_) (fun c8 => ?_)
        · replace hm := ip c8 hm
          refine lv_bipush (v := (-4)) hx hb d_RRef_part_74 (by decide) ?_
          refine lv_goto (tgt := 94) hx hb d_RRef_part_76 (by decide) ?_
          cases hm
          exact ret_mi X hP hS d_RRef_part_94
        · replace hm := ineg c8 hm
          refine lv_aload_n hx hb d_RRef_part_65 rfl (lv_at hl 2 rfl) ?_
          refine va_get (D := D) (ci := 6) (v := .int (g_RlastPart q5)) (C := R_RRef) (T := F_RRef) (N := 29) hx hb hts i_RRef hown hK hP 0 rfl rfl 23 (by decide) (hts _ wf_RRef_147) (fun _ h9 => h9) rfl d_RRef_part_66 ?_
          refine lv_ldc hx hb hown (hts _ wc_RRef_191) d_RRef_part_69 ?_
          refine lv_icmp_ne (tgt := 79) hx hb d_RRef_part_71 (by decide) (fun c9 => ?_) (fun c9 => ?_)
          · replace hm := ineg c9 hm
            refine lv_aload_n hx hb d_RRef_part_79 rfl (lv_at hl 2 rfl) ?_
            refine lv_iload_n hx hb d_RRef_part_80 rfl (lv_at hl 3 rfl) ?_
            refine lv_lload_n hx hb d_RRef_part_81 rfl (lv_at hl 4 rfl) ?_
            refine lv_aload_n hx hb d_RRef_part_82 rfl (lv_at hl 2 rfl) ?_
            refine va_get (D := D) (ci := 6) (v := .ref (ad 2)) (C := R_RRef) (T := F_RRef) (N := 29) hx hb hts i_RRef hown hK hP 0 rfl rfl 5 (by decide) (hts _ wf_RRef_21) (fun _ h9 => h9) rfl d_RRef_part_83 ?_
            refine lv_iconst (v := 0) hx hb d_RRef_part_86 (by decide) ?_
            refine lv_iload hx hb d_RRef_part_87 (lv_at hl 1 rfl) ?_
            refine lv_iload hx hb d_RRef_part_89 (lv_at hl 0 rfl) ?_
            obtain ⟨q10, hq10, hm⟩ := ob hm
            refine inv_mVa (C := R_RRef) (As := [.int p1, .long p2, .ref (ad 2), .int 0, .int (g_Rtaped g), .int q7]) (rest := []) (v := .int q10.1) X (c_RRef_writePart_tape l D ca ad _ q5 p1 p2 0 (g_Rtaped g) q7 q10 hq10) g_RRef_192 yo_RRef_writePart ⟨Nat.le_of_ble_eq_true rfl, Nat.le_of_ble_eq_true rfl⟩ hl hP hD rfl (ci := 6) rfl rfl hS hA rfl rfl (Nat.le_of_ble_eq_true rfl) ⟨Nat.zero_le _, Nat.zero_le _⟩ d_RRef_part_91 (fun H locs hP hD hS => ?_)
            cases hm
            exact ret_mi X hP hS d_RRef_part_94
          · replace hm := ip c9 hm
            refine lv_bipush (v := (-4)) hx hb d_RRef_part_74 (by decide) ?_
            refine lv_goto (tgt := 94) hx hb d_RRef_part_76 (by decide) ?_
            cases hm
            exact ret_mi X hP hS d_RRef_part_94
      · replace hm := ineg c4 hm
        refine lv_bipush (v := (-2)) hx hb d_RRef_part_39 (by decide) ?_
        cases hm
        exact ret_mi X hP hS d_RRef_part_41
  · replace hm := ip c1 hm
    refine lv_bipush (v := (-3)) hx hb d_RRef_part_18 (by decide) ?_
    cases hm
    exact ret_mi X hP hS d_RRef_part_20
set_option maxHeartbeats 4000000 in
set_option maxRecDepth 100000 in
theorem k_m_RRef_count_L4 {p : Program} {l : Launch} {e : Env} {s : State} {m : MethodId} {args : Array Value} {below : List Frame} {meth : Method} {c : Code} {D : va_G} {ca : Nat → ClassId} {ad : Nat → Nat} {A : Nat → Prop} (X : Cx p s m args meth c R_RRef b_RRef_count 4 (some .int) D ca) (hA : ∀ q, s.heap.size ≤ q → A q) {g : St_Ref} : ∀ (n : Nat) (v1 : Int32) (v2 : Int32) (v3 : Int32) (res : Int32), m_RRef_count_L4 g n v1 v2 v3 = some res → ∀ (H : Heap) (locs : List Loc), va_P D classes (wl_Ref ca ad g) H → va_D (fun _ => True) (wl_Ref ca ad g) → va_S A s.heap H locs → ∀ ls : Array Slot, lv_has ls 4 [(0, .ref (ad 0)), (1, .int v1), (2, .int v2), (3, .int v3)] → W p l e (RM 0 0) s m args below meth c H locs 0 0 (MQ below (QRr (.int res) A) args s 0 0 A) (F0 m 4 ls []) := by
  obtain ⟨hx, hb, hml, hr, hown, hts, hK, hlocks⟩ := id X
  intro n
  induction n with
  | zero =>
    intro v1 v2 v3 res hm
    rw [m_RRef_count_L4] at hm
    cases hm
  | succ n ih =>
    intro v1 v2 v3 res hm H locs hP hD hS ls hl
    rw [m_RRef_count_L4] at hm
    refine lv_iload_n hx hb d_RRef_count_4 rfl (lv_at hl 3 rfl) ?_
    refine lv_aload_n hx hb d_RRef_count_5 rfl (lv_at hl 0 rfl) ?_
    refine va_get (D := D) (ci := 6) (v := .int (g_Rmarks g)) (C := R_RRef) (T := F_RRef) (N := 29) hx hb hts i_RRef hown hK hP 0 rfl rfl 20 (by decide) (hts _ wf_RRef_109) (fun _ h9 => h9) rfl d_RRef_count_6 ?_
    refine lv_icmp_ge (tgt := 45) hx hb d_RRef_count_9 (by decide) (fun c1 => ?_) (fun c1 => ?_)
    · replace hm := ip c1 hm
      refine lv_iload_n hx hb d_RRef_count_45 rfl (lv_at hl 2 rfl) ?_
      cases hm
      exact ret_ri X hS d_RRef_count_46
    · replace hm := ineg c1 hm
      refine lv_iload_n hx hb d_RRef_count_12 rfl (lv_at hl 2 rfl) ?_
      refine lv_aload_n hx hb d_RRef_count_13 rfl (lv_at hl 0 rfl) ?_
      refine va_get (D := D) (ci := 6) (v := .ref (ad 9)) (C := R_RRef) (T := F_RRef) (N := 29) hx hb hts i_RRef hown hK hP 0 rfl rfl 14 (by decide) (hts _ wf_RRef_44) (fun _ h9 => h9) rfl d_RRef_count_14 ?_
      refine lv_iload_n hx hb d_RRef_count_17 rfl (lv_at hl 3 rfl) ?_
      obtain ⟨b2, hm⟩ := on hm
      refine va_iald hx hb hK hP 9 2 rfl rfl b2 d_RRef_count_18 ?_
      refine lv_iconst (v := (-1)) hx hb d_RRef_count_19 (by decide) ?_
      refine lv_icmp_eq (tgt := 27) hx hb d_RRef_count_20 (by decide) (fun c3 => ?_) (fun c3 => ?_)
      · replace hm := ip c3 hm
        refine lv_iconst (v := 0) hx hb d_RRef_count_27 (by decide) ?_
        refine lv_iload_n hx hb d_RRef_count_28 rfl (lv_at hl 1 rfl) ?_
        refine lv_icmp_ne (tgt := 36) hx hb d_RRef_count_29 (by decide) (fun c4 => ?_) (fun c4 => ?_)
        · replace hm := ineg c4 hm
          refine lv_iconst (v := 0) hx hb d_RRef_count_36 (by decide) ?_
          refine lv_iadd hx hb d_RRef_count_37 ?_
          refine lv_istore_n (lv' := [(2, .int (v2 + 0)), (0, .ref (ad 0)), (1, .int v1), (3, .int v3)]) hx hb d_RRef_count_38 rfl hl (by decide) rfl (fun ls hl => ?_)
          refine lv_iinc (v := (v3 + 1)) (lv' := [(3, .int (v3 + 1)), (2, .int (v2 + 0)), (0, .ref (ad 0)), (1, .int v1)]) hx hb d_RRef_count_39 hl (k := 3) rfl rfl (by decide) rfl (fun ls hl => ?_)
          refine lv_goto (tgt := 4) hx hb d_RRef_count_42 (by decide) ?_
          exact ih  v1 (v2 + 0) (v3 + 1) _ hm _ _ hP hD hS ls (lv_sub hl [2, 3, 1, 0] rfl)
        · replace hm := ip c4 hm
          refine lv_iconst (v := 1) hx hb d_RRef_count_32 (by decide) ?_
          refine lv_goto (tgt := 37) hx hb d_RRef_count_33 (by decide) ?_
          refine lv_iadd hx hb d_RRef_count_37 ?_
          refine lv_istore_n (lv' := [(2, .int (v2 + 1)), (0, .ref (ad 0)), (1, .int v1), (3, .int v3)]) hx hb d_RRef_count_38 rfl hl (by decide) rfl (fun ls hl => ?_)
          refine lv_iinc (v := (v3 + 1)) (lv' := [(3, .int (v3 + 1)), (2, .int (v2 + 1)), (0, .ref (ad 0)), (1, .int v1)]) hx hb d_RRef_count_39 hl (k := 3) rfl rfl (by decide) rfl (fun ls hl => ?_)
          refine lv_goto (tgt := 4) hx hb d_RRef_count_42 (by decide) ?_
          exact ih  v1 (v2 + 1) (v3 + 1) _ hm _ _ hP hD hS ls (lv_sub hl [2, 3, 1, 0] rfl)
      · replace hm := ineg c3 hm
        refine lv_iconst (v := 1) hx hb d_RRef_count_23 (by decide) ?_
        refine lv_goto (tgt := 28) hx hb d_RRef_count_24 (by decide) ?_
        refine lv_iload_n hx hb d_RRef_count_28 rfl (lv_at hl 1 rfl) ?_
        refine lv_icmp_ne (tgt := 36) hx hb d_RRef_count_29 (by decide) (fun c5 => ?_) (fun c5 => ?_)
        · replace hm := ineg c5 hm
          refine lv_iconst (v := 0) hx hb d_RRef_count_36 (by decide) ?_
          refine lv_iadd hx hb d_RRef_count_37 ?_
          refine lv_istore_n (lv' := [(2, .int (v2 + 0)), (0, .ref (ad 0)), (1, .int v1), (3, .int v3)]) hx hb d_RRef_count_38 rfl hl (by decide) rfl (fun ls hl => ?_)
          refine lv_iinc (v := (v3 + 1)) (lv' := [(3, .int (v3 + 1)), (2, .int (v2 + 0)), (0, .ref (ad 0)), (1, .int v1)]) hx hb d_RRef_count_39 hl (k := 3) rfl rfl (by decide) rfl (fun ls hl => ?_)
          refine lv_goto (tgt := 4) hx hb d_RRef_count_42 (by decide) ?_
          exact ih  v1 (v2 + 0) (v3 + 1) _ hm _ _ hP hD hS ls (lv_sub hl [2, 3, 1, 0] rfl)
        · replace hm := ip c5 hm
          refine lv_iconst (v := 1) hx hb d_RRef_count_32 (by decide) ?_
          refine lv_goto (tgt := 37) hx hb d_RRef_count_33 (by decide) ?_
          refine lv_iadd hx hb d_RRef_count_37 ?_
          refine lv_istore_n (lv' := [(2, .int (v2 + 1)), (0, .ref (ad 0)), (1, .int v1), (3, .int v3)]) hx hb d_RRef_count_38 rfl hl (by decide) rfl (fun ls hl => ?_)
          refine lv_iinc (v := (v3 + 1)) (lv' := [(3, .int (v3 + 1)), (2, .int (v2 + 1)), (0, .ref (ad 0)), (1, .int v1)]) hx hb d_RRef_count_39 hl (k := 3) rfl rfl (by decide) rfl (fun ls hl => ?_)
          refine lv_goto (tgt := 4) hx hb d_RRef_count_42 (by decide) ?_
          exact ih  v1 (v2 + 1) (v3 + 1) _ hm _ _ hP hD hS ls (lv_sub hl [2, 3, 1, 0] rfl)
set_option maxHeartbeats 4000000 in
set_option maxRecDepth 100000 in
theorem c_RRef_count (l : Launch) (D : va_G) (ca : Nat → ClassId) (ad : Nat → Nat) (sz : Nat) (g : St_Ref) (p1 : Int32) (res : Int32) (hm : m_RRef_count g p1 = some res) : Met l y_RRef_count (cws y_RRef_count b_RRef_count 4 (some .int)) (RM 0 0) (PreW D ca (wl_Ref ca ad g) [.ref (ad 0), .int p1] sz) (QRr (.int res) (va_A [] sz)) 0 0 (va_A [] sz) := by
  refine met_ofR (own := R_RRef) (by decide) rfl (Nat.le_of_ble_eq_true rfl) ?_
  intro p e s m below meth c A X hA hP hD ls hl
  obtain ⟨hx, hb, hml, hr, hown, hts, hK, hlocks⟩ := id X
  have hS : va_S A s.heap s.heap [] := va_S.rf
  have hl : lv_has ls 4 [(0, .ref (ad 0)), (1, .int p1)] := hl
  unfold m_RRef_count at hm
  refine lv_iconst (v := 0) hx hb d_RRef_count_0 (by decide) ?_
  refine lv_istore_n (lv' := [(2, .int 0), (0, .ref (ad 0)), (1, .int p1)]) hx hb d_RRef_count_1 rfl hl (by decide) rfl (fun ls hl => ?_)
  refine lv_iconst (v := 0) hx hb d_RRef_count_2 (by decide) ?_
  refine lv_istore_n (lv' := [(3, .int 0), (2, .int 0), (0, .ref (ad 0)), (1, .int p1)]) hx hb d_RRef_count_3 rfl hl (by decide) rfl (fun ls hl => ?_)
  exact k_m_RRef_count_L4 X hA FU  p1 0 0 _ hm _ _ hP hD hS ls (lv_sub hl [2, 3, 1, 0] rfl)
set_option maxHeartbeats 4000000 in
set_option maxRecDepth 100000 in
theorem c_RRef_newMark (l : Launch) (D : va_G) (ca : Nat → ClassId) (ad : Nat → Nat) (sz : Nat) (g : St_Ref) (p1 : Int32) (res : Int32 × St_Ref) (hm : m_RRef_newMark g p1 = some res) : Met l y_RRef_newMark (cws y_RRef_newMark b_RRef_newMark 2 (some .int)) (RM 0 0) (PreW D ca (wl_Ref ca ad g) [.ref (ad 0), .int p1] sz) (QRm D (some (.int res.1)) (wl_Ref ca ad res.2) (va_A (wl_Ref ca ad g) sz)) 0 0 (va_A (wl_Ref ca ad g) sz) := by
  refine met_ofM (own := R_RRef) (by decide) rfl (Nat.le_of_ble_eq_true rfl) ?_
  intro p e s m below meth c A X hA hP hD ls hl
  obtain ⟨hx, hb, hml, hr, hown, hts, hK, hlocks⟩ := id X
  have hS : va_S A s.heap s.heap [] := va_S.rf
  have hl : lv_has ls 2 [(0, .ref (ad 0)), (1, .int p1)] := hl
  unfold m_RRef_newMark at hm
  refine lv_aload_n hx hb d_RRef_newMark_0 rfl (lv_at hl 0 rfl) ?_
  refine lv_dup hx hb d_RRef_newMark_1 rfl ?_
  refine va_get (D := D) (ci := 6) (v := .int (g_RlastMark g)) (C := R_RRef) (T := F_RRef) (N := 29) hx hb hts i_RRef hown hK hP 0 rfl rfl 24 (by decide) (hts _ wf_RRef_153) (fun _ h9 => h9) rfl d_RRef_newMark_2 ?_
  refine lv_iconst (v := 1) hx hb d_RRef_newMark_5 (by decide) ?_
  refine lv_iadd hx hb d_RRef_newMark_6 ?_
  refine va_put (D := D) (ci := 6) (v := .int ((g_RlastMark g) + 1)) (ty := .int) (C := R_RRef) (T := F_RRef) (N := 29) hx hb hts i_RRef t_RRef t_RRef_ok n_RRef hown hK hP hD hS 0 rfl rfl 24 (by decide) (hts _ wf_RRef_153) (fun _ h9 => h9) rfl (by decide +kernel) rfl rfl (Nat.le_of_ble_eq_true rfl) d_RRef_newMark_7 (fun H locs hP hD hS => ?_)
  replace hP : va_P D classes (wl_Ref ca ad (s_RlastMark g ((g_RlastMark g) + 1))) H := hP
  replace hD : va_D A (wl_Ref ca ad (s_RlastMark g ((g_RlastMark g) + 1))) := hD
  refine lv_aload_n hx hb d_RRef_newMark_10 rfl (lv_at hl 0 rfl) ?_
  refine va_get (D := D) (ci := 6) (v := .ref (ad 8)) (C := R_RRef) (T := F_RRef) (N := 29) hx hb hts i_RRef hown hK hP 0 rfl rfl 13 (by decide) (hts _ wf_RRef_41) (fun _ h9 => h9) rfl d_RRef_newMark_11 ?_
  refine lv_aload_n hx hb d_RRef_newMark_14 rfl (lv_at hl 0 rfl) ?_
  refine va_get (D := D) (ci := 6) (v := .int (g_Rmarks g)) (C := R_RRef) (T := F_RRef) (N := 29) hx hb hts i_RRef hown hK hP 0 rfl rfl 20 (by decide) (hts _ wf_RRef_109) (fun _ h9 => h9) rfl d_RRef_newMark_15 ?_
  refine lv_aload_n hx hb d_RRef_newMark_18 rfl (lv_at hl 0 rfl) ?_
  refine va_get (D := D) (ci := 6) (v := .int ((g_RlastMark g) + 1)) (C := R_RRef) (T := F_RRef) (N := 29) hx hb hts i_RRef hown hK hP 0 rfl rfl 24 (by decide) (hts _ wf_RRef_153) (fun _ h9 => h9) rfl d_RRef_newMark_19 ?_
  obtain ⟨b1, hm⟩ := on hm
  refine va_iast hx hb hK hP hD hS 8 2 rfl rfl b1 d_RRef_newMark_22 (fun H locs hP hD hS => ?_)
  replace hP : va_P D classes (wl_Ref ca ad (s_RmNumber (s_RlastMark g ((g_RlastMark g) + 1)) ((g_RmNumber g).1, upd (g_RmNumber g).2 ((g_Rmarks g)).toNatClampNeg ((g_RlastMark g) + 1)))) H := hP
  replace hD : va_D A (wl_Ref ca ad (s_RmNumber (s_RlastMark g ((g_RlastMark g) + 1)) ((g_RmNumber g).1, upd (g_RmNumber g).2 ((g_Rmarks g)).toNatClampNeg ((g_RlastMark g) + 1)))) := hD
  refine lv_aload_n hx hb d_RRef_newMark_23 rfl (lv_at hl 0 rfl) ?_
  refine va_get (D := D) (ci := 6) (v := .ref (ad 9)) (C := R_RRef) (T := F_RRef) (N := 29) hx hb hts i_RRef hown hK hP 0 rfl rfl 14 (by decide) (hts _ wf_RRef_44) (fun _ h9 => h9) rfl d_RRef_newMark_24 ?_
  refine lv_aload_n hx hb d_RRef_newMark_27 rfl (lv_at hl 0 rfl) ?_
  refine va_get (D := D) (ci := 6) (v := .int (g_Rmarks g)) (C := R_RRef) (T := F_RRef) (N := 29) hx hb hts i_RRef hown hK hP 0 rfl rfl 20 (by decide) (hts _ wf_RRef_109) (fun _ h9 => h9) rfl d_RRef_newMark_28 ?_
  refine lv_iconst (v := (-1)) hx hb d_RRef_newMark_31 (by decide) ?_
  obtain ⟨b2, hm⟩ := on hm
  refine va_iast hx hb hK hP hD hS 9 2 rfl rfl b2 d_RRef_newMark_32 (fun H locs hP hD hS => ?_)
  replace hP : va_P D classes (wl_Ref ca ad (s_RmRow (s_RmNumber (s_RlastMark g ((g_RlastMark g) + 1)) ((g_RmNumber g).1, upd (g_RmNumber g).2 ((g_Rmarks g)).toNatClampNeg ((g_RlastMark g) + 1))) ((g_RmRow g).1, upd (g_RmRow g).2 ((g_Rmarks g)).toNatClampNeg (-1)))) H := hP
  replace hD : va_D A (wl_Ref ca ad (s_RmRow (s_RmNumber (s_RlastMark g ((g_RlastMark g) + 1)) ((g_RmNumber g).1, upd (g_RmNumber g).2 ((g_Rmarks g)).toNatClampNeg ((g_RlastMark g) + 1))) ((g_RmRow g).1, upd (g_RmRow g).2 ((g_Rmarks g)).toNatClampNeg (-1)))) := hD
  refine lv_aload_n hx hb d_RRef_newMark_33 rfl (lv_at hl 0 rfl) ?_
  refine va_get (D := D) (ci := 6) (v := .ref (ad 10)) (C := R_RRef) (T := F_RRef) (N := 29) hx hb hts i_RRef hown hK hP 0 rfl rfl 15 (by decide) (hts _ wf_RRef_47) (fun _ h9 => h9) rfl d_RRef_newMark_34 ?_
  refine lv_aload_n hx hb d_RRef_newMark_37 rfl (lv_at hl 0 rfl) ?_
  refine va_get (D := D) (ci := 6) (v := .int (g_Rmarks g)) (C := R_RRef) (T := F_RRef) (N := 29) hx hb hts i_RRef hown hK hP 0 rfl rfl 20 (by decide) (hts _ wf_RRef_109) (fun _ h9 => h9) rfl d_RRef_newMark_38 ?_
  refine lv_iload_n hx hb d_RRef_newMark_41 rfl (lv_at hl 1 rfl) ?_
  obtain ⟨b3, hm⟩ := on hm
  refine va_iast hx hb hK hP hD hS 10 2 rfl rfl b3 d_RRef_newMark_42 (fun H locs hP hD hS => ?_)
  replace hP : va_P D classes (wl_Ref ca ad (s_RmCount (s_RmRow (s_RmNumber (s_RlastMark g ((g_RlastMark g) + 1)) ((g_RmNumber g).1, upd (g_RmNumber g).2 ((g_Rmarks g)).toNatClampNeg ((g_RlastMark g) + 1))) ((g_RmRow g).1, upd (g_RmRow g).2 ((g_Rmarks g)).toNatClampNeg (-1))) ((g_RmCount g).1, upd (g_RmCount g).2 ((g_Rmarks g)).toNatClampNeg p1))) H := hP
  replace hD : va_D A (wl_Ref ca ad (s_RmCount (s_RmRow (s_RmNumber (s_RlastMark g ((g_RlastMark g) + 1)) ((g_RmNumber g).1, upd (g_RmNumber g).2 ((g_Rmarks g)).toNatClampNeg ((g_RlastMark g) + 1))) ((g_RmRow g).1, upd (g_RmRow g).2 ((g_Rmarks g)).toNatClampNeg (-1))) ((g_RmCount g).1, upd (g_RmCount g).2 ((g_Rmarks g)).toNatClampNeg p1))) := hD
  refine lv_aload_n hx hb d_RRef_newMark_43 rfl (lv_at hl 0 rfl) ?_
  refine va_get (D := D) (ci := 6) (v := .ref (ad 11)) (C := R_RRef) (T := F_RRef) (N := 29) hx hb hts i_RRef hown hK hP 0 rfl rfl 16 (by decide) (hts _ wf_RRef_50) (fun _ h9 => h9) rfl d_RRef_newMark_44 ?_
  refine lv_aload_n hx hb d_RRef_newMark_47 rfl (lv_at hl 0 rfl) ?_
  refine va_get (D := D) (ci := 6) (v := .int (g_Rmarks g)) (C := R_RRef) (T := F_RRef) (N := 29) hx hb hts i_RRef hown hK hP 0 rfl rfl 20 (by decide) (hts _ wf_RRef_109) (fun _ h9 => h9) rfl d_RRef_newMark_48 ?_
  refine lv_lconst (v := 0) hx hb d_RRef_newMark_51 (by decide) ?_
  obtain ⟨b4, hm⟩ := on hm
  refine va_last hx hb hK hP hD hS 11 3 rfl rfl b4 d_RRef_newMark_52 (fun H locs hP hD hS => ?_)
  replace hP : va_P D classes (wl_Ref ca ad (s_RmDigest (s_RmCount (s_RmRow (s_RmNumber (s_RlastMark g ((g_RlastMark g) + 1)) ((g_RmNumber g).1, upd (g_RmNumber g).2 ((g_Rmarks g)).toNatClampNeg ((g_RlastMark g) + 1))) ((g_RmRow g).1, upd (g_RmRow g).2 ((g_Rmarks g)).toNatClampNeg (-1))) ((g_RmCount g).1, upd (g_RmCount g).2 ((g_Rmarks g)).toNatClampNeg p1)) ((g_RmDigest g).1, vp_updL (g_RmDigest g).2 ((g_Rmarks g)).toNatClampNeg 0))) H := hP
  replace hD : va_D A (wl_Ref ca ad (s_RmDigest (s_RmCount (s_RmRow (s_RmNumber (s_RlastMark g ((g_RlastMark g) + 1)) ((g_RmNumber g).1, upd (g_RmNumber g).2 ((g_Rmarks g)).toNatClampNeg ((g_RlastMark g) + 1))) ((g_RmRow g).1, upd (g_RmRow g).2 ((g_Rmarks g)).toNatClampNeg (-1))) ((g_RmCount g).1, upd (g_RmCount g).2 ((g_Rmarks g)).toNatClampNeg p1)) ((g_RmDigest g).1, vp_updL (g_RmDigest g).2 ((g_Rmarks g)).toNatClampNeg 0))) := hD
  refine lv_aload_n hx hb d_RRef_newMark_53 rfl (lv_at hl 0 rfl) ?_
  refine lv_dup hx hb d_RRef_newMark_54 rfl ?_
  refine va_get (D := D) (ci := 6) (v := .int (g_Rmarks g)) (C := R_RRef) (T := F_RRef) (N := 29) hx hb hts i_RRef hown hK hP 0 rfl rfl 20 (by decide) (hts _ wf_RRef_109) (fun _ h9 => h9) rfl d_RRef_newMark_55 ?_
  refine lv_iconst (v := 1) hx hb d_RRef_newMark_58 (by decide) ?_
  refine lv_iadd hx hb d_RRef_newMark_59 ?_
  refine va_put (D := D) (ci := 6) (v := .int ((g_Rmarks g) + 1)) (ty := .int) (C := R_RRef) (T := F_RRef) (N := 29) hx hb hts i_RRef t_RRef t_RRef_ok n_RRef hown hK hP hD hS 0 rfl rfl 20 (by decide) (hts _ wf_RRef_109) (fun _ h9 => h9) rfl (by decide +kernel) rfl rfl (Nat.le_of_ble_eq_true rfl) d_RRef_newMark_60 (fun H locs hP hD hS => ?_)
  replace hP : va_P D classes (wl_Ref ca ad (s_Rmarks (s_RmDigest (s_RmCount (s_RmRow (s_RmNumber (s_RlastMark g ((g_RlastMark g) + 1)) ((g_RmNumber g).1, upd (g_RmNumber g).2 ((g_Rmarks g)).toNatClampNeg ((g_RlastMark g) + 1))) ((g_RmRow g).1, upd (g_RmRow g).2 ((g_Rmarks g)).toNatClampNeg (-1))) ((g_RmCount g).1, upd (g_RmCount g).2 ((g_Rmarks g)).toNatClampNeg p1)) ((g_RmDigest g).1, vp_updL (g_RmDigest g).2 ((g_Rmarks g)).toNatClampNeg 0)) ((g_Rmarks g) + 1))) H := hP
  replace hD : va_D A (wl_Ref ca ad (s_Rmarks (s_RmDigest (s_RmCount (s_RmRow (s_RmNumber (s_RlastMark g ((g_RlastMark g) + 1)) ((g_RmNumber g).1, upd (g_RmNumber g).2 ((g_Rmarks g)).toNatClampNeg ((g_RlastMark g) + 1))) ((g_RmRow g).1, upd (g_RmRow g).2 ((g_Rmarks g)).toNatClampNeg (-1))) ((g_RmCount g).1, upd (g_RmCount g).2 ((g_Rmarks g)).toNatClampNeg p1)) ((g_RmDigest g).1, vp_updL (g_RmDigest g).2 ((g_Rmarks g)).toNatClampNeg 0)) ((g_Rmarks g) + 1))) := hD
  refine lv_aload_n hx hb d_RRef_newMark_63 rfl (lv_at hl 0 rfl) ?_
  refine va_get (D := D) (ci := 6) (v := .int ((g_RlastMark g) + 1)) (C := R_RRef) (T := F_RRef) (N := 29) hx hb hts i_RRef hown hK hP 0 rfl rfl 24 (by decide) (hts _ wf_RRef_153) (fun _ h9 => h9) rfl d_RRef_newMark_64 ?_
  cases hm
  exact ret_mi X hP hS d_RRef_newMark_67
set_option maxHeartbeats 4000000 in
set_option maxRecDepth 100000 in
theorem k_m_RRef_below_L4 {p : Program} {l : Launch} {e : Env} {s : State} {m : MethodId} {args : Array Value} {below : List Frame} {meth : Method} {c : Code} {D : va_G} {ca : Nat → ClassId} {ad : Nat → Nat} {A : Nat → Prop} (X : Cx p s m args meth c R_RRef b_RRef_below 4 (some .int) D ca) (hA : ∀ q, s.heap.size ≤ q → A q) {g : St_Ref} : ∀ (n : Nat) (v1 : Int32) (v2 : Int32) (v3 : Int32) (res : Int32), m_RRef_below_L4 g n v1 v2 v3 = some res → ∀ (H : Heap) (locs : List Loc), va_P D classes (wl_Ref ca ad g) H → va_D (fun _ => True) (wl_Ref ca ad g) → va_S A s.heap H locs → ∀ ls : Array Slot, lv_has ls 4 [(0, .ref (ad 0)), (1, .int v1), (2, .int v2), (3, .int v3)] → W p l e (RM 0 0) s m args below meth c H locs 0 0 (MQ below (QRr (.int res) A) args s 0 0 A) (F0 m 4 ls []) := by
  obtain ⟨hx, hb, hml, hr, hown, hts, hK, hlocks⟩ := id X
  intro n
  induction n with
  | zero =>
    intro v1 v2 v3 res hm
    rw [m_RRef_below_L4] at hm
    cases hm
  | succ n ih =>
    intro v1 v2 v3 res hm H locs hP hD hS ls hl
    rw [m_RRef_below_L4] at hm
    refine lv_iload_n hx hb d_RRef_below_4 rfl (lv_at hl 3 rfl) ?_
    refine lv_aload_n hx hb d_RRef_below_5 rfl (lv_at hl 0 rfl) ?_
    refine va_get (D := D) (ci := 6) (v := .int (g_Rparts g)) (C := R_RRef) (T := F_RRef) (N := 29) hx hb hts i_RRef hown hK hP 0 rfl rfl 12 (by decide) (hts _ wf_RRef_106) (fun _ h9 => h9) rfl d_RRef_below_6 ?_
    refine lv_icmp_ge (tgt := 49) hx hb d_RRef_below_9 (by decide) (fun c1 => ?_) (fun c1 => ?_)
    · replace hm := ip c1 hm
      refine lv_iload_n hx hb d_RRef_below_49 rfl (lv_at hl 2 rfl) ?_
      cases hm
      exact ret_ri X hS d_RRef_below_50
    · replace hm := ineg c1 hm
      refine lv_aload_n hx hb d_RRef_below_12 rfl (lv_at hl 0 rfl) ?_
      refine va_get (D := D) (ci := 6) (v := .ref (ad 3)) (C := R_RRef) (T := F_RRef) (N := 29) hx hb hts i_RRef hown hK hP 0 rfl rfl 7 (by decide) (hts _ wf_RRef_24) (fun _ h9 => h9) rfl d_RRef_below_13 ?_
      refine lv_iload_n hx hb d_RRef_below_16 rfl (lv_at hl 3 rfl) ?_
      obtain ⟨b2, hm⟩ := on hm
      refine va_iald hx hb hK hP 3 2 rfl rfl b2 d_RRef_below_17 ?_
      refine lv_iload_n hx hb d_RRef_below_18 rfl (lv_at hl 1 rfl) ?_
      refine lv_icmp_ge (tgt := 41) hx hb d_RRef_below_19 (by decide) (fun c3 => ?_) (fun c3 => ?_)
      · replace hm := ip c3 hm
        refine lv_iload_n hx hb d_RRef_below_41 rfl (lv_at hl 2 rfl) ?_
        refine lv_istore_n (lv' := [(2, .int v2), (0, .ref (ad 0)), (1, .int v1), (3, .int v3)]) hx hb d_RRef_below_42 rfl hl (by decide) rfl (fun ls hl => ?_)
        refine lv_iinc (v := (v3 + 1)) (lv' := [(3, .int (v3 + 1)), (2, .int v2), (0, .ref (ad 0)), (1, .int v1)]) hx hb d_RRef_below_43 hl (k := 3) rfl rfl (by decide) rfl (fun ls hl => ?_)
        refine lv_goto (tgt := 4) hx hb d_RRef_below_46 (by decide) ?_
        exact ih  v1 v2 (v3 + 1) _ hm _ _ hP hD hS ls (lv_sub hl [2, 3, 1, 0] rfl)
      · replace hm := ineg c3 hm
        refine lv_aload_n hx hb d_RRef_below_22 rfl (lv_at hl 0 rfl) ?_
        refine va_get (D := D) (ci := 6) (v := .ref (ad 3)) (C := R_RRef) (T := F_RRef) (N := 29) hx hb hts i_RRef hown hK hP 0 rfl rfl 7 (by decide) (hts _ wf_RRef_24) (fun _ h9 => h9) rfl d_RRef_below_23 ?_
        refine lv_iload_n hx hb d_RRef_below_26 rfl (lv_at hl 3 rfl) ?_
        obtain ⟨b4, hm⟩ := on hm
        refine va_iald hx hb hK hP 3 2 rfl rfl b4 d_RRef_below_27 ?_
        refine lv_iload_n hx hb d_RRef_below_28 rfl (lv_at hl 2 rfl) ?_
        refine lv_icmp_le (tgt := 41) hx hb d_RRef_below_29 (by decide) (fun c5 => ?_) (fun c5 => ?_)
        · replace hm := ip c5 hm
          refine lv_iload_n hx hb d_RRef_below_41 rfl (lv_at hl 2 rfl) ?_
          refine lv_istore_n (lv' := [(2, .int v2), (0, .ref (ad 0)), (1, .int v1), (3, .int v3)]) hx hb d_RRef_below_42 rfl hl (by decide) rfl (fun ls hl => ?_)
          refine lv_iinc (v := (v3 + 1)) (lv' := [(3, .int (v3 + 1)), (2, .int v2), (0, .ref (ad 0)), (1, .int v1)]) hx hb d_RRef_below_43 hl (k := 3) rfl rfl (by decide) rfl (fun ls hl => ?_)
          refine lv_goto (tgt := 4) hx hb d_RRef_below_46 (by decide) ?_
          exact ih  v1 v2 (v3 + 1) _ hm _ _ hP hD hS ls (lv_sub hl [2, 3, 1, 0] rfl)
        · replace hm := ineg c5 hm
          refine lv_aload_n hx hb d_RRef_below_32 rfl (lv_at hl 0 rfl) ?_
          refine va_get (D := D) (ci := 6) (v := .ref (ad 3)) (C := R_RRef) (T := F_RRef) (N := 29) hx hb hts i_RRef hown hK hP 0 rfl rfl 7 (by decide) (hts _ wf_RRef_24) (fun _ h9 => h9) rfl d_RRef_below_33 ?_
          refine lv_iload_n hx hb d_RRef_below_36 rfl (lv_at hl 3 rfl) ?_
          obtain ⟨b6, hm⟩ := on hm
          refine va_iald hx hb hK hP 3 2 rfl rfl b6 d_RRef_below_37 ?_
          refine lv_goto (tgt := 42) hx hb d_RRef_below_38 (by decide) ?_
          refine lv_istore_n (lv' := [(2, .int ((g_RpNumber g).2 (v3).toNatClampNeg)), (0, .ref (ad 0)), (1, .int v1), (3, .int v3)]) hx hb d_RRef_below_42 rfl hl (by decide) rfl (fun ls hl => ?_)
          refine lv_iinc (v := (v3 + 1)) (lv' := [(3, .int (v3 + 1)), (2, .int ((g_RpNumber g).2 (v3).toNatClampNeg)), (0, .ref (ad 0)), (1, .int v1)]) hx hb d_RRef_below_43 hl (k := 3) rfl rfl (by decide) rfl (fun ls hl => ?_)
          refine lv_goto (tgt := 4) hx hb d_RRef_below_46 (by decide) ?_
          exact ih  v1 ((g_RpNumber g).2 (v3).toNatClampNeg) (v3 + 1) _ hm _ _ hP hD hS ls (lv_sub hl [2, 3, 1, 0] rfl)
set_option maxHeartbeats 4000000 in
set_option maxRecDepth 100000 in
theorem c_RRef_below (l : Launch) (D : va_G) (ca : Nat → ClassId) (ad : Nat → Nat) (sz : Nat) (g : St_Ref) (p1 : Int32) (res : Int32) (hm : m_RRef_below g p1 = some res) : Met l y_RRef_below (cws y_RRef_below b_RRef_below 4 (some .int)) (RM 0 0) (PreW D ca (wl_Ref ca ad g) [.ref (ad 0), .int p1] sz) (QRr (.int res) (va_A [] sz)) 0 0 (va_A [] sz) := by
  refine met_ofR (own := R_RRef) (by decide) rfl (Nat.le_of_ble_eq_true rfl) ?_
  intro p e s m below meth c A X hA hP hD ls hl
  obtain ⟨hx, hb, hml, hr, hown, hts, hK, hlocks⟩ := id X
  have hS : va_S A s.heap s.heap [] := va_S.rf
  have hl : lv_has ls 4 [(0, .ref (ad 0)), (1, .int p1)] := hl
  unfold m_RRef_below at hm
  refine lv_iconst (v := 0) hx hb d_RRef_below_0 (by decide) ?_
  refine lv_istore_n (lv' := [(2, .int 0), (0, .ref (ad 0)), (1, .int p1)]) hx hb d_RRef_below_1 rfl hl (by decide) rfl (fun ls hl => ?_)
  refine lv_iconst (v := 0) hx hb d_RRef_below_2 (by decide) ?_
  refine lv_istore_n (lv' := [(3, .int 0), (2, .int 0), (0, .ref (ad 0)), (1, .int p1)]) hx hb d_RRef_below_3 rfl hl (by decide) rfl (fun ls hl => ?_)
  exact k_m_RRef_below_L4 X hA FU  p1 0 0 _ hm _ _ hP hD hS ls (lv_sub hl [2, 3, 1, 0] rfl)
set_option maxHeartbeats 4000000 in
set_option maxRecDepth 100000 in
theorem k_m_RRef_mark_L62 {p : Program} {l : Launch} {e : Env} {s : State} {m : MethodId} {args : Array Value} {below : List Frame} {meth : Method} {c : Code} {D : va_G} {ca : Nat → ClassId} {ad : Nat → Nat} {A : Nat → Prop} (X : Cx p s m args meth c R_RRef b_RRef_mark 4 (some .int) D ca) (hA : ∀ q, s.heap.size ≤ q → A q)  : ∀ (n : Nat) (g : St_Ref) (v1 : Int32) (v2 : Int32) (v3 : Int32) (res : Int32 × St_Ref), m_RRef_mark_L62  n g v1 v2 v3 = some res → ∀ (H : Heap) (locs : List Loc), va_P D classes (wl_Ref ca ad g) H → va_D A (wl_Ref ca ad g) → va_S A s.heap H locs → ∀ ls : Array Slot, lv_has ls 4 [(0, .ref (ad 0)), (1, .int v1), (2, .int v2), (3, .int v3)] → W p l e (RM 1 23) s m args below meth c H locs 0 0 (MQ below (QRm D (some (.int res.1)) (wl_Ref ca ad res.2) A) args s 0 0 A) (F0 m 62 ls []) := by
  obtain ⟨hx, hb, hml, hr, hown, hts, hK, hlocks⟩ := id X
  intro n
  induction n with
  | zero =>
    intro g v1 v2 v3 res hm
    rw [m_RRef_mark_L62] at hm
    cases hm
  | succ n ih =>
    intro g v1 v2 v3 res hm H locs hP hD hS ls hl
    rw [m_RRef_mark_L62] at hm
    refine lv_iload_n hx hb d_RRef_mark_62 rfl (lv_at hl 3 rfl) ?_
    refine lv_if_lt (tgt := 93) hx hb d_RRef_mark_63 (by decide) (fun c8 => ?_) (fun c8 => ?_)
    · replace hm := ip c8 hm
      refine lv_aload_n hx hb d_RRef_mark_93 rfl (lv_at hl 0 rfl) ?_
      refine lv_iload_n hx hb d_RRef_mark_94 rfl (lv_at hl 1 rfl) ?_
      obtain ⟨q9, hq9, hm⟩ := ob hm
      refine inv_mVa (C := R_RRef) (As := [.int v1]) (rest := []) (v := .int q9.1) X (c_RRef_newMark l D ca ad _ g v1 q9 hq9) g_RRef_204 yo_RRef_newMark ⟨Nat.le_of_ble_eq_true rfl, Nat.le_of_ble_eq_true rfl⟩ hl hP hD rfl (ci := 6) rfl rfl hS hA rfl rfl (Nat.le_of_ble_eq_true rfl) ⟨Nat.zero_le _, Nat.zero_le _⟩ d_RRef_mark_95 (fun H locs hP hD hS => ?_)
      cases hm
      exact ret_mi X hP hS d_RRef_mark_98
    · replace hm := ineg c8 hm
      refine lv_aload_n hx hb d_RRef_mark_66 rfl (lv_at hl 0 rfl) ?_
      refine lv_iload_n hx hb d_RRef_mark_67 rfl (lv_at hl 2 rfl) ?_
      obtain ⟨q10, hq10, hm⟩ := ob hm
      refine inv_rVa (C := R_RRef) (As := [.int v2]) (rest := []) (v := .int q10) X (c_RRef_below l D ca ad _ g v2 q10 hq10) g_RRef_201 yo_RRef_below ⟨Nat.le_of_ble_eq_true rfl, Nat.le_of_ble_eq_true rfl⟩ hl hP hD (ci := 6) rfl rfl hS hA rfl rfl (Nat.le_of_ble_eq_true rfl) ⟨Nat.zero_le _, Nat.zero_le _⟩ d_RRef_mark_68 (fun H locs hP hS => ?_)
      refine lv_istore_n (lv' := [(2, .int q10), (0, .ref (ad 0)), (1, .int v1), (3, .int v3)]) hx hb d_RRef_mark_71 rfl hl (by decide) rfl (fun ls hl => ?_)
      refine lv_aload_n hx hb d_RRef_mark_72 rfl (lv_at hl 1 rfl) ?_
      refine va_get (D := D) (ci := 6) (v := .ref (ad 12)) (C := R_RRef) (T := F_RRef) (N := 29) hx hb hts i_RRef hown hK hP 0 rfl rfl 17 (by decide) (hts _ wf_RRef_53) (fun _ h9 => h9) rfl d_RRef_mark_73 ?_
      refine lv_bipush (v := 12) hx hb d_RRef_mark_76 (by decide) ?_
      refine lv_aload_n hx hb d_RRef_mark_78 rfl (lv_at hl 1 rfl) ?_
      refine va_get (D := D) (ci := 6) (v := .int (g_Rmarks g)) (C := R_RRef) (T := F_RRef) (N := 29) hx hb hts i_RRef hown hK hP 0 rfl rfl 20 (by decide) (hts _ wf_RRef_109) (fun _ h9 => h9) rfl d_RRef_mark_79 ?_
      refine lv_imul hx hb d_RRef_mark_82 ?_
      refine lv_iload_n hx hb d_RRef_mark_83 rfl (lv_at hl 3 rfl) ?_
      refine lv_iadd hx hb d_RRef_mark_84 ?_
      refine lv_iload_n hx hb d_RRef_mark_85 rfl (lv_at hl 0 rfl) ?_
      obtain ⟨b11, hm⟩ := on hm
      refine va_iast hx hb hK hP hD hS 12 2 rfl rfl b11 d_RRef_mark_86 (fun H locs hP hD hS => ?_)
      replace hP : va_P D classes (wl_Ref ca ad (s_RmPart g ((g_RmPart g).1, upd (g_RmPart g).2 (((12 * (g_Rmarks g)) + v3)).toNatClampNeg q10))) H := hP
      replace hD : va_D A (wl_Ref ca ad (s_RmPart g ((g_RmPart g).1, upd (g_RmPart g).2 (((12 * (g_Rmarks g)) + v3)).toNatClampNeg q10))) := hD
      refine lv_iinc (v := (v3 + (-1))) (lv' := [(3, .int (v3 + (-1))), (2, .int q10), (0, .ref (ad 0)), (1, .int v1)]) hx hb d_RRef_mark_87 hl (k := 3) rfl rfl (by decide) rfl (fun ls hl => ?_)
      refine lv_goto (tgt := 62) hx hb d_RRef_mark_90 (by decide) ?_
      exact ih (s_RmPart g ((g_RmPart g).1, upd (g_RmPart g).2 (((12 * (g_Rmarks g)) + v3)).toNatClampNeg q10)) v1 q10 (v3 + (-1)) _ hm _ _ hP hD hS ls (lv_sub hl [2, 3, 1, 0] rfl)
set_option maxHeartbeats 4000000 in
set_option maxRecDepth 100000 in
theorem c_RRef_mark (l : Launch) (D : va_G) (ca : Nat → ClassId) (ad : Nat → Nat) (sz : Nat) (g : St_Ref) (p1 : Int32) (res : Int32 × St_Ref) (hm : m_RRef_mark g p1 = some res) : Met l y_RRef_mark (cws y_RRef_mark b_RRef_mark 4 (some .int)) (RM 1 23) (PreW D ca (wl_Ref ca ad g) [.ref (ad 0), .int p1] sz) (QRm D (some (.int res.1)) (wl_Ref ca ad res.2) (va_A (wl_Ref ca ad g) sz)) 0 0 (va_A (wl_Ref ca ad g) sz) := by
  refine met_ofM (own := R_RRef) (by decide) rfl (Nat.le_of_ble_eq_true rfl) ?_
  intro p e s m below meth c A X hA hP hD ls hl
  obtain ⟨hx, hb, hml, hr, hown, hts, hK, hlocks⟩ := id X
  have hS : va_S A s.heap s.heap [] := va_S.rf
  have hl : lv_has ls 4 [(0, .ref (ad 0)), (1, .int p1)] := hl
  unfold m_RRef_mark at hm
  refine lv_aload_n hx hb d_RRef_mark_0 rfl (lv_at hl 0 rfl) ?_
  refine va_get (D := D) (ci := 6) (v := .int (g_Ropen g)) (C := R_RRef) (T := F_RRef) (N := 29) hx hb hts i_RRef hown hK hP 0 rfl rfl 2 (by decide) (hts _ wf_RRef_13) (fun _ h9 => h9) rfl d_RRef_mark_1 ?_
  refine lv_if_ne (tgt := 10) hx hb d_RRef_mark_4 (by decide) (fun c1 => ?_) (fun c1 => ?_)
  · replace hm := ineg c1 hm
    refine lv_iload_n hx hb d_RRef_mark_10 rfl (lv_at hl 1 rfl) ?_
    refine lv_iconst (v := 1) hx hb d_RRef_mark_11 (by decide) ?_
    refine lv_bipush (v := 12) hx hb d_RRef_mark_12 (by decide) ?_
    obtain ⟨q2, hq2, hm⟩ := ob hm
    refine inv_rS (As := [.int p1, .int 1, .int 12]) (rest := []) (v := .int q2) X (c_RRef_isIn l D ca  _ p1 1 12 q2 hq2) g_RRef_172 yo_RRef_isIn ⟨Nat.le_of_ble_eq_true rfl, Nat.le_of_ble_eq_true rfl⟩ hl hP hD [] rfl rfl hS hA rfl rfl (Nat.le_of_ble_eq_true rfl) ⟨Nat.zero_le _, Nat.zero_le _⟩ d_RRef_mark_14 (fun H locs hP hS => ?_)
    refine lv_if_ne (tgt := 23) hx hb d_RRef_mark_17 (by decide) (fun c3 => ?_) (fun c3 => ?_)
    · replace hm := ineg c3 hm
      refine lv_aload_n hx hb d_RRef_mark_23 rfl (lv_at hl 0 rfl) ?_
      refine va_get (D := D) (ci := 6) (v := .int (g_Rparts g)) (C := R_RRef) (T := F_RRef) (N := 29) hx hb hts i_RRef hown hK hP 0 rfl rfl 12 (by decide) (hts _ wf_RRef_106) (fun _ h9 => h9) rfl d_RRef_mark_24 ?_
      refine lv_iload_n hx hb d_RRef_mark_27 rfl (lv_at hl 1 rfl) ?_
      refine lv_icmp_ge (tgt := 33) hx hb d_RRef_mark_28 (by decide) (fun c4 => ?_) (fun c4 => ?_)
      · replace hm := ip c4 hm
        refine lv_aload_n hx hb d_RRef_mark_33 rfl (lv_at hl 0 rfl) ?_
        refine lv_iconst (v := 0) hx hb d_RRef_mark_34 (by decide) ?_
        obtain ⟨q5, hq5, hm⟩ := ob hm
        refine inv_rVa (C := R_RRef) (As := [.int 0]) (rest := []) (v := .int q5) X (c_RRef_count l D ca ad _ g 0 q5 hq5) g_RRef_196 yo_RRef_count ⟨Nat.le_of_ble_eq_true rfl, Nat.le_of_ble_eq_true rfl⟩ hl hP hD (ci := 6) rfl rfl hS hA rfl rfl (Nat.le_of_ble_eq_true rfl) ⟨Nat.zero_le _, Nat.zero_le _⟩ d_RRef_mark_35 (fun H locs hP hS => ?_)
        refine lv_bipush (v := 6) hx hb d_RRef_mark_38 (by decide) ?_
        refine lv_icmp_eq (tgt := 52) hx hb d_RRef_mark_40 (by decide) (fun c6 => ?_) (fun c6 => ?_)
        · replace hm := ip c6 hm
          refine lv_bipush (v := (-4)) hx hb d_RRef_mark_52 (by decide) ?_
          cases hm
          exact ret_mi X hP hS d_RRef_mark_54
        · replace hm := ineg c6 hm
          refine lv_aload_n hx hb d_RRef_mark_43 rfl (lv_at hl 0 rfl) ?_
          refine va_get (D := D) (ci := 6) (v := .int (g_RlastMark g)) (C := R_RRef) (T := F_RRef) (N := 29) hx hb hts i_RRef hown hK hP 0 rfl rfl 24 (by decide) (hts _ wf_RRef_153) (fun _ h9 => h9) rfl d_RRef_mark_44 ?_
          refine lv_ldc hx hb hown (hts _ wc_RRef_191) d_RRef_mark_47 ?_
          refine lv_icmp_ne (tgt := 55) hx hb d_RRef_mark_49 (by decide) (fun c7 => ?_) (fun c7 => ?_)
          · replace hm := ineg c7 hm
            refine lv_ldc hx hb hown (hts _ wc_RRef_200) d_RRef_mark_55 ?_
            refine lv_istore_n (lv' := [(2, .int 1000000001), (0, .ref (ad 0)), (1, .int p1)]) hx hb d_RRef_mark_57 rfl hl (by decide) rfl (fun ls hl => ?_)
            refine lv_iload_n hx hb d_RRef_mark_58 rfl (lv_at hl 2 rfl) ?_
            refine lv_iconst (v := 1) hx hb d_RRef_mark_59 (by decide) ?_
            refine lv_isub hx hb d_RRef_mark_60 ?_
            refine lv_istore_n (lv' := [(3, .int (p1 - 1)), (2, .int 1000000001), (0, .ref (ad 0)), (1, .int p1)]) hx hb d_RRef_mark_61 rfl hl (by decide) rfl (fun ls hl => ?_)
            exact k_m_RRef_mark_L62 X hA FU g p1 1000000001 (p1 - 1) _ hm _ _ hP hD hS ls (lv_sub hl [2, 3, 1, 0] rfl)
          · replace hm := ip c7 hm
            refine lv_bipush (v := (-4)) hx hb d_RRef_mark_52 (by decide) ?_
            cases hm
            exact ret_mi X hP hS d_RRef_mark_54
      · replace hm := ineg c4 hm
        refine lv_iconst (v := (-1)) hx hb d_RRef_mark_31 (by decide) ?_
        cases hm
        exact ret_mi X hP hS d_RRef_mark_32
    · replace hm := ip c3 hm
      refine lv_bipush (v := (-2)) hx hb d_RRef_mark_20 (by decide) ?_
      cases hm
      exact ret_mi X hP hS d_RRef_mark_22
  · replace hm := ip c1 hm
    refine lv_bipush (v := (-3)) hx hb d_RRef_mark_7 (by decide) ?_
    cases hm
    exact ret_mi X hP hS d_RRef_mark_9
set_option maxHeartbeats 4000000 in
set_option maxRecDepth 100000 in
theorem k_m_RRef_keep_L72 {p : Program} {l : Launch} {e : Env} {s : State} {m : MethodId} {args : Array Value} {below : List Frame} {meth : Method} {c : Code} {D : va_G} {ca : Nat → ClassId} {ad : Nat → Nat} {A : Nat → Prop} (X : Cx p s m args meth c R_RRef b_RRef_keep 8 (some .int) D ca) (hA : ∀ q, s.heap.size ≤ q → A q)  : ∀ (n : Nat) (g : St_Ref) (v1 : Int32) (v2 : Int32) (v3 : Int32) (v4 : Int32) (v5 : Int32) (res : Int32 × St_Ref), m_RRef_keep_L72  n g v1 v2 v3 v4 v5 = some res → ∀ (H : Heap) (locs : List Loc), va_P D classes (wl_Ref ca ad g) H → va_D A (wl_Ref ca ad g) → va_S A s.heap H locs → ∀ ls : Array Slot, lv_has ls 8 [(0, .ref (ad 0)), (1, .int v1), (2, .int v2), (3, .int v3), (4, .int v4), (5, .int v5)] → W p l e (RM 2 47) s m args below meth c H locs 0 0 (MQ below (QRm D (some (.int res.1)) (wl_Ref ca ad res.2) A) args s 0 0 A) (F0 m 72 ls []) := by
  obtain ⟨hx, hb, hml, hr, hown, hts, hK, hlocks⟩ := id X
  intro n
  induction n with
  | zero =>
    intro g v1 v2 v3 v4 v5 res hm
    rw [m_RRef_keep_L72] at hm
    cases hm
  | succ n ih =>
    intro g v1 v2 v3 v4 v5 res hm H locs hP hD hS ls hl
    rw [m_RRef_keep_L72] at hm
    refine lv_iload hx hb d_RRef_keep_72 (lv_at hl 5 rfl) ?_
    refine lv_aload_n hx hb d_RRef_keep_74 rfl (lv_at hl 0 rfl) ?_
    refine va_get (D := D) (ci := 6) (v := .ref (ad 10)) (C := R_RRef) (T := F_RRef) (N := 29) hx hb hts i_RRef hown hK hP 0 rfl rfl 15 (by decide) (hts _ wf_RRef_47) (fun _ h9 => h9) rfl d_RRef_keep_75 ?_
    refine lv_iload_n hx hb d_RRef_keep_78 rfl (lv_at hl 2 rfl) ?_
    obtain ⟨b12, hm⟩ := on hm
    refine va_iald hx hb hK hP 10 2 rfl rfl b12 d_RRef_keep_79 ?_
    refine lv_icmp_ge (tgt := 248) hx hb d_RRef_keep_80 (by decide) (fun c13 => ?_) (fun c13 => ?_)
    · replace hm := ip c13 hm
      refine lv_aload_n hx hb d_RRef_keep_248 rfl (lv_at hl 0 rfl) ?_
      refine va_get (D := D) (ci := 6) (v := .ref (ad 11)) (C := R_RRef) (T := F_RRef) (N := 29) hx hb hts i_RRef hown hK hP 0 rfl rfl 16 (by decide) (hts _ wf_RRef_50) (fun _ h9 => h9) rfl d_RRef_keep_249 ?_
      refine lv_iload_n hx hb d_RRef_keep_252 rfl (lv_at hl 2 rfl) ?_
      refine lv_aload_n hx hb d_RRef_keep_253 rfl (lv_at hl 0 rfl) ?_
      refine va_get (D := D) (ci := 6) (v := .ref (ad 17)) (C := R_RRef) (T := F_RRef) (N := 29) hx hb hts i_RRef hown hK hP 0 rfl rfl 26 (by decide) (hts _ wf_RRef_69) (fun _ h9 => h9) rfl d_RRef_keep_254 ?_
      refine lv_bipush (v := 32) hx hb d_RRef_keep_257 (by decide) ?_
      refine lv_bipush (v := 32) hx hb d_RRef_keep_259 (by decide) ?_
      refine lv_iload_n hx hb d_RRef_keep_261 rfl (lv_at hl 3 rfl) ?_
      refine lv_imul hx hb d_RRef_keep_262 ?_
      obtain ⟨q14, hq14, hm⟩ := ob hm
      refine inv_rS (As := [.ref (ad 17), .int 32, .int (32 * v3)]) (rest := [.int v2, .ref (ad 11)]) (v := .long q14) X (c_RRef_digest l D ca (ad 17) _ (g_Rdraft g) 32 (32 * v3) q14 hq14) g_RRef_89 yo_RRef_digest ⟨Nat.le_of_ble_eq_true rfl, Nat.le_of_ble_eq_true rfl⟩ hl hP hD [17] rfl rfl hS hA rfl rfl (Nat.le_of_ble_eq_true rfl) ⟨Nat.zero_le _, Nat.zero_le _⟩ d_RRef_keep_263 (fun H locs hP hS => ?_)
      obtain ⟨b15, hm⟩ := on hm
      refine va_last hx hb hK hP hD hS 11 3 rfl rfl b15 d_RRef_keep_266 (fun H locs hP hD hS => ?_)
      replace hP : va_P D classes (wl_Ref ca ad (s_RmDigest g ((g_RmDigest g).1, vp_updL (g_RmDigest g).2 (v2).toNatClampNeg q14))) H := hP
      replace hD : va_D A (wl_Ref ca ad (s_RmDigest g ((g_RmDigest g).1, vp_updL (g_RmDigest g).2 (v2).toNatClampNeg q14))) := hD
      refine lv_aload_n hx hb d_RRef_keep_267 rfl (lv_at hl 0 rfl) ?_
      refine va_get (D := D) (ci := 6) (v := .ref (ad 17)) (C := R_RRef) (T := F_RRef) (N := 29) hx hb hts i_RRef hown hK hP 0 rfl rfl 26 (by decide) (hts _ wf_RRef_69) (fun _ h9 => h9) rfl d_RRef_keep_268 ?_
      refine lv_iconst (v := 0) hx hb d_RRef_keep_271 (by decide) ?_
      refine lv_iconst (v := 2) hx hb d_RRef_keep_272 (by decide) ?_
      obtain ⟨b16, hm⟩ := on hm
      refine va_bast hx hb hK hP hD hS 17 0 rfl rfl b16 d_RRef_keep_273 (fun H locs hP hD hS => ?_)
      replace hP : va_P D classes (wl_Ref ca ad (s_Rdraft (s_RmDigest g ((g_RmDigest g).1, vp_updL (g_RmDigest g).2 (v2).toNatClampNeg q14)) ((g_Rdraft g).1, upd (g_Rdraft g).2 (0 : Int32).toNatClampNeg (vp_nar .byte 2)))) H := hP
      replace hD : va_D A (wl_Ref ca ad (s_Rdraft (s_RmDigest g ((g_RmDigest g).1, vp_updL (g_RmDigest g).2 (v2).toNatClampNeg q14)) ((g_Rdraft g).1, upd (g_Rdraft g).2 (0 : Int32).toNatClampNeg (vp_nar .byte 2)))) := hD
      refine lv_aload_n hx hb d_RRef_keep_274 rfl (lv_at hl 0 rfl) ?_
      refine va_get (D := D) (ci := 6) (v := .ref (ad 17)) (C := R_RRef) (T := F_RRef) (N := 29) hx hb hts i_RRef hown hK hP 0 rfl rfl 26 (by decide) (hts _ wf_RRef_69) (fun _ h9 => h9) rfl d_RRef_keep_275 ?_
      refine lv_iconst (v := 1) hx hb d_RRef_keep_278 (by decide) ?_
      refine lv_aload_n hx hb d_RRef_keep_279 rfl (lv_at hl 0 rfl) ?_
      refine va_get (D := D) (ci := 6) (v := .ref (ad 10)) (C := R_RRef) (T := F_RRef) (N := 29) hx hb hts i_RRef hown hK hP 0 rfl rfl 15 (by decide) (hts _ wf_RRef_47) (fun _ h9 => h9) rfl d_RRef_keep_280 ?_
      refine lv_iload_n hx hb d_RRef_keep_283 rfl (lv_at hl 2 rfl) ?_
      obtain ⟨b17, hm⟩ := on hm
      refine va_iald hx hb hK hP 10 2 rfl rfl b17 d_RRef_keep_284 ?_
      refine lv_i2b (v := ((((g_RmCount g).2 (v2).toNatClampNeg)).toInt8.toInt32)) hx hb d_RRef_keep_285 rfl ?_
      obtain ⟨b18, hm⟩ := on hm
      refine va_bast hx hb hK hP hD hS 17 0 rfl rfl b18 d_RRef_keep_286 (fun H locs hP hD hS => ?_)
      replace hP : va_P D classes (wl_Ref ca ad (s_Rdraft (s_Rdraft (s_RmDigest g ((g_RmDigest g).1, vp_updL (g_RmDigest g).2 (v2).toNatClampNeg q14)) ((g_Rdraft g).1, upd (g_Rdraft g).2 (0 : Int32).toNatClampNeg (vp_nar .byte 2))) (((g_Rdraft g).1, upd (g_Rdraft g).2 (0 : Int32).toNatClampNeg (vp_nar .byte 2)).1, upd ((g_Rdraft g).1, upd (g_Rdraft g).2 (0 : Int32).toNatClampNeg (vp_nar .byte 2)).2 (1 : Int32).toNatClampNeg (vp_nar .byte ((((g_RmCount g).2 (v2).toNatClampNeg)).toInt8.toInt32))))) H := hP
      replace hD : va_D A (wl_Ref ca ad (s_Rdraft (s_Rdraft (s_RmDigest g ((g_RmDigest g).1, vp_updL (g_RmDigest g).2 (v2).toNatClampNeg q14)) ((g_Rdraft g).1, upd (g_Rdraft g).2 (0 : Int32).toNatClampNeg (vp_nar .byte 2))) (((g_Rdraft g).1, upd (g_Rdraft g).2 (0 : Int32).toNatClampNeg (vp_nar .byte 2)).1, upd ((g_Rdraft g).1, upd (g_Rdraft g).2 (0 : Int32).toNatClampNeg (vp_nar .byte 2)).2 (1 : Int32).toNatClampNeg (vp_nar .byte ((((g_RmCount g).2 (v2).toNatClampNeg)).toInt8.toInt32))))) := hD
      refine lv_aload_n hx hb d_RRef_keep_287 rfl (lv_at hl 0 rfl) ?_
      refine va_get (D := D) (ci := 6) (v := .ref (ad 17)) (C := R_RRef) (T := F_RRef) (N := 29) hx hb hts i_RRef hown hK hP 0 rfl rfl 26 (by decide) (hts _ wf_RRef_69) (fun _ h9 => h9) rfl d_RRef_keep_288 ?_
      refine lv_iconst (v := 4) hx hb d_RRef_keep_291 (by decide) ?_
      refine lv_iconst (v := 4) hx hb d_RRef_keep_292 (by decide) ?_
      refine lv_iload_n hx hb d_RRef_keep_293 rfl (lv_at hl 1 rfl) ?_
      refine lv_i2l (v := ((v1).toInt64)) hx hb d_RRef_keep_294 rfl ?_
      obtain ⟨q19, hq19, hm⟩ := ob hm
      refine inv_mS (As := [.ref (ad 17), .int 4, .int 4, .long ((v1).toInt64)]) (rest := []) (ws' := wl_Ref ca ad (s_Rdraft (s_Rdraft (s_Rdraft (s_RmDigest g ((g_RmDigest g).1, vp_updL (g_RmDigest g).2 (v2).toNatClampNeg q14)) ((g_Rdraft g).1, upd (g_Rdraft g).2 (0 : Int32).toNatClampNeg (vp_nar .byte 2))) (((g_Rdraft g).1, upd (g_Rdraft g).2 (0 : Int32).toNatClampNeg (vp_nar .byte 2)).1, upd ((g_Rdraft g).1, upd (g_Rdraft g).2 (0 : Int32).toNatClampNeg (vp_nar .byte 2)).2 (1 : Int32).toNatClampNeg (vp_nar .byte ((((g_RmCount g).2 (v2).toNatClampNeg)).toInt8.toInt32)))) q19)) X (c_RRef_put l D ca (ad 17) _ (((g_Rdraft g).1, upd (g_Rdraft g).2 (0 : Int32).toNatClampNeg (vp_nar .byte 2)).1, upd ((g_Rdraft g).1, upd (g_Rdraft g).2 (0 : Int32).toNatClampNeg (vp_nar .byte 2)).2 (1 : Int32).toNatClampNeg (vp_nar .byte ((((g_RmCount g).2 (v2).toNatClampNeg)).toInt8.toInt32))) 4 4 ((v1).toInt64) q19 hq19) g_RRef_102 yo_RRef_put ⟨Nat.le_of_ble_eq_true rfl, Nat.le_of_ble_eq_true rfl⟩ hl hP hD [17] rfl rfl rfl rfl hS hA rfl rfl (Nat.le_of_ble_eq_true rfl) ⟨Nat.zero_le _, Nat.zero_le _⟩ d_RRef_keep_295 (fun H locs hP hD hS => ?_)
      refine lv_aload_n hx hb d_RRef_keep_298 rfl (lv_at hl 0 rfl) ?_
      refine va_get (D := D) (ci := 6) (v := .ref (ad 17)) (C := R_RRef) (T := F_RRef) (N := 29) hx hb hts i_RRef hown hK hP 0 rfl rfl 26 (by decide) (hts _ wf_RRef_69) (fun _ h9 => h9) rfl d_RRef_keep_299 ?_
      refine lv_bipush (v := 8) hx hb d_RRef_keep_302 (by decide) ?_
      refine lv_bipush (v := 8) hx hb d_RRef_keep_304 (by decide) ?_
      refine lv_aload_n hx hb d_RRef_keep_306 rfl (lv_at hl 0 rfl) ?_
      refine va_get (D := D) (ci := 6) (v := .ref (ad 11)) (C := R_RRef) (T := F_RRef) (N := 29) hx hb hts i_RRef hown hK hP 0 rfl rfl 16 (by decide) (hts _ wf_RRef_50) (fun _ h9 => h9) rfl d_RRef_keep_307 ?_
      refine lv_iload_n hx hb d_RRef_keep_310 rfl (lv_at hl 2 rfl) ?_
      obtain ⟨b20, hm⟩ := on hm
      refine va_lald hx hb hK hP 11 3 rfl rfl b20 d_RRef_keep_311 ?_
      obtain ⟨q21, hq21, hm⟩ := ob hm
      refine inv_mS (As := [.ref (ad 17), .int 8, .int 8, .long (((g_RmDigest g).1, vp_updL (g_RmDigest g).2 (v2).toNatClampNeg q14).2 (v2).toNatClampNeg)]) (rest := []) (ws' := wl_Ref ca ad (s_Rdraft (s_Rdraft (s_Rdraft (s_Rdraft (s_RmDigest g ((g_RmDigest g).1, vp_updL (g_RmDigest g).2 (v2).toNatClampNeg q14)) ((g_Rdraft g).1, upd (g_Rdraft g).2 (0 : Int32).toNatClampNeg (vp_nar .byte 2))) (((g_Rdraft g).1, upd (g_Rdraft g).2 (0 : Int32).toNatClampNeg (vp_nar .byte 2)).1, upd ((g_Rdraft g).1, upd (g_Rdraft g).2 (0 : Int32).toNatClampNeg (vp_nar .byte 2)).2 (1 : Int32).toNatClampNeg (vp_nar .byte ((((g_RmCount g).2 (v2).toNatClampNeg)).toInt8.toInt32)))) q19) q21)) X (c_RRef_put l D ca (ad 17) _ q19 8 8 (((g_RmDigest g).1, vp_updL (g_RmDigest g).2 (v2).toNatClampNeg q14).2 (v2).toNatClampNeg) q21 hq21) g_RRef_102 yo_RRef_put ⟨Nat.le_of_ble_eq_true rfl, Nat.le_of_ble_eq_true rfl⟩ hl hP hD [17] rfl rfl rfl rfl hS hA rfl rfl (Nat.le_of_ble_eq_true rfl) ⟨Nat.zero_le _, Nat.zero_le _⟩ d_RRef_keep_312 (fun H locs hP hD hS => ?_)
      refine lv_aload_n hx hb d_RRef_keep_315 rfl (lv_at hl 0 rfl) ?_
      obtain ⟨q22, hq22, hm⟩ := ob hm
      refine inv_mUa (C := R_RRef) (As := []) (rest := []) X (c_RRef_sumDraft l D ca ad _ (s_Rdraft (s_Rdraft (s_Rdraft (s_Rdraft (s_RmDigest g ((g_RmDigest g).1, vp_updL (g_RmDigest g).2 (v2).toNatClampNeg q14)) ((g_Rdraft g).1, upd (g_Rdraft g).2 (0 : Int32).toNatClampNeg (vp_nar .byte 2))) (((g_Rdraft g).1, upd (g_Rdraft g).2 (0 : Int32).toNatClampNeg (vp_nar .byte 2)).1, upd ((g_Rdraft g).1, upd (g_Rdraft g).2 (0 : Int32).toNatClampNeg (vp_nar .byte 2)).2 (1 : Int32).toNatClampNeg (vp_nar .byte ((((g_RmCount g).2 (v2).toNatClampNeg)).toInt8.toInt32)))) q19) q21) q22 hq22) g_RRef_179 yo_RRef_sumDraft ⟨Nat.le_of_ble_eq_true rfl, Nat.le_of_ble_eq_true rfl⟩ hl hP hD rfl (ci := 6) rfl rfl hS hA rfl rfl (Nat.le_of_ble_eq_true rfl) ⟨Nat.zero_le _, Nat.zero_le _⟩ d_RRef_keep_316 (fun H locs hP hD hS => ?_)
      refine lv_aload_n hx hb d_RRef_keep_319 rfl (lv_at hl 0 rfl) ?_
      refine lv_iload hx hb d_RRef_keep_320 (lv_at hl 4 rfl) ?_
      refine lv_iconst (v := 1) hx hb d_RRef_keep_322 (by decide) ?_
      refine lv_iload_n hx hb d_RRef_keep_323 rfl (lv_at hl 3 rfl) ?_
      refine lv_iadd hx hb d_RRef_keep_324 ?_
      obtain ⟨q23, hq23, hm⟩ := ob hm
      refine inv_mVa (C := R_RRef) (As := [.int v4, .int (1 + v3)]) (rest := []) (v := .int q23.1) X (c_RRef_writeAll l D ca ad _ q22 v4 (1 + v3) q23 hq23) g_RRef_182 yo_RRef_writeAll ⟨Nat.le_of_ble_eq_true rfl, Nat.le_of_ble_eq_true rfl⟩ hl hP hD rfl (ci := 6) rfl rfl hS hA rfl rfl (Nat.le_of_ble_eq_true rfl) ⟨Nat.zero_le _, Nat.zero_le _⟩ d_RRef_keep_325 (fun H locs hP hD hS => ?_)
      refine lv_if_ne (tgt := 334) hx hb d_RRef_keep_328 (by decide) (fun c24 => ?_) (fun c24 => ?_)
      · replace hm := ineg c24 hm
        refine lv_aload_n hx hb d_RRef_keep_334 rfl (lv_at hl 0 rfl) ?_
        refine va_get (D := D) (ci := 6) (v := .ref (ad 9)) (C := R_RRef) (T := F_RRef) (N := 29) hx hb hts i_RRef hown hK hP 0 rfl rfl 14 (by decide) (hts _ wf_RRef_44) (fun _ h9 => h9) rfl d_RRef_keep_335 ?_
        refine lv_iload_n hx hb d_RRef_keep_338 rfl (lv_at hl 2 rfl) ?_
        refine lv_iload hx hb d_RRef_keep_339 (lv_at hl 4 rfl) ?_
        obtain ⟨b25, hm⟩ := on hm
        refine va_iast hx hb hK hP hD hS 9 2 rfl rfl b25 d_RRef_keep_341 (fun H locs hP hD hS => ?_)
        replace hP : va_P D classes (wl_Ref ca ad (s_RmRow q23.2 ((g_RmRow q23.2).1, upd (g_RmRow q23.2).2 (v2).toNatClampNeg v4))) H := hP
        replace hD : va_D A (wl_Ref ca ad (s_RmRow q23.2 ((g_RmRow q23.2).1, upd (g_RmRow q23.2).2 (v2).toNatClampNeg v4))) := hD
        refine lv_iconst (v := 1) hx hb d_RRef_keep_342 (by decide) ?_
        cases hm
        exact ret_mi X hP hS d_RRef_keep_343
      · replace hm := ip c24 hm
        refine lv_bipush (v := (-5)) hx hb d_RRef_keep_331 (by decide) ?_
        cases hm
        exact ret_mi X hP hS d_RRef_keep_333
    · replace hm := ineg c13 hm
      refine lv_aload_n hx hb d_RRef_keep_83 rfl (lv_at hl 0 rfl) ?_
      refine lv_aload_n hx hb d_RRef_keep_84 rfl (lv_at hl 0 rfl) ?_
      refine va_get (D := D) (ci := 6) (v := .ref (ad 12)) (C := R_RRef) (T := F_RRef) (N := 29) hx hb hts i_RRef hown hK hP 0 rfl rfl 17 (by decide) (hts _ wf_RRef_53) (fun _ h9 => h9) rfl d_RRef_keep_85 ?_
      refine lv_bipush (v := 12) hx hb d_RRef_keep_88 (by decide) ?_
      refine lv_iload_n hx hb d_RRef_keep_90 rfl (lv_at hl 2 rfl) ?_
      refine lv_imul hx hb d_RRef_keep_91 ?_
      refine lv_iload hx hb d_RRef_keep_92 (lv_at hl 5 rfl) ?_
      refine lv_iadd hx hb d_RRef_keep_94 ?_
      obtain ⟨b26, hm⟩ := on hm
      refine va_iald hx hb hK hP 12 2 rfl rfl b26 d_RRef_keep_95 ?_
      obtain ⟨q27, hq27, hm⟩ := ob hm
      refine inv_rVa (C := R_RRef) (As := [.int ((g_RmPart g).2 (((12 * v2) + v5)).toNatClampNeg)]) (rest := []) (v := .int q27) X (c_RRef_findPart l D ca ad _ g ((g_RmPart g).2 (((12 * v2) + v5)).toNatClampNeg) q27 hq27) g_RRef_129 yo_RRef_findPart ⟨Nat.le_of_ble_eq_true rfl, Nat.le_of_ble_eq_true rfl⟩ hl hP hD (ci := 6) rfl rfl hS hA rfl rfl (Nat.le_of_ble_eq_true rfl) ⟨Nat.zero_le _, Nat.zero_le _⟩ d_RRef_keep_96 (fun H locs hP hS => ?_)
      refine lv_istore (lv' := [(6, .int q27), (0, .ref (ad 0)), (1, .int v1), (2, .int v2), (3, .int v3), (4, .int v4), (5, .int v5)]) hx hb d_RRef_keep_99 hl (by decide) rfl (fun ls hl => ?_)
      refine lv_iconst (v := 0) hx hb d_RRef_keep_101 (by decide) ?_
      refine lv_iload hx hb d_RRef_keep_102 (lv_at hl 6 rfl) ?_
      obtain ⟨q28, hq28, hm⟩ := ob hm
      refine inv_rS (As := [.int 0, .int v5]) (rest := []) (v := .int q28) X (c_RRef_entryAt l D ca  _ 0 v5 q28 hq28) g_RRef_143 yo_RRef_entryAt ⟨Nat.le_of_ble_eq_true rfl, Nat.le_of_ble_eq_true rfl⟩ hl hP hD [] rfl rfl hS hA rfl rfl (Nat.le_of_ble_eq_true rfl) ⟨Nat.zero_le _, Nat.zero_le _⟩ d_RRef_keep_104 (fun H locs hP hS => ?_)
      refine lv_istore (lv' := [(7, .int q28), (6, .int q27), (0, .ref (ad 0)), (1, .int v1), (2, .int v2), (3, .int v3), (4, .int v4), (5, .int v5)]) hx hb d_RRef_keep_107 hl (by decide) rfl (fun ls hl => ?_)
      refine lv_aload_n hx hb d_RRef_keep_109 rfl (lv_at hl 2 rfl) ?_
      refine va_get (D := D) (ci := 6) (v := .ref (ad 13)) (C := R_RRef) (T := F_RRef) (N := 29) hx hb hts i_RRef hown hK hP 0 rfl rfl 18 (by decide) (hts _ wf_RRef_56) (fun _ h9 => h9) rfl d_RRef_keep_110 ?_
      refine lv_bipush (v := 12) hx hb d_RRef_keep_113 (by decide) ?_
      refine lv_iload_n hx hb d_RRef_keep_115 rfl (lv_at hl 4 rfl) ?_
      refine lv_imul hx hb d_RRef_keep_116 ?_
      refine lv_iload hx hb d_RRef_keep_117 (lv_at hl 7 rfl) ?_
      refine lv_iadd hx hb d_RRef_keep_119 ?_
      refine lv_aload_n hx hb d_RRef_keep_120 rfl (lv_at hl 2 rfl) ?_
      refine va_get (D := D) (ci := 6) (v := .ref (ad 7)) (C := R_RRef) (T := F_RRef) (N := 29) hx hb hts i_RRef hown hK hP 0 rfl rfl 11 (by decide) (hts _ wf_RRef_38) (fun _ h9 => h9) rfl d_RRef_keep_121 ?_
      refine lv_iload hx hb d_RRef_keep_124 (lv_at hl 1 rfl) ?_
      obtain ⟨b29, hm⟩ := on hm
      refine va_iald hx hb hK hP 7 2 rfl rfl b29 d_RRef_keep_126 ?_
      obtain ⟨b30, hm⟩ := on hm
      refine va_iast hx hb hK hP hD hS 13 2 rfl rfl b30 d_RRef_keep_127 (fun H locs hP hD hS => ?_)
      replace hP : va_P D classes (wl_Ref ca ad (s_RmPartRow g ((g_RmPartRow g).1, upd (g_RmPartRow g).2 (((12 * v2) + v5)).toNatClampNeg ((g_RpRow g).2 (q27).toNatClampNeg)))) H := hP
      replace hD : va_D A (wl_Ref ca ad (s_RmPartRow g ((g_RmPartRow g).1, upd (g_RmPartRow g).2 (((12 * v2) + v5)).toNatClampNeg ((g_RpRow g).2 (q27).toNatClampNeg)))) := hD
      refine lv_aload_n hx hb d_RRef_keep_128 rfl (lv_at hl 2 rfl) ?_
      refine va_get (D := D) (ci := 6) (v := .ref (ad 14)) (C := R_RRef) (T := F_RRef) (N := 29) hx hb hts i_RRef hown hK hP 0 rfl rfl 19 (by decide) (hts _ wf_RRef_59) (fun _ h9 => h9) rfl d_RRef_keep_129 ?_
      refine lv_bipush (v := 12) hx hb d_RRef_keep_132 (by decide) ?_
      refine lv_iload_n hx hb d_RRef_keep_134 rfl (lv_at hl 4 rfl) ?_
      refine lv_imul hx hb d_RRef_keep_135 ?_
      refine lv_iload hx hb d_RRef_keep_136 (lv_at hl 7 rfl) ?_
      refine lv_iadd hx hb d_RRef_keep_138 ?_
      refine lv_aload_n hx hb d_RRef_keep_139 rfl (lv_at hl 2 rfl) ?_
      refine va_get (D := D) (ci := 6) (v := .ref (ad 1)) (C := R_RRef) (T := F_RRef) (N := 29) hx hb hts i_RRef hown hK hP 0 rfl rfl 0 (by decide) (hts _ wf_RRef_7) (fun _ h9 => h9) rfl d_RRef_keep_140 ?_
      refine lv_bipush (v := 32) hx hb d_RRef_keep_143 (by decide) ?_
      refine lv_aload_n hx hb d_RRef_keep_145 rfl (lv_at hl 2 rfl) ?_
      refine va_get (D := D) (ci := 6) (v := .ref (ad 7)) (C := R_RRef) (T := F_RRef) (N := 29) hx hb hts i_RRef hown hK hP 0 rfl rfl 11 (by decide) (hts _ wf_RRef_38) (fun _ h9 => h9) rfl d_RRef_keep_146 ?_
      refine lv_iload hx hb d_RRef_keep_149 (lv_at hl 1 rfl) ?_
      obtain ⟨b31, hm⟩ := on hm
      refine va_iald hx hb hK hP 7 2 rfl rfl b31 d_RRef_keep_151 ?_
      refine lv_imul hx hb d_RRef_keep_152 ?_
      refine lv_bipush (v := 16) hx hb d_RRef_keep_153 (by decide) ?_
      refine lv_iadd hx hb d_RRef_keep_155 ?_
      refine lv_bipush (v := 8) hx hb d_RRef_keep_156 (by decide) ?_
      obtain ⟨q32, hq32, hm⟩ := ob hm
      refine inv_rS (As := [.ref (ad 1), .int ((32 * ((g_RpRow g).2 (q27).toNatClampNeg)) + 16), .int 8]) (rest := [.int ((12 * v2) + v5), .ref (ad 14)]) (v := .long q32) X (c_RRef_number l D ca (ad 1) _ (g_Rmedium g) ((32 * ((g_RpRow g).2 (q27).toNatClampNeg)) + 16) 8 q32 hq32) g_RRef_85 yo_RRef_number ⟨Nat.le_of_ble_eq_true rfl, Nat.le_of_ble_eq_true rfl⟩ hl hP hD [1] rfl rfl hS hA rfl rfl (Nat.le_of_ble_eq_true rfl) ⟨Nat.zero_le _, Nat.zero_le _⟩ d_RRef_keep_158 (fun H locs hP hS => ?_)
      obtain ⟨b33, hm⟩ := on hm
      refine va_last hx hb hK hP hD hS 14 3 rfl rfl b33 d_RRef_keep_161 (fun H locs hP hD hS => ?_)
      replace hP : va_P D classes (wl_Ref ca ad (s_RmPartDigest (s_RmPartRow g ((g_RmPartRow g).1, upd (g_RmPartRow g).2 (((12 * v2) + v5)).toNatClampNeg ((g_RpRow g).2 (q27).toNatClampNeg))) ((g_RmPartDigest g).1, vp_updL (g_RmPartDigest g).2 (((12 * v2) + v5)).toNatClampNeg q32))) H := hP
      replace hD : va_D A (wl_Ref ca ad (s_RmPartDigest (s_RmPartRow g ((g_RmPartRow g).1, upd (g_RmPartRow g).2 (((12 * v2) + v5)).toNatClampNeg ((g_RpRow g).2 (q27).toNatClampNeg))) ((g_RmPartDigest g).1, vp_updL (g_RmPartDigest g).2 (((12 * v2) + v5)).toNatClampNeg q32))) := hD
      refine lv_aload_n hx hb d_RRef_keep_162 rfl (lv_at hl 2 rfl) ?_
      refine va_get (D := D) (ci := 6) (v := .ref (ad 17)) (C := R_RRef) (T := F_RRef) (N := 29) hx hb hts i_RRef hown hK hP 0 rfl rfl 26 (by decide) (hts _ wf_RRef_69) (fun _ h9 => h9) rfl d_RRef_keep_163 ?_
      refine lv_bipush (v := 32) hx hb d_RRef_keep_166 (by decide) ?_
      refine lv_iconst (v := 1) hx hb d_RRef_keep_168 (by decide) ?_
      refine lv_iload hx hb d_RRef_keep_169 (lv_at hl 7 rfl) ?_
      refine lv_iconst (v := 2) hx hb d_RRef_keep_171 (by decide) ?_
      refine lv_idiv hx hb d_RRef_keep_172 (by decide) ?_
      refine lv_iadd hx hb d_RRef_keep_173 ?_
      refine lv_imul hx hb d_RRef_keep_174 ?_
      refine lv_bipush (v := 6) hx hb d_RRef_keep_175 (by decide) ?_
      obtain ⟨b34, hm⟩ := on hm
      refine va_bast hx hb hK hP hD hS 17 0 rfl rfl b34 d_RRef_keep_177 (fun H locs hP hD hS => ?_)
      replace hP : va_P D classes (wl_Ref ca ad (s_Rdraft (s_RmPartDigest (s_RmPartRow g ((g_RmPartRow g).1, upd (g_RmPartRow g).2 (((12 * v2) + v5)).toNatClampNeg ((g_RpRow g).2 (q27).toNatClampNeg))) ((g_RmPartDigest g).1, vp_updL (g_RmPartDigest g).2 (((12 * v2) + v5)).toNatClampNeg q32)) ((g_Rdraft g).1, upd (g_Rdraft g).2 ((32 * (1 + (v5 / 2)))).toNatClampNeg (vp_nar .byte 6)))) H := hP
      replace hD : va_D A (wl_Ref ca ad (s_Rdraft (s_RmPartDigest (s_RmPartRow g ((g_RmPartRow g).1, upd (g_RmPartRow g).2 (((12 * v2) + v5)).toNatClampNeg ((g_RpRow g).2 (q27).toNatClampNeg))) ((g_RmPartDigest g).1, vp_updL (g_RmPartDigest g).2 (((12 * v2) + v5)).toNatClampNeg q32)) ((g_Rdraft g).1, upd (g_Rdraft g).2 ((32 * (1 + (v5 / 2)))).toNatClampNeg (vp_nar .byte 6)))) := hD
      refine lv_aload_n hx hb d_RRef_keep_178 rfl (lv_at hl 2 rfl) ?_
      refine va_get (D := D) (ci := 6) (v := .ref (ad 17)) (C := R_RRef) (T := F_RRef) (N := 29) hx hb hts i_RRef hown hK hP 0 rfl rfl 26 (by decide) (hts _ wf_RRef_69) (fun _ h9 => h9) rfl d_RRef_keep_179 ?_
      refine lv_iload hx hb d_RRef_keep_182 (lv_at hl 0 rfl) ?_
      refine lv_iconst (v := 4) hx hb d_RRef_keep_184 (by decide) ?_
      refine lv_aload_n hx hb d_RRef_keep_185 rfl (lv_at hl 2 rfl) ?_
      refine va_get (D := D) (ci := 6) (v := .ref (ad 3)) (C := R_RRef) (T := F_RRef) (N := 29) hx hb hts i_RRef hown hK hP 0 rfl rfl 7 (by decide) (hts _ wf_RRef_24) (fun _ h9 => h9) rfl d_RRef_keep_186 ?_
      refine lv_iload hx hb d_RRef_keep_189 (lv_at hl 1 rfl) ?_
      obtain ⟨b35, hm⟩ := on hm
      refine va_iald hx hb hK hP 3 2 rfl rfl b35 d_RRef_keep_191 ?_
      refine lv_i2l (v := ((((g_RpNumber g).2 (q27).toNatClampNeg)).toInt64)) hx hb d_RRef_keep_192 rfl ?_
      obtain ⟨q36, hq36, hm⟩ := ob hm
      refine inv_mS (As := [.ref (ad 17), .int q28, .int 4, .long ((((g_RpNumber g).2 (q27).toNatClampNeg)).toInt64)]) (rest := []) (ws' := wl_Ref ca ad (s_Rdraft (s_Rdraft (s_RmPartDigest (s_RmPartRow g ((g_RmPartRow g).1, upd (g_RmPartRow g).2 (((12 * v2) + v5)).toNatClampNeg ((g_RpRow g).2 (q27).toNatClampNeg))) ((g_RmPartDigest g).1, vp_updL (g_RmPartDigest g).2 (((12 * v2) + v5)).toNatClampNeg q32)) ((g_Rdraft g).1, upd (g_Rdraft g).2 ((32 * (1 + (v5 / 2)))).toNatClampNeg (vp_nar .byte 6))) q36)) X (c_RRef_put l D ca (ad 17) _ ((g_Rdraft g).1, upd (g_Rdraft g).2 ((32 * (1 + (v5 / 2)))).toNatClampNeg (vp_nar .byte 6)) q28 4 ((((g_RpNumber g).2 (q27).toNatClampNeg)).toInt64) q36 hq36) g_RRef_102 yo_RRef_put ⟨Nat.le_of_ble_eq_true rfl, Nat.le_of_ble_eq_true rfl⟩ hl hP hD [17] rfl rfl rfl rfl hS hA rfl rfl (Nat.le_of_ble_eq_true rfl) ⟨Nat.zero_le _, Nat.zero_le _⟩ d_RRef_keep_193 (fun H locs hP hD hS => ?_)
      refine lv_aload_n hx hb d_RRef_keep_196 rfl (lv_at hl 2 rfl) ?_
      refine va_get (D := D) (ci := 6) (v := .ref (ad 17)) (C := R_RRef) (T := F_RRef) (N := 29) hx hb hts i_RRef hown hK hP 0 rfl rfl 26 (by decide) (hts _ wf_RRef_69) (fun _ h9 => h9) rfl d_RRef_keep_197 ?_
      refine lv_iload hx hb d_RRef_keep_200 (lv_at hl 0 rfl) ?_
      refine lv_iconst (v := 4) hx hb d_RRef_keep_202 (by decide) ?_
      refine lv_iadd hx hb d_RRef_keep_203 ?_
      refine lv_iconst (v := 2) hx hb d_RRef_keep_204 (by decide) ?_
      refine lv_aload_n hx hb d_RRef_keep_205 rfl (lv_at hl 2 rfl) ?_
      refine va_get (D := D) (ci := 6) (v := .ref (ad 7)) (C := R_RRef) (T := F_RRef) (N := 29) hx hb hts i_RRef hown hK hP 0 rfl rfl 11 (by decide) (hts _ wf_RRef_38) (fun _ h9 => h9) rfl d_RRef_keep_206 ?_
      refine lv_iload hx hb d_RRef_keep_209 (lv_at hl 1 rfl) ?_
      obtain ⟨b37, hm⟩ := on hm
      refine va_iald hx hb hK hP 7 2 rfl rfl b37 d_RRef_keep_211 ?_
      refine lv_i2l (v := ((((g_RpRow g).2 (q27).toNatClampNeg)).toInt64)) hx hb d_RRef_keep_212 rfl ?_
      obtain ⟨q38, hq38, hm⟩ := ob hm
      refine inv_mS (As := [.ref (ad 17), .int (q28 + 4), .int 2, .long ((((g_RpRow g).2 (q27).toNatClampNeg)).toInt64)]) (rest := []) (ws' := wl_Ref ca ad (s_Rdraft (s_Rdraft (s_Rdraft (s_RmPartDigest (s_RmPartRow g ((g_RmPartRow g).1, upd (g_RmPartRow g).2 (((12 * v2) + v5)).toNatClampNeg ((g_RpRow g).2 (q27).toNatClampNeg))) ((g_RmPartDigest g).1, vp_updL (g_RmPartDigest g).2 (((12 * v2) + v5)).toNatClampNeg q32)) ((g_Rdraft g).1, upd (g_Rdraft g).2 ((32 * (1 + (v5 / 2)))).toNatClampNeg (vp_nar .byte 6))) q36) q38)) X (c_RRef_put l D ca (ad 17) _ q36 (q28 + 4) 2 ((((g_RpRow g).2 (q27).toNatClampNeg)).toInt64) q38 hq38) g_RRef_102 yo_RRef_put ⟨Nat.le_of_ble_eq_true rfl, Nat.le_of_ble_eq_true rfl⟩ hl hP hD [17] rfl rfl rfl rfl hS hA rfl rfl (Nat.le_of_ble_eq_true rfl) ⟨Nat.zero_le _, Nat.zero_le _⟩ d_RRef_keep_213 (fun H locs hP hD hS => ?_)
      refine lv_aload_n hx hb d_RRef_keep_216 rfl (lv_at hl 2 rfl) ?_
      refine va_get (D := D) (ci := 6) (v := .ref (ad 17)) (C := R_RRef) (T := F_RRef) (N := 29) hx hb hts i_RRef hown hK hP 0 rfl rfl 26 (by decide) (hts _ wf_RRef_69) (fun _ h9 => h9) rfl d_RRef_keep_217 ?_
      refine lv_iload hx hb d_RRef_keep_220 (lv_at hl 0 rfl) ?_
      refine lv_bipush (v := 6) hx hb d_RRef_keep_222 (by decide) ?_
      refine lv_iadd hx hb d_RRef_keep_224 ?_
      refine lv_bipush (v := 8) hx hb d_RRef_keep_225 (by decide) ?_
      refine lv_aload_n hx hb d_RRef_keep_227 rfl (lv_at hl 2 rfl) ?_
      refine va_get (D := D) (ci := 6) (v := .ref (ad 14)) (C := R_RRef) (T := F_RRef) (N := 29) hx hb hts i_RRef hown hK hP 0 rfl rfl 19 (by decide) (hts _ wf_RRef_59) (fun _ h9 => h9) rfl d_RRef_keep_228 ?_
      refine lv_bipush (v := 12) hx hb d_RRef_keep_231 (by decide) ?_
      refine lv_iload_n hx hb d_RRef_keep_233 rfl (lv_at hl 4 rfl) ?_
      refine lv_imul hx hb d_RRef_keep_234 ?_
      refine lv_iload hx hb d_RRef_keep_235 (lv_at hl 7 rfl) ?_
      refine lv_iadd hx hb d_RRef_keep_237 ?_
      obtain ⟨b39, hm⟩ := on hm
      refine va_lald hx hb hK hP 14 3 rfl rfl b39 d_RRef_keep_238 ?_
      obtain ⟨q40, hq40, hm⟩ := ob hm
      refine inv_mS (As := [.ref (ad 17), .int (q28 + 6), .int 8, .long (((g_RmPartDigest g).1, vp_updL (g_RmPartDigest g).2 (((12 * v2) + v5)).toNatClampNeg q32).2 (((12 * v2) + v5)).toNatClampNeg)]) (rest := []) (ws' := wl_Ref ca ad (s_Rdraft (s_Rdraft (s_Rdraft (s_Rdraft (s_RmPartDigest (s_RmPartRow g ((g_RmPartRow g).1, upd (g_RmPartRow g).2 (((12 * v2) + v5)).toNatClampNeg ((g_RpRow g).2 (q27).toNatClampNeg))) ((g_RmPartDigest g).1, vp_updL (g_RmPartDigest g).2 (((12 * v2) + v5)).toNatClampNeg q32)) ((g_Rdraft g).1, upd (g_Rdraft g).2 ((32 * (1 + (v5 / 2)))).toNatClampNeg (vp_nar .byte 6))) q36) q38) q40)) X (c_RRef_put l D ca (ad 17) _ q38 (q28 + 6) 8 (((g_RmPartDigest g).1, vp_updL (g_RmPartDigest g).2 (((12 * v2) + v5)).toNatClampNeg q32).2 (((12 * v2) + v5)).toNatClampNeg) q40 hq40) g_RRef_102 yo_RRef_put ⟨Nat.le_of_ble_eq_true rfl, Nat.le_of_ble_eq_true rfl⟩ hl hP hD [17] rfl rfl rfl rfl hS hA rfl rfl (Nat.le_of_ble_eq_true rfl) ⟨Nat.zero_le _, Nat.zero_le _⟩ d_RRef_keep_239 (fun H locs hP hD hS => ?_)
      refine lv_iinc (v := (v5 + 1)) (lv' := [(5, .int (v5 + 1)), (7, .int q28), (6, .int q27), (0, .ref (ad 0)), (1, .int v1), (2, .int v2), (3, .int v3), (4, .int v4)]) hx hb d_RRef_keep_242 hl (k := 7) rfl rfl (by decide) rfl (fun ls hl => ?_)
      refine lv_goto (tgt := 72) hx hb d_RRef_keep_245 (by decide) ?_
      exact ih (s_Rdraft (s_Rdraft (s_Rdraft (s_Rdraft (s_RmPartDigest (s_RmPartRow g ((g_RmPartRow g).1, upd (g_RmPartRow g).2 (((12 * v2) + v5)).toNatClampNeg ((g_RpRow g).2 (q27).toNatClampNeg))) ((g_RmPartDigest g).1, vp_updL (g_RmPartDigest g).2 (((12 * v2) + v5)).toNatClampNeg q32)) ((g_Rdraft g).1, upd (g_Rdraft g).2 ((32 * (1 + (v5 / 2)))).toNatClampNeg (vp_nar .byte 6))) q36) q38) q40) v1 v2 v3 v4 (v5 + 1) _ hm _ _ hP hD hS ls (lv_sub hl [3, 4, 5, 6, 7, 0] rfl)
set_option maxHeartbeats 4000000 in
set_option maxRecDepth 100000 in
theorem c_RRef_keep (l : Launch) (D : va_G) (ca : Nat → ClassId) (ad : Nat → Nat) (sz : Nat) (g : St_Ref) (p1 : Int32) (res : Int32 × St_Ref) (hm : m_RRef_keep g p1 = some res) : Met l y_RRef_keep (cws y_RRef_keep b_RRef_keep 8 (some .int)) (RM 2 47) (PreW D ca (wl_Ref ca ad g) [.ref (ad 0), .int p1] sz) (QRm D (some (.int res.1)) (wl_Ref ca ad res.2) (va_A (wl_Ref ca ad g) sz)) 0 0 (va_A (wl_Ref ca ad g) sz) := by
  refine met_ofM (own := R_RRef) (by decide) rfl (Nat.le_of_ble_eq_true rfl) ?_
  intro p e s m below meth c A X hA hP hD ls hl
  obtain ⟨hx, hb, hml, hr, hown, hts, hK, hlocks⟩ := id X
  have hS : va_S A s.heap s.heap [] := va_S.rf
  have hl : lv_has ls 8 [(0, .ref (ad 0)), (1, .int p1)] := hl
  unfold m_RRef_keep at hm
  refine lv_aload_n hx hb d_RRef_keep_0 rfl (lv_at hl 0 rfl) ?_
  refine va_get (D := D) (ci := 6) (v := .int (g_Ropen g)) (C := R_RRef) (T := F_RRef) (N := 29) hx hb hts i_RRef hown hK hP 0 rfl rfl 2 (by decide) (hts _ wf_RRef_13) (fun _ h9 => h9) rfl d_RRef_keep_1 ?_
  refine lv_if_ne (tgt := 10) hx hb d_RRef_keep_4 (by decide) (fun c1 => ?_) (fun c1 => ?_)
  · replace hm := ineg c1 hm
    refine lv_aload_n hx hb d_RRef_keep_10 rfl (lv_at hl 0 rfl) ?_
    refine lv_iload_n hx hb d_RRef_keep_11 rfl (lv_at hl 1 rfl) ?_
    obtain ⟨q2, hq2, hm⟩ := ob hm
    refine inv_rVa (C := R_RRef) (As := [.int p1]) (rest := []) (v := .int q2) X (c_RRef_findMark l D ca ad _ g p1 q2 hq2) g_RRef_150 yo_RRef_findMark ⟨Nat.le_of_ble_eq_true rfl, Nat.le_of_ble_eq_true rfl⟩ hl hP hD (ci := 6) rfl rfl hS hA rfl rfl (Nat.le_of_ble_eq_true rfl) ⟨Nat.zero_le _, Nat.zero_le _⟩ d_RRef_keep_12 (fun H locs hP hS => ?_)
    refine lv_istore_n (lv' := [(2, .int q2), (0, .ref (ad 0)), (1, .int p1)]) hx hb d_RRef_keep_15 rfl hl (by decide) rfl (fun ls hl => ?_)
    refine lv_iload_n hx hb d_RRef_keep_16 rfl (lv_at hl 0 rfl) ?_
    refine lv_iconst (v := (-1)) hx hb d_RRef_keep_17 (by decide) ?_
    refine lv_icmp_eq (tgt := 31) hx hb d_RRef_keep_18 (by decide) (fun c3 => ?_) (fun c3 => ?_)
    · replace hm := ip c3 hm
      refine lv_iconst (v := (-1)) hx hb d_RRef_keep_31 (by decide) ?_
      cases hm
      exact ret_mi X hP hS d_RRef_keep_32
    · replace hm := ineg c3 hm
      refine lv_aload_n hx hb d_RRef_keep_21 rfl (lv_at hl 1 rfl) ?_
      refine va_get (D := D) (ci := 6) (v := .ref (ad 9)) (C := R_RRef) (T := F_RRef) (N := 29) hx hb hts i_RRef hown hK hP 0 rfl rfl 14 (by decide) (hts _ wf_RRef_44) (fun _ h9 => h9) rfl d_RRef_keep_22 ?_
      refine lv_iload_n hx hb d_RRef_keep_25 rfl (lv_at hl 0 rfl) ?_
      obtain ⟨b4, hm⟩ := on hm
      refine va_iald hx hb hK hP 9 2 rfl rfl b4 d_RRef_keep_26 ?_
      refine lv_iconst (v := (-1)) hx hb d_RRef_keep_27 (by decide) ?_
      refine lv_icmp_eq (tgt := 33) hx hb d_RRef_keep_28 (by decide) (fun c5 => ?_) (fun c5 => ?_)
      · replace hm := ip c5 hm
        refine lv_aload_n hx hb d_RRef_keep_33 rfl (lv_at hl 1 rfl) ?_
        obtain ⟨q6, hq6, hm⟩ := ob hm
        refine inv_mUa (C := R_RRef) (As := []) (rest := []) X (c_RRef_marksUsed l D ca ad _ g q6 hq6) g_RRef_185 yo_RRef_marksUsed ⟨Nat.le_of_ble_eq_true rfl, Nat.le_of_ble_eq_true rfl⟩ hl hP hD rfl (ci := 6) rfl rfl hS hA rfl rfl (Nat.le_of_ble_eq_true rfl) ⟨Nat.zero_le _, Nat.zero_le _⟩ d_RRef_keep_34 (fun H locs hP hD hS => ?_)
        refine lv_aload_n hx hb d_RRef_keep_37 rfl (lv_at hl 1 rfl) ?_
        refine va_get (D := D) (ci := 6) (v := .ref (ad 10)) (C := R_RRef) (T := F_RRef) (N := 29) hx hb hts i_RRef hown hK hP 0 rfl rfl 15 (by decide) (hts _ wf_RRef_47) (fun _ h9 => h9) rfl d_RRef_keep_38 ?_
        refine lv_iload_n hx hb d_RRef_keep_41 rfl (lv_at hl 0 rfl) ?_
        obtain ⟨b7, hm⟩ := on hm
        refine va_iald hx hb hK hP 10 2 rfl rfl b7 d_RRef_keep_42 ?_
        obtain ⟨q8, hq8, hm⟩ := ob hm
        refine inv_rS (As := [.int ((g_RmCount q6).2 (q2).toNatClampNeg)]) (rest := []) (v := .int q8) X (c_RRef_entries l D ca  _ ((g_RmCount q6).2 (q2).toNatClampNeg) q8 hq8) g_RRef_116 yo_RRef_entries ⟨Nat.le_of_ble_eq_true rfl, Nat.le_of_ble_eq_true rfl⟩ hl hP hD [] rfl rfl hS hA rfl rfl (Nat.le_of_ble_eq_true rfl) ⟨Nat.zero_le _, Nat.zero_le _⟩ d_RRef_keep_43 (fun H locs hP hS => ?_)
        refine lv_istore_n (lv' := [(3, .int q8), (2, .int q2), (0, .ref (ad 0)), (1, .int p1)]) hx hb d_RRef_keep_46 rfl hl (by decide) rfl (fun ls hl => ?_)
        refine lv_aload_n hx hb d_RRef_keep_47 rfl (lv_at hl 2 rfl) ?_
        refine lv_iconst (v := 1) hx hb d_RRef_keep_48 (by decide) ?_
        refine lv_iload_n hx hb d_RRef_keep_49 rfl (lv_at hl 0 rfl) ?_
        refine lv_iadd hx hb d_RRef_keep_50 ?_
        obtain ⟨q9, hq9, hm⟩ := ob hm
        refine inv_rVa (C := R_RRef) (As := [.int (1 + q8)]) (rest := []) (v := .int q9) X (c_RRef_room l D ca ad _ q6 (1 + q8) q9 hq9) g_RRef_188 yo_RRef_room ⟨Nat.le_of_ble_eq_true rfl, Nat.le_of_ble_eq_true rfl⟩ hl hP hD (ci := 6) rfl rfl hS hA rfl rfl (Nat.le_of_ble_eq_true rfl) ⟨Nat.zero_le _, Nat.zero_le _⟩ d_RRef_keep_51 (fun H locs hP hS => ?_)
        refine lv_istore (lv' := [(4, .int q9), (3, .int q8), (2, .int q2), (0, .ref (ad 0)), (1, .int p1)]) hx hb d_RRef_keep_54 hl (by decide) rfl (fun ls hl => ?_)
        refine lv_iload hx hb d_RRef_keep_56 (lv_at hl 0 rfl) ?_
        refine lv_iconst (v := (-1)) hx hb d_RRef_keep_58 (by decide) ?_
        refine lv_icmp_ne (tgt := 65) hx hb d_RRef_keep_59 (by decide) (fun c10 => ?_) (fun c10 => ?_)
        · replace hm := ineg c10 hm
          refine lv_aload_n hx hb d_RRef_keep_65 rfl (lv_at hl 3 rfl) ?_
          obtain ⟨q11, hq11, hm⟩ := ob hm
          refine inv_mUa (C := R_RRef) (As := []) (rest := []) X (c_RRef_clearDraft l D ca ad _ q6 q11 hq11) g_RRef_99 yo_RRef_clearDraft ⟨Nat.le_of_ble_eq_true rfl, Nat.le_of_ble_eq_true rfl⟩ hl hP hD rfl (ci := 6) rfl rfl hS hA rfl rfl (Nat.le_of_ble_eq_true rfl) ⟨Nat.zero_le _, Nat.zero_le _⟩ d_RRef_keep_66 (fun H locs hP hD hS => ?_)
          refine lv_iconst (v := 0) hx hb d_RRef_keep_69 (by decide) ?_
          refine lv_istore (lv' := [(5, .int 0), (4, .int q9), (3, .int q8), (2, .int q2), (0, .ref (ad 0)), (1, .int p1)]) hx hb d_RRef_keep_70 hl (by decide) rfl (fun ls hl => ?_)
          exact k_m_RRef_keep_L72 X hA FU q11 p1 q2 q8 q9 0 _ hm _ _ hP hD hS ls (lv_sub hl [4, 5, 3, 2, 1, 0] rfl)
        · replace hm := ip c10 hm
          refine lv_bipush (v := (-4)) hx hb d_RRef_keep_62 (by decide) ?_
          cases hm
          exact ret_mi X hP hS d_RRef_keep_64
      · replace hm := ineg c5 hm
        refine lv_iconst (v := (-1)) hx hb d_RRef_keep_31 (by decide) ?_
        cases hm
        exact ret_mi X hP hS d_RRef_keep_32
  · replace hm := ip c1 hm
    refine lv_bipush (v := (-3)) hx hb d_RRef_keep_7 (by decide) ?_
    cases hm
    exact ret_mi X hP hS d_RRef_keep_9
set_option maxHeartbeats 4000000 in
set_option maxRecDepth 100000 in
theorem k_m_RRef_forgetMark_L72 {p : Program} {l : Launch} {e : Env} {s : State} {m : MethodId} {args : Array Value} {below : List Frame} {meth : Method} {c : Code} {D : va_G} {ca : Nat → ClassId} {ad : Nat → Nat} {A : Nat → Prop} (X : Cx p s m args meth c R_RRef b_RRef_forgetMark 3 none D ca) (hA : ∀ q, s.heap.size ≤ q → A q)  : ∀ (n : Nat) (g : St_Ref) (v1 : Int32) (v2 : Int32) (res : St_Ref), m_RRef_forgetMark_L72  n g v1 v2 = some res → ∀ (H : Heap) (locs : List Loc), va_P D classes (wl_Ref ca ad g) H → va_D A (wl_Ref ca ad g) → va_S A s.heap H locs → ∀ ls : Array Slot, lv_has ls 3 [(0, .ref (ad 0)), (1, .int v1), (2, .int v2)] → W p l e (RM 0 0) s m args below meth c H locs 0 0 (MQ below (QRm D none (wl_Ref ca ad res) A) args s 0 0 A) (F0 m 72 ls []) := by
  obtain ⟨hx, hb, hml, hr, hown, hts, hK, hlocks⟩ := id X
  intro n
  induction n with
  | zero =>
    intro g v1 v2 res hm
    rw [m_RRef_forgetMark_L72] at hm
    cases hm
  | succ n ih =>
    intro g v1 v2 res hm H locs hP hD hS ls hl
    rw [m_RRef_forgetMark_L72] at hm
    refine lv_iload_n hx hb d_RRef_forgetMark_72 rfl (lv_at hl 2 rfl) ?_
    refine lv_bipush (v := 12) hx hb d_RRef_forgetMark_73 (by decide) ?_
    refine lv_icmp_ge (tgt := 159) hx hb d_RRef_forgetMark_75 (by decide) (fun c9 => ?_) (fun c9 => ?_)
    · replace hm := ip c9 hm
      cases hm
      exact ret_mv X hP hS d_RRef_forgetMark_159
    · replace hm := ineg c9 hm
      refine lv_aload_n hx hb d_RRef_forgetMark_78 rfl (lv_at hl 0 rfl) ?_
      refine va_get (D := D) (ci := 6) (v := .ref (ad 12)) (C := R_RRef) (T := F_RRef) (N := 29) hx hb hts i_RRef hown hK hP 0 rfl rfl 17 (by decide) (hts _ wf_RRef_53) (fun _ h9 => h9) rfl d_RRef_forgetMark_79 ?_
      refine lv_bipush (v := 12) hx hb d_RRef_forgetMark_82 (by decide) ?_
      refine lv_iload_n hx hb d_RRef_forgetMark_84 rfl (lv_at hl 1 rfl) ?_
      refine lv_imul hx hb d_RRef_forgetMark_85 ?_
      refine lv_iload_n hx hb d_RRef_forgetMark_86 rfl (lv_at hl 2 rfl) ?_
      refine lv_iadd hx hb d_RRef_forgetMark_87 ?_
      refine lv_aload_n hx hb d_RRef_forgetMark_88 rfl (lv_at hl 0 rfl) ?_
      refine va_get (D := D) (ci := 6) (v := .ref (ad 12)) (C := R_RRef) (T := F_RRef) (N := 29) hx hb hts i_RRef hown hK hP 0 rfl rfl 17 (by decide) (hts _ wf_RRef_53) (fun _ h9 => h9) rfl d_RRef_forgetMark_89 ?_
      refine lv_bipush (v := 12) hx hb d_RRef_forgetMark_92 (by decide) ?_
      refine lv_aload_n hx hb d_RRef_forgetMark_94 rfl (lv_at hl 0 rfl) ?_
      refine va_get (D := D) (ci := 6) (v := .int (g_Rmarks g)) (C := R_RRef) (T := F_RRef) (N := 29) hx hb hts i_RRef hown hK hP 0 rfl rfl 20 (by decide) (hts _ wf_RRef_109) (fun _ h9 => h9) rfl d_RRef_forgetMark_95 ?_
      refine lv_imul hx hb d_RRef_forgetMark_98 ?_
      refine lv_iload_n hx hb d_RRef_forgetMark_99 rfl (lv_at hl 2 rfl) ?_
      refine lv_iadd hx hb d_RRef_forgetMark_100 ?_
      obtain ⟨b10, hm⟩ := on hm
      refine va_iald hx hb hK hP 12 2 rfl rfl b10 d_RRef_forgetMark_101 ?_
      obtain ⟨b11, hm⟩ := on hm
      refine va_iast hx hb hK hP hD hS 12 2 rfl rfl b11 d_RRef_forgetMark_102 (fun H locs hP hD hS => ?_)
      replace hP : va_P D classes (wl_Ref ca ad (s_RmPart g ((g_RmPart g).1, upd (g_RmPart g).2 (((12 * v1) + v2)).toNatClampNeg ((g_RmPart g).2 (((12 * (g_Rmarks g)) + v2)).toNatClampNeg)))) H := hP
      replace hD : va_D A (wl_Ref ca ad (s_RmPart g ((g_RmPart g).1, upd (g_RmPart g).2 (((12 * v1) + v2)).toNatClampNeg ((g_RmPart g).2 (((12 * (g_Rmarks g)) + v2)).toNatClampNeg)))) := hD
      refine lv_aload_n hx hb d_RRef_forgetMark_103 rfl (lv_at hl 0 rfl) ?_
      refine va_get (D := D) (ci := 6) (v := .ref (ad 13)) (C := R_RRef) (T := F_RRef) (N := 29) hx hb hts i_RRef hown hK hP 0 rfl rfl 18 (by decide) (hts _ wf_RRef_56) (fun _ h9 => h9) rfl d_RRef_forgetMark_104 ?_
      refine lv_bipush (v := 12) hx hb d_RRef_forgetMark_107 (by decide) ?_
      refine lv_iload_n hx hb d_RRef_forgetMark_109 rfl (lv_at hl 1 rfl) ?_
      refine lv_imul hx hb d_RRef_forgetMark_110 ?_
      refine lv_iload_n hx hb d_RRef_forgetMark_111 rfl (lv_at hl 2 rfl) ?_
      refine lv_iadd hx hb d_RRef_forgetMark_112 ?_
      refine lv_aload_n hx hb d_RRef_forgetMark_113 rfl (lv_at hl 0 rfl) ?_
      refine va_get (D := D) (ci := 6) (v := .ref (ad 13)) (C := R_RRef) (T := F_RRef) (N := 29) hx hb hts i_RRef hown hK hP 0 rfl rfl 18 (by decide) (hts _ wf_RRef_56) (fun _ h9 => h9) rfl d_RRef_forgetMark_114 ?_
      refine lv_bipush (v := 12) hx hb d_RRef_forgetMark_117 (by decide) ?_
      refine lv_aload_n hx hb d_RRef_forgetMark_119 rfl (lv_at hl 0 rfl) ?_
      refine va_get (D := D) (ci := 6) (v := .int (g_Rmarks g)) (C := R_RRef) (T := F_RRef) (N := 29) hx hb hts i_RRef hown hK hP 0 rfl rfl 20 (by decide) (hts _ wf_RRef_109) (fun _ h9 => h9) rfl d_RRef_forgetMark_120 ?_
      refine lv_imul hx hb d_RRef_forgetMark_123 ?_
      refine lv_iload_n hx hb d_RRef_forgetMark_124 rfl (lv_at hl 2 rfl) ?_
      refine lv_iadd hx hb d_RRef_forgetMark_125 ?_
      obtain ⟨b12, hm⟩ := on hm
      refine va_iald hx hb hK hP 13 2 rfl rfl b12 d_RRef_forgetMark_126 ?_
      obtain ⟨b13, hm⟩ := on hm
      refine va_iast hx hb hK hP hD hS 13 2 rfl rfl b13 d_RRef_forgetMark_127 (fun H locs hP hD hS => ?_)
      replace hP : va_P D classes (wl_Ref ca ad (s_RmPartRow (s_RmPart g ((g_RmPart g).1, upd (g_RmPart g).2 (((12 * v1) + v2)).toNatClampNeg ((g_RmPart g).2 (((12 * (g_Rmarks g)) + v2)).toNatClampNeg))) ((g_RmPartRow g).1, upd (g_RmPartRow g).2 (((12 * v1) + v2)).toNatClampNeg ((g_RmPartRow g).2 (((12 * (g_Rmarks g)) + v2)).toNatClampNeg)))) H := hP
      replace hD : va_D A (wl_Ref ca ad (s_RmPartRow (s_RmPart g ((g_RmPart g).1, upd (g_RmPart g).2 (((12 * v1) + v2)).toNatClampNeg ((g_RmPart g).2 (((12 * (g_Rmarks g)) + v2)).toNatClampNeg))) ((g_RmPartRow g).1, upd (g_RmPartRow g).2 (((12 * v1) + v2)).toNatClampNeg ((g_RmPartRow g).2 (((12 * (g_Rmarks g)) + v2)).toNatClampNeg)))) := hD
      refine lv_aload_n hx hb d_RRef_forgetMark_128 rfl (lv_at hl 0 rfl) ?_
      refine va_get (D := D) (ci := 6) (v := .ref (ad 14)) (C := R_RRef) (T := F_RRef) (N := 29) hx hb hts i_RRef hown hK hP 0 rfl rfl 19 (by decide) (hts _ wf_RRef_59) (fun _ h9 => h9) rfl d_RRef_forgetMark_129 ?_
      refine lv_bipush (v := 12) hx hb d_RRef_forgetMark_132 (by decide) ?_
      refine lv_iload_n hx hb d_RRef_forgetMark_134 rfl (lv_at hl 1 rfl) ?_
      refine lv_imul hx hb d_RRef_forgetMark_135 ?_
      refine lv_iload_n hx hb d_RRef_forgetMark_136 rfl (lv_at hl 2 rfl) ?_
      refine lv_iadd hx hb d_RRef_forgetMark_137 ?_
      refine lv_aload_n hx hb d_RRef_forgetMark_138 rfl (lv_at hl 0 rfl) ?_
      refine va_get (D := D) (ci := 6) (v := .ref (ad 14)) (C := R_RRef) (T := F_RRef) (N := 29) hx hb hts i_RRef hown hK hP 0 rfl rfl 19 (by decide) (hts _ wf_RRef_59) (fun _ h9 => h9) rfl d_RRef_forgetMark_139 ?_
      refine lv_bipush (v := 12) hx hb d_RRef_forgetMark_142 (by decide) ?_
      refine lv_aload_n hx hb d_RRef_forgetMark_144 rfl (lv_at hl 0 rfl) ?_
      refine va_get (D := D) (ci := 6) (v := .int (g_Rmarks g)) (C := R_RRef) (T := F_RRef) (N := 29) hx hb hts i_RRef hown hK hP 0 rfl rfl 20 (by decide) (hts _ wf_RRef_109) (fun _ h9 => h9) rfl d_RRef_forgetMark_145 ?_
      refine lv_imul hx hb d_RRef_forgetMark_148 ?_
      refine lv_iload_n hx hb d_RRef_forgetMark_149 rfl (lv_at hl 2 rfl) ?_
      refine lv_iadd hx hb d_RRef_forgetMark_150 ?_
      obtain ⟨b14, hm⟩ := on hm
      refine va_lald hx hb hK hP 14 3 rfl rfl b14 d_RRef_forgetMark_151 ?_
      obtain ⟨b15, hm⟩ := on hm
      refine va_last hx hb hK hP hD hS 14 3 rfl rfl b15 d_RRef_forgetMark_152 (fun H locs hP hD hS => ?_)
      replace hP : va_P D classes (wl_Ref ca ad (s_RmPartDigest (s_RmPartRow (s_RmPart g ((g_RmPart g).1, upd (g_RmPart g).2 (((12 * v1) + v2)).toNatClampNeg ((g_RmPart g).2 (((12 * (g_Rmarks g)) + v2)).toNatClampNeg))) ((g_RmPartRow g).1, upd (g_RmPartRow g).2 (((12 * v1) + v2)).toNatClampNeg ((g_RmPartRow g).2 (((12 * (g_Rmarks g)) + v2)).toNatClampNeg))) ((g_RmPartDigest g).1, vp_updL (g_RmPartDigest g).2 (((12 * v1) + v2)).toNatClampNeg ((g_RmPartDigest g).2 (((12 * (g_Rmarks g)) + v2)).toNatClampNeg)))) H := hP
      replace hD : va_D A (wl_Ref ca ad (s_RmPartDigest (s_RmPartRow (s_RmPart g ((g_RmPart g).1, upd (g_RmPart g).2 (((12 * v1) + v2)).toNatClampNeg ((g_RmPart g).2 (((12 * (g_Rmarks g)) + v2)).toNatClampNeg))) ((g_RmPartRow g).1, upd (g_RmPartRow g).2 (((12 * v1) + v2)).toNatClampNeg ((g_RmPartRow g).2 (((12 * (g_Rmarks g)) + v2)).toNatClampNeg))) ((g_RmPartDigest g).1, vp_updL (g_RmPartDigest g).2 (((12 * v1) + v2)).toNatClampNeg ((g_RmPartDigest g).2 (((12 * (g_Rmarks g)) + v2)).toNatClampNeg)))) := hD
      refine lv_iinc (v := (v2 + 1)) (lv' := [(2, .int (v2 + 1)), (0, .ref (ad 0)), (1, .int v1)]) hx hb d_RRef_forgetMark_153 hl (k := 2) rfl rfl (by decide) rfl (fun ls hl => ?_)
      refine lv_goto (tgt := 72) hx hb d_RRef_forgetMark_156 (by decide) ?_
      exact ih (s_RmPartDigest (s_RmPartRow (s_RmPart g ((g_RmPart g).1, upd (g_RmPart g).2 (((12 * v1) + v2)).toNatClampNeg ((g_RmPart g).2 (((12 * (g_Rmarks g)) + v2)).toNatClampNeg))) ((g_RmPartRow g).1, upd (g_RmPartRow g).2 (((12 * v1) + v2)).toNatClampNeg ((g_RmPartRow g).2 (((12 * (g_Rmarks g)) + v2)).toNatClampNeg))) ((g_RmPartDigest g).1, vp_updL (g_RmPartDigest g).2 (((12 * v1) + v2)).toNatClampNeg ((g_RmPartDigest g).2 (((12 * (g_Rmarks g)) + v2)).toNatClampNeg))) v1 (v2 + 1) _ hm _ _ hP hD hS ls (lv_sub hl [1, 2, 0] rfl)
set_option maxHeartbeats 4000000 in
set_option maxRecDepth 100000 in
theorem c_RRef_forgetMark (l : Launch) (D : va_G) (ca : Nat → ClassId) (ad : Nat → Nat) (sz : Nat) (g : St_Ref) (p1 : Int32) (res : St_Ref) (hm : m_RRef_forgetMark g p1 = some res) : Met l y_RRef_forgetMark (cws y_RRef_forgetMark b_RRef_forgetMark 3 none) (RM 0 0) (PreW D ca (wl_Ref ca ad g) [.ref (ad 0), .int p1] sz) (QRm D none (wl_Ref ca ad res) (va_A (wl_Ref ca ad g) sz)) 0 0 (va_A (wl_Ref ca ad g) sz) := by
  refine met_ofM (own := R_RRef) (by decide) rfl (Nat.le_of_ble_eq_true rfl) ?_
  intro p e s m below meth c A X hA hP hD ls hl
  obtain ⟨hx, hb, hml, hr, hown, hts, hK, hlocks⟩ := id X
  have hS : va_S A s.heap s.heap [] := va_S.rf
  have hl : lv_has ls 3 [(0, .ref (ad 0)), (1, .int p1)] := hl
  unfold m_RRef_forgetMark at hm
  refine lv_aload_n hx hb d_RRef_forgetMark_0 rfl (lv_at hl 0 rfl) ?_
  refine lv_dup hx hb d_RRef_forgetMark_1 rfl ?_
  refine va_get (D := D) (ci := 6) (v := .int (g_Rmarks g)) (C := R_RRef) (T := F_RRef) (N := 29) hx hb hts i_RRef hown hK hP 0 rfl rfl 20 (by decide) (hts _ wf_RRef_109) (fun _ h9 => h9) rfl d_RRef_forgetMark_2 ?_
  refine lv_iconst (v := 1) hx hb d_RRef_forgetMark_5 (by decide) ?_
  refine lv_isub hx hb d_RRef_forgetMark_6 ?_
  refine va_put (D := D) (ci := 6) (v := .int ((g_Rmarks g) - 1)) (ty := .int) (C := R_RRef) (T := F_RRef) (N := 29) hx hb hts i_RRef t_RRef t_RRef_ok n_RRef hown hK hP hD hS 0 rfl rfl 20 (by decide) (hts _ wf_RRef_109) (fun _ h9 => h9) rfl (by decide +kernel) rfl rfl (Nat.le_of_ble_eq_true rfl) d_RRef_forgetMark_7 (fun H locs hP hD hS => ?_)
  replace hP : va_P D classes (wl_Ref ca ad (s_Rmarks g ((g_Rmarks g) - 1))) H := hP
  replace hD : va_D A (wl_Ref ca ad (s_Rmarks g ((g_Rmarks g) - 1))) := hD
  refine lv_aload_n hx hb d_RRef_forgetMark_10 rfl (lv_at hl 0 rfl) ?_
  refine va_get (D := D) (ci := 6) (v := .ref (ad 8)) (C := R_RRef) (T := F_RRef) (N := 29) hx hb hts i_RRef hown hK hP 0 rfl rfl 13 (by decide) (hts _ wf_RRef_41) (fun _ h9 => h9) rfl d_RRef_forgetMark_11 ?_
  refine lv_iload_n hx hb d_RRef_forgetMark_14 rfl (lv_at hl 1 rfl) ?_
  refine lv_aload_n hx hb d_RRef_forgetMark_15 rfl (lv_at hl 0 rfl) ?_
  refine va_get (D := D) (ci := 6) (v := .ref (ad 8)) (C := R_RRef) (T := F_RRef) (N := 29) hx hb hts i_RRef hown hK hP 0 rfl rfl 13 (by decide) (hts _ wf_RRef_41) (fun _ h9 => h9) rfl d_RRef_forgetMark_16 ?_
  refine lv_aload_n hx hb d_RRef_forgetMark_19 rfl (lv_at hl 0 rfl) ?_
  refine va_get (D := D) (ci := 6) (v := .int ((g_Rmarks g) - 1)) (C := R_RRef) (T := F_RRef) (N := 29) hx hb hts i_RRef hown hK hP 0 rfl rfl 20 (by decide) (hts _ wf_RRef_109) (fun _ h9 => h9) rfl d_RRef_forgetMark_20 ?_
  obtain ⟨b1, hm⟩ := on hm
  refine va_iald hx hb hK hP 8 2 rfl rfl b1 d_RRef_forgetMark_23 ?_
  obtain ⟨b2, hm⟩ := on hm
  refine va_iast hx hb hK hP hD hS 8 2 rfl rfl b2 d_RRef_forgetMark_24 (fun H locs hP hD hS => ?_)
  replace hP : va_P D classes (wl_Ref ca ad (s_RmNumber (s_Rmarks g ((g_Rmarks g) - 1)) ((g_RmNumber g).1, upd (g_RmNumber g).2 (p1).toNatClampNeg ((g_RmNumber g).2 (((g_Rmarks g) - 1)).toNatClampNeg)))) H := hP
  replace hD : va_D A (wl_Ref ca ad (s_RmNumber (s_Rmarks g ((g_Rmarks g) - 1)) ((g_RmNumber g).1, upd (g_RmNumber g).2 (p1).toNatClampNeg ((g_RmNumber g).2 (((g_Rmarks g) - 1)).toNatClampNeg)))) := hD
  refine lv_aload_n hx hb d_RRef_forgetMark_25 rfl (lv_at hl 0 rfl) ?_
  refine va_get (D := D) (ci := 6) (v := .ref (ad 9)) (C := R_RRef) (T := F_RRef) (N := 29) hx hb hts i_RRef hown hK hP 0 rfl rfl 14 (by decide) (hts _ wf_RRef_44) (fun _ h9 => h9) rfl d_RRef_forgetMark_26 ?_
  refine lv_iload_n hx hb d_RRef_forgetMark_29 rfl (lv_at hl 1 rfl) ?_
  refine lv_aload_n hx hb d_RRef_forgetMark_30 rfl (lv_at hl 0 rfl) ?_
  refine va_get (D := D) (ci := 6) (v := .ref (ad 9)) (C := R_RRef) (T := F_RRef) (N := 29) hx hb hts i_RRef hown hK hP 0 rfl rfl 14 (by decide) (hts _ wf_RRef_44) (fun _ h9 => h9) rfl d_RRef_forgetMark_31 ?_
  refine lv_aload_n hx hb d_RRef_forgetMark_34 rfl (lv_at hl 0 rfl) ?_
  refine va_get (D := D) (ci := 6) (v := .int ((g_Rmarks g) - 1)) (C := R_RRef) (T := F_RRef) (N := 29) hx hb hts i_RRef hown hK hP 0 rfl rfl 20 (by decide) (hts _ wf_RRef_109) (fun _ h9 => h9) rfl d_RRef_forgetMark_35 ?_
  obtain ⟨b3, hm⟩ := on hm
  refine va_iald hx hb hK hP 9 2 rfl rfl b3 d_RRef_forgetMark_38 ?_
  obtain ⟨b4, hm⟩ := on hm
  refine va_iast hx hb hK hP hD hS 9 2 rfl rfl b4 d_RRef_forgetMark_39 (fun H locs hP hD hS => ?_)
  replace hP : va_P D classes (wl_Ref ca ad (s_RmRow (s_RmNumber (s_Rmarks g ((g_Rmarks g) - 1)) ((g_RmNumber g).1, upd (g_RmNumber g).2 (p1).toNatClampNeg ((g_RmNumber g).2 (((g_Rmarks g) - 1)).toNatClampNeg))) ((g_RmRow g).1, upd (g_RmRow g).2 (p1).toNatClampNeg ((g_RmRow g).2 (((g_Rmarks g) - 1)).toNatClampNeg)))) H := hP
  replace hD : va_D A (wl_Ref ca ad (s_RmRow (s_RmNumber (s_Rmarks g ((g_Rmarks g) - 1)) ((g_RmNumber g).1, upd (g_RmNumber g).2 (p1).toNatClampNeg ((g_RmNumber g).2 (((g_Rmarks g) - 1)).toNatClampNeg))) ((g_RmRow g).1, upd (g_RmRow g).2 (p1).toNatClampNeg ((g_RmRow g).2 (((g_Rmarks g) - 1)).toNatClampNeg)))) := hD
  refine lv_aload_n hx hb d_RRef_forgetMark_40 rfl (lv_at hl 0 rfl) ?_
  refine va_get (D := D) (ci := 6) (v := .ref (ad 10)) (C := R_RRef) (T := F_RRef) (N := 29) hx hb hts i_RRef hown hK hP 0 rfl rfl 15 (by decide) (hts _ wf_RRef_47) (fun _ h9 => h9) rfl d_RRef_forgetMark_41 ?_
  refine lv_iload_n hx hb d_RRef_forgetMark_44 rfl (lv_at hl 1 rfl) ?_
  refine lv_aload_n hx hb d_RRef_forgetMark_45 rfl (lv_at hl 0 rfl) ?_
  refine va_get (D := D) (ci := 6) (v := .ref (ad 10)) (C := R_RRef) (T := F_RRef) (N := 29) hx hb hts i_RRef hown hK hP 0 rfl rfl 15 (by decide) (hts _ wf_RRef_47) (fun _ h9 => h9) rfl d_RRef_forgetMark_46 ?_
  refine lv_aload_n hx hb d_RRef_forgetMark_49 rfl (lv_at hl 0 rfl) ?_
  refine va_get (D := D) (ci := 6) (v := .int ((g_Rmarks g) - 1)) (C := R_RRef) (T := F_RRef) (N := 29) hx hb hts i_RRef hown hK hP 0 rfl rfl 20 (by decide) (hts _ wf_RRef_109) (fun _ h9 => h9) rfl d_RRef_forgetMark_50 ?_
  obtain ⟨b5, hm⟩ := on hm
  refine va_iald hx hb hK hP 10 2 rfl rfl b5 d_RRef_forgetMark_53 ?_
  obtain ⟨b6, hm⟩ := on hm
  refine va_iast hx hb hK hP hD hS 10 2 rfl rfl b6 d_RRef_forgetMark_54 (fun H locs hP hD hS => ?_)
  replace hP : va_P D classes (wl_Ref ca ad (s_RmCount (s_RmRow (s_RmNumber (s_Rmarks g ((g_Rmarks g) - 1)) ((g_RmNumber g).1, upd (g_RmNumber g).2 (p1).toNatClampNeg ((g_RmNumber g).2 (((g_Rmarks g) - 1)).toNatClampNeg))) ((g_RmRow g).1, upd (g_RmRow g).2 (p1).toNatClampNeg ((g_RmRow g).2 (((g_Rmarks g) - 1)).toNatClampNeg))) ((g_RmCount g).1, upd (g_RmCount g).2 (p1).toNatClampNeg ((g_RmCount g).2 (((g_Rmarks g) - 1)).toNatClampNeg)))) H := hP
  replace hD : va_D A (wl_Ref ca ad (s_RmCount (s_RmRow (s_RmNumber (s_Rmarks g ((g_Rmarks g) - 1)) ((g_RmNumber g).1, upd (g_RmNumber g).2 (p1).toNatClampNeg ((g_RmNumber g).2 (((g_Rmarks g) - 1)).toNatClampNeg))) ((g_RmRow g).1, upd (g_RmRow g).2 (p1).toNatClampNeg ((g_RmRow g).2 (((g_Rmarks g) - 1)).toNatClampNeg))) ((g_RmCount g).1, upd (g_RmCount g).2 (p1).toNatClampNeg ((g_RmCount g).2 (((g_Rmarks g) - 1)).toNatClampNeg)))) := hD
  refine lv_aload_n hx hb d_RRef_forgetMark_55 rfl (lv_at hl 0 rfl) ?_
  refine va_get (D := D) (ci := 6) (v := .ref (ad 11)) (C := R_RRef) (T := F_RRef) (N := 29) hx hb hts i_RRef hown hK hP 0 rfl rfl 16 (by decide) (hts _ wf_RRef_50) (fun _ h9 => h9) rfl d_RRef_forgetMark_56 ?_
  refine lv_iload_n hx hb d_RRef_forgetMark_59 rfl (lv_at hl 1 rfl) ?_
  refine lv_aload_n hx hb d_RRef_forgetMark_60 rfl (lv_at hl 0 rfl) ?_
  refine va_get (D := D) (ci := 6) (v := .ref (ad 11)) (C := R_RRef) (T := F_RRef) (N := 29) hx hb hts i_RRef hown hK hP 0 rfl rfl 16 (by decide) (hts _ wf_RRef_50) (fun _ h9 => h9) rfl d_RRef_forgetMark_61 ?_
  refine lv_aload_n hx hb d_RRef_forgetMark_64 rfl (lv_at hl 0 rfl) ?_
  refine va_get (D := D) (ci := 6) (v := .int ((g_Rmarks g) - 1)) (C := R_RRef) (T := F_RRef) (N := 29) hx hb hts i_RRef hown hK hP 0 rfl rfl 20 (by decide) (hts _ wf_RRef_109) (fun _ h9 => h9) rfl d_RRef_forgetMark_65 ?_
  obtain ⟨b7, hm⟩ := on hm
  refine va_lald hx hb hK hP 11 3 rfl rfl b7 d_RRef_forgetMark_68 ?_
  obtain ⟨b8, hm⟩ := on hm
  refine va_last hx hb hK hP hD hS 11 3 rfl rfl b8 d_RRef_forgetMark_69 (fun H locs hP hD hS => ?_)
  replace hP : va_P D classes (wl_Ref ca ad (s_RmDigest (s_RmCount (s_RmRow (s_RmNumber (s_Rmarks g ((g_Rmarks g) - 1)) ((g_RmNumber g).1, upd (g_RmNumber g).2 (p1).toNatClampNeg ((g_RmNumber g).2 (((g_Rmarks g) - 1)).toNatClampNeg))) ((g_RmRow g).1, upd (g_RmRow g).2 (p1).toNatClampNeg ((g_RmRow g).2 (((g_Rmarks g) - 1)).toNatClampNeg))) ((g_RmCount g).1, upd (g_RmCount g).2 (p1).toNatClampNeg ((g_RmCount g).2 (((g_Rmarks g) - 1)).toNatClampNeg))) ((g_RmDigest g).1, vp_updL (g_RmDigest g).2 (p1).toNatClampNeg ((g_RmDigest g).2 (((g_Rmarks g) - 1)).toNatClampNeg)))) H := hP
  replace hD : va_D A (wl_Ref ca ad (s_RmDigest (s_RmCount (s_RmRow (s_RmNumber (s_Rmarks g ((g_Rmarks g) - 1)) ((g_RmNumber g).1, upd (g_RmNumber g).2 (p1).toNatClampNeg ((g_RmNumber g).2 (((g_Rmarks g) - 1)).toNatClampNeg))) ((g_RmRow g).1, upd (g_RmRow g).2 (p1).toNatClampNeg ((g_RmRow g).2 (((g_Rmarks g) - 1)).toNatClampNeg))) ((g_RmCount g).1, upd (g_RmCount g).2 (p1).toNatClampNeg ((g_RmCount g).2 (((g_Rmarks g) - 1)).toNatClampNeg))) ((g_RmDigest g).1, vp_updL (g_RmDigest g).2 (p1).toNatClampNeg ((g_RmDigest g).2 (((g_Rmarks g) - 1)).toNatClampNeg)))) := hD
  refine lv_iconst (v := 0) hx hb d_RRef_forgetMark_70 (by decide) ?_
  refine lv_istore_n (lv' := [(2, .int 0), (0, .ref (ad 0)), (1, .int p1)]) hx hb d_RRef_forgetMark_71 rfl hl (by decide) rfl (fun ls hl => ?_)
  exact k_m_RRef_forgetMark_L72 X hA FU (s_RmDigest (s_RmCount (s_RmRow (s_RmNumber (s_Rmarks g ((g_Rmarks g) - 1)) ((g_RmNumber g).1, upd (g_RmNumber g).2 (p1).toNatClampNeg ((g_RmNumber g).2 (((g_Rmarks g) - 1)).toNatClampNeg))) ((g_RmRow g).1, upd (g_RmRow g).2 (p1).toNatClampNeg ((g_RmRow g).2 (((g_Rmarks g) - 1)).toNatClampNeg))) ((g_RmCount g).1, upd (g_RmCount g).2 (p1).toNatClampNeg ((g_RmCount g).2 (((g_Rmarks g) - 1)).toNatClampNeg))) ((g_RmDigest g).1, vp_updL (g_RmDigest g).2 (p1).toNatClampNeg ((g_RmDigest g).2 (((g_Rmarks g) - 1)).toNatClampNeg))) p1 0 _ hm _ _ hP hD hS ls (lv_sub hl [1, 2, 0] rfl)
set_option maxHeartbeats 4000000 in
set_option maxRecDepth 100000 in
theorem c_RRef_give (l : Launch) (D : va_G) (ca : Nat → ClassId) (ad : Nat → Nat) (sz : Nat) (g : St_Ref) (p1 : Int32) (res : Int32 × St_Ref) (hm : m_RRef_give g p1 = some res) : Met l y_RRef_give (cws y_RRef_give b_RRef_give 3 (some .int)) (RM 1 22) (PreW D ca (wl_Ref ca ad g) [.ref (ad 0), .int p1] sz) (QRm D (some (.int res.1)) (wl_Ref ca ad res.2) (va_A (wl_Ref ca ad g) sz)) 0 0 (va_A (wl_Ref ca ad g) sz) := by
  refine met_ofM (own := R_RRef) (by decide) rfl (Nat.le_of_ble_eq_true rfl) ?_
  intro p e s m below meth c A X hA hP hD ls hl
  obtain ⟨hx, hb, hml, hr, hown, hts, hK, hlocks⟩ := id X
  have hS : va_S A s.heap s.heap [] := va_S.rf
  have hl : lv_has ls 3 [(0, .ref (ad 0)), (1, .int p1)] := hl
  unfold m_RRef_give at hm
  refine lv_aload_n hx hb d_RRef_give_0 rfl (lv_at hl 0 rfl) ?_
  refine va_get (D := D) (ci := 6) (v := .int (g_Ropen g)) (C := R_RRef) (T := F_RRef) (N := 29) hx hb hts i_RRef hown hK hP 0 rfl rfl 2 (by decide) (hts _ wf_RRef_13) (fun _ h9 => h9) rfl d_RRef_give_1 ?_
  refine lv_if_ne (tgt := 10) hx hb d_RRef_give_4 (by decide) (fun c1 => ?_) (fun c1 => ?_)
  · replace hm := ineg c1 hm
    refine lv_aload_n hx hb d_RRef_give_10 rfl (lv_at hl 0 rfl) ?_
    refine lv_iload_n hx hb d_RRef_give_11 rfl (lv_at hl 1 rfl) ?_
    obtain ⟨q2, hq2, hm⟩ := ob hm
    refine inv_rVa (C := R_RRef) (As := [.int p1]) (rest := []) (v := .int q2) X (c_RRef_findMark l D ca ad _ g p1 q2 hq2) g_RRef_150 yo_RRef_findMark ⟨Nat.le_of_ble_eq_true rfl, Nat.le_of_ble_eq_true rfl⟩ hl hP hD (ci := 6) rfl rfl hS hA rfl rfl (Nat.le_of_ble_eq_true rfl) ⟨Nat.zero_le _, Nat.zero_le _⟩ d_RRef_give_12 (fun H locs hP hS => ?_)
    refine lv_istore_n (lv' := [(2, .int q2), (0, .ref (ad 0)), (1, .int p1)]) hx hb d_RRef_give_15 rfl hl (by decide) rfl (fun ls hl => ?_)
    refine lv_iload_n hx hb d_RRef_give_16 rfl (lv_at hl 0 rfl) ?_
    refine lv_iconst (v := (-1)) hx hb d_RRef_give_17 (by decide) ?_
    refine lv_icmp_eq (tgt := 31) hx hb d_RRef_give_18 (by decide) (fun c3 => ?_) (fun c3 => ?_)
    · replace hm := ip c3 hm
      refine lv_iconst (v := (-1)) hx hb d_RRef_give_31 (by decide) ?_
      cases hm
      exact ret_mi X hP hS d_RRef_give_32
    · replace hm := ineg c3 hm
      refine lv_aload_n hx hb d_RRef_give_21 rfl (lv_at hl 1 rfl) ?_
      refine va_get (D := D) (ci := 6) (v := .ref (ad 9)) (C := R_RRef) (T := F_RRef) (N := 29) hx hb hts i_RRef hown hK hP 0 rfl rfl 14 (by decide) (hts _ wf_RRef_44) (fun _ h9 => h9) rfl d_RRef_give_22 ?_
      refine lv_iload_n hx hb d_RRef_give_25 rfl (lv_at hl 0 rfl) ?_
      obtain ⟨b4, hm⟩ := on hm
      refine va_iald hx hb hK hP 9 2 rfl rfl b4 d_RRef_give_26 ?_
      refine lv_iconst (v := (-1)) hx hb d_RRef_give_27 (by decide) ?_
      refine lv_icmp_eq (tgt := 33) hx hb d_RRef_give_28 (by decide) (fun c5 => ?_) (fun c5 => ?_)
      · replace hm := ip c5 hm
        refine lv_aload_n hx hb d_RRef_give_33 rfl (lv_at hl 1 rfl) ?_
        refine lv_iload_n hx hb d_RRef_give_34 rfl (lv_at hl 0 rfl) ?_
        obtain ⟨q6, hq6, hm⟩ := ob hm
        refine inv_mUa (C := R_RRef) (As := [.int q2]) (rest := []) X (c_RRef_forgetMark l D ca ad _ g q2 q6 hq6) g_RRef_207 yo_RRef_forgetMark ⟨Nat.le_of_ble_eq_true rfl, Nat.le_of_ble_eq_true rfl⟩ hl hP hD rfl (ci := 6) rfl rfl hS hA rfl rfl (Nat.le_of_ble_eq_true rfl) ⟨Nat.zero_le _, Nat.zero_le _⟩ d_RRef_give_35 (fun H locs hP hD hS => ?_)
        refine lv_iconst (v := 1) hx hb d_RRef_give_38 (by decide) ?_
        cases hm
        exact ret_mi X hP hS d_RRef_give_39
      · replace hm := ineg c5 hm
        refine lv_iconst (v := (-1)) hx hb d_RRef_give_31 (by decide) ?_
        cases hm
        exact ret_mi X hP hS d_RRef_give_32
  · replace hm := ip c1 hm
    refine lv_bipush (v := (-3)) hx hb d_RRef_give_7 (by decide) ?_
    cases hm
    exact ret_mi X hP hS d_RRef_give_9
set_option maxHeartbeats 4000000 in
set_option maxRecDepth 100000 in
theorem k_m_RRef_owner_L93 {p : Program} {l : Launch} {e : Env} {s : State} {m : MethodId} {args : Array Value} {below : List Frame} {meth : Method} {c : Code} {D : va_G} {ca : Nat → ClassId} {ad : Nat → Nat} {A : Nat → Prop} (X : Cx p s m args meth c R_RRef b_RRef_owner 3 (some .int) D ca) (hA : ∀ q, s.heap.size ≤ q → A q)  : ∀ (n : Nat) (g : St_Ref) (v1 : Int32) (v2 : Int32) (res : Int32 × St_Ref), m_RRef_owner_L93  n g v1 v2 = some res → ∀ (H : Heap) (locs : List Loc), va_P D classes (wl_Ref ca ad g) H → va_D A (wl_Ref ca ad g) → va_S A s.heap H locs → ∀ ls : Array Slot, lv_has ls 3 [(0, .ref (ad 0)), (1, .int v1), (2, .int v2)] → W p l e (RM 2 47) s m args below meth c H locs 0 0 (MQ below (QRm D (some (.int res.1)) (wl_Ref ca ad res.2) A) args s 0 0 A) (F0 m 93 ls []) := by
  obtain ⟨hx, hb, hml, hr, hown, hts, hK, hlocks⟩ := id X
  intro n
  induction n with
  | zero =>
    intro g v1 v2 res hm
    rw [m_RRef_owner_L93] at hm
    cases hm
  | succ n ih =>
    intro g v1 v2 res hm H locs hP hD hS ls hl
    rw [m_RRef_owner_L93] at hm
    refine lv_iload_n hx hb d_RRef_owner_93 rfl (lv_at hl 2 rfl) ?_
    refine lv_bipush (v := 8) hx hb d_RRef_owner_94 (by decide) ?_
    refine lv_icmp_ge (tgt := 126) hx hb d_RRef_owner_96 (by decide) (fun c12 => ?_) (fun c12 => ?_)
    · replace hm := ip c12 hm
      refine lv_aload_n hx hb d_RRef_owner_126 rfl (lv_at hl 0 rfl) ?_
      obtain ⟨q13, hq13, hm⟩ := ob hm
      refine inv_mUa (C := R_RRef) (As := []) (rest := []) X (c_RRef_sumDraft l D ca ad _ g q13 hq13) g_RRef_179 yo_RRef_sumDraft ⟨Nat.le_of_ble_eq_true rfl, Nat.le_of_ble_eq_true rfl⟩ hl hP hD rfl (ci := 6) rfl rfl hS hA rfl rfl (Nat.le_of_ble_eq_true rfl) ⟨Nat.zero_le _, Nat.zero_le _⟩ d_RRef_owner_127 (fun H locs hP hD hS => ?_)
      refine lv_aload_n hx hb d_RRef_owner_130 rfl (lv_at hl 0 rfl) ?_
      refine lv_aload_n hx hb d_RRef_owner_131 rfl (lv_at hl 0 rfl) ?_
      refine va_get (D := D) (ci := 6) (v := .int (g_Rserial q13)) (C := R_RRef) (T := F_RRef) (N := 29) hx hb hts i_RRef hown hK hP 0 rfl rfl 22 (by decide) (hts _ wf_RRef_137) (fun _ h9 => h9) rfl d_RRef_owner_132 ?_
      refine lv_iconst (v := 2) hx hb d_RRef_owner_135 (by decide) ?_
      refine lv_irem hx hb d_RRef_owner_136 (by decide) ?_
      refine lv_iconst (v := 0) hx hb d_RRef_owner_137 (by decide) ?_
      obtain ⟨q14, hq14, hm⟩ := ob hm
      refine inv_mVa (C := R_RRef) (As := [.int (jrem (g_Rserial q13) 2), .int 0]) (rest := []) (v := .int q14.1) X (c_RRef_write l D ca ad _ q13 (jrem (g_Rserial q13) 2) 0 q14 hq14) g_RRef_95 yo_RRef_write ⟨Nat.le_of_ble_eq_true rfl, Nat.le_of_ble_eq_true rfl⟩ hl hP hD rfl (ci := 6) rfl rfl hS hA rfl rfl (Nat.le_of_ble_eq_true rfl) ⟨Nat.zero_le _, Nat.zero_le _⟩ d_RRef_owner_138 (fun H locs hP hD hS => ?_)
      refine lv_if_eq (tgt := 153) hx hb d_RRef_owner_141 (by decide) (fun c15 => ?_) (fun c15 => ?_)
      · replace hm := ip c15 hm
        refine lv_bipush (v := (-5)) hx hb d_RRef_owner_153 (by decide) ?_
        cases hm
        exact ret_mi X hP hS d_RRef_owner_155
      · replace hm := ineg c15 hm
        refine lv_aload_n hx hb d_RRef_owner_144 rfl (lv_at hl 0 rfl) ?_
        refine va_get (D := D) (ci := 6) (v := .ref (ad 15)) (C := R_RRef) (T := F_RRef) (N := 29) hx hb hts i_RRef hown hK hP 0 rfl rfl 21 (by decide) (hts _ wf_RRef_62) (fun _ h9 => h9) rfl d_RRef_owner_145 ?_
        refine lv_iload_n hx hb d_RRef_owner_148 rfl (lv_at hl 1 rfl) ?_
        obtain ⟨b16, hm⟩ := on hm
        refine va_iald hx hb hK hP 15 2 rfl rfl b16 d_RRef_owner_149 ?_
        refine lv_goto (tgt := 155) hx hb d_RRef_owner_150 (by decide) ?_
        cases hm
        exact ret_mi X hP hS d_RRef_owner_155
    · replace hm := ineg c12 hm
      refine lv_aload_n hx hb d_RRef_owner_99 rfl (lv_at hl 0 rfl) ?_
      refine va_get (D := D) (ci := 6) (v := .ref (ad 17)) (C := R_RRef) (T := F_RRef) (N := 29) hx hb hts i_RRef hown hK hP 0 rfl rfl 26 (by decide) (hts _ wf_RRef_69) (fun _ h9 => h9) rfl d_RRef_owner_100 ?_
      refine lv_bipush (v := 8) hx hb d_RRef_owner_103 (by decide) ?_
      refine lv_iconst (v := 2) hx hb d_RRef_owner_105 (by decide) ?_
      refine lv_iload_n hx hb d_RRef_owner_106 rfl (lv_at hl 2 rfl) ?_
      refine lv_imul hx hb d_RRef_owner_107 ?_
      refine lv_iadd hx hb d_RRef_owner_108 ?_
      refine lv_iconst (v := 2) hx hb d_RRef_owner_109 (by decide) ?_
      refine lv_aload_n hx hb d_RRef_owner_110 rfl (lv_at hl 0 rfl) ?_
      refine va_get (D := D) (ci := 6) (v := .ref (ad 15)) (C := R_RRef) (T := F_RRef) (N := 29) hx hb hts i_RRef hown hK hP 0 rfl rfl 21 (by decide) (hts _ wf_RRef_62) (fun _ h9 => h9) rfl d_RRef_owner_111 ?_
      refine lv_iload_n hx hb d_RRef_owner_114 rfl (lv_at hl 2 rfl) ?_
      obtain ⟨b17, hm⟩ := on hm
      refine va_iald hx hb hK hP 15 2 rfl rfl b17 d_RRef_owner_115 ?_
      refine lv_i2l (v := ((((g_Rowners g).2 (v2).toNatClampNeg)).toInt64)) hx hb d_RRef_owner_116 rfl ?_
      obtain ⟨q18, hq18, hm⟩ := ob hm
      refine inv_mS (As := [.ref (ad 17), .int (8 + (2 * v2)), .int 2, .long ((((g_Rowners g).2 (v2).toNatClampNeg)).toInt64)]) (rest := []) (ws' := wl_Ref ca ad (s_Rdraft g q18)) X (c_RRef_put l D ca (ad 17) _ (g_Rdraft g) (8 + (2 * v2)) 2 ((((g_Rowners g).2 (v2).toNatClampNeg)).toInt64) q18 hq18) g_RRef_102 yo_RRef_put ⟨Nat.le_of_ble_eq_true rfl, Nat.le_of_ble_eq_true rfl⟩ hl hP hD [17] rfl rfl rfl rfl hS hA rfl rfl (Nat.le_of_ble_eq_true rfl) ⟨Nat.zero_le _, Nat.zero_le _⟩ d_RRef_owner_117 (fun H locs hP hD hS => ?_)
      refine lv_iinc (v := (v2 + 1)) (lv' := [(2, .int (v2 + 1)), (0, .ref (ad 0)), (1, .int v1)]) hx hb d_RRef_owner_120 hl (k := 2) rfl rfl (by decide) rfl (fun ls hl => ?_)
      refine lv_goto (tgt := 93) hx hb d_RRef_owner_123 (by decide) ?_
      exact ih (s_Rdraft g q18) v1 (v2 + 1) _ hm _ _ hP hD hS ls (lv_sub hl [1, 2, 0] rfl)
set_option maxHeartbeats 4000000 in
set_option maxRecDepth 100000 in
theorem c_RRef_owner (l : Launch) (D : va_G) (ca : Nat → ClassId) (ad : Nat → Nat) (sz : Nat) (g : St_Ref) (p1 : Int32) (res : Int32 × St_Ref) (hm : m_RRef_owner g p1 = some res) : Met l y_RRef_owner (cws y_RRef_owner b_RRef_owner 3 (some .int)) (RM 2 47) (PreW D ca (wl_Ref ca ad g) [.ref (ad 0), .int p1] sz) (QRm D (some (.int res.1)) (wl_Ref ca ad res.2) (va_A (wl_Ref ca ad g) sz)) 0 0 (va_A (wl_Ref ca ad g) sz) := by
  refine met_ofM (own := R_RRef) (by decide) rfl (Nat.le_of_ble_eq_true rfl) ?_
  intro p e s m below meth c A X hA hP hD ls hl
  obtain ⟨hx, hb, hml, hr, hown, hts, hK, hlocks⟩ := id X
  have hS : va_S A s.heap s.heap [] := va_S.rf
  have hl : lv_has ls 3 [(0, .ref (ad 0)), (1, .int p1)] := hl
  unfold m_RRef_owner at hm
  refine lv_aload_n hx hb d_RRef_owner_0 rfl (lv_at hl 0 rfl) ?_
  refine va_get (D := D) (ci := 6) (v := .int (g_Ropen g)) (C := R_RRef) (T := F_RRef) (N := 29) hx hb hts i_RRef hown hK hP 0 rfl rfl 2 (by decide) (hts _ wf_RRef_13) (fun _ h9 => h9) rfl d_RRef_owner_1 ?_
  refine lv_if_ne (tgt := 10) hx hb d_RRef_owner_4 (by decide) (fun c1 => ?_) (fun c1 => ?_)
  · replace hm := ineg c1 hm
    refine lv_iload_n hx hb d_RRef_owner_10 rfl (lv_at hl 1 rfl) ?_
    refine lv_iconst (v := 0) hx hb d_RRef_owner_11 (by decide) ?_
    refine lv_bipush (v := 7) hx hb d_RRef_owner_12 (by decide) ?_
    obtain ⟨q2, hq2, hm⟩ := ob hm
    refine inv_rS (As := [.int p1, .int 0, .int 7]) (rest := []) (v := .int q2) X (c_RRef_isIn l D ca  _ p1 0 7 q2 hq2) g_RRef_172 yo_RRef_isIn ⟨Nat.le_of_ble_eq_true rfl, Nat.le_of_ble_eq_true rfl⟩ hl hP hD [] rfl rfl hS hA rfl rfl (Nat.le_of_ble_eq_true rfl) ⟨Nat.zero_le _, Nat.zero_le _⟩ d_RRef_owner_14 (fun H locs hP hS => ?_)
    refine lv_if_ne (tgt := 23) hx hb d_RRef_owner_17 (by decide) (fun c3 => ?_) (fun c3 => ?_)
    · replace hm := ineg c3 hm
      refine lv_aload_n hx hb d_RRef_owner_23 rfl (lv_at hl 0 rfl) ?_
      refine va_get (D := D) (ci := 6) (v := .ref (ad 15)) (C := R_RRef) (T := F_RRef) (N := 29) hx hb hts i_RRef hown hK hP 0 rfl rfl 21 (by decide) (hts _ wf_RRef_62) (fun _ h9 => h9) rfl d_RRef_owner_24 ?_
      refine lv_iload_n hx hb d_RRef_owner_27 rfl (lv_at hl 1 rfl) ?_
      obtain ⟨b4, hm⟩ := on hm
      refine va_iald hx hb hK hP 15 2 rfl rfl b4 d_RRef_owner_28 ?_
      refine lv_ldc hx hb hown (hts _ wc_RRef_210) d_RRef_owner_29 ?_
      refine lv_icmp_eq (tgt := 43) hx hb d_RRef_owner_31 (by decide) (fun c5 => ?_) (fun c5 => ?_)
      · replace hm := ip c5 hm
        refine lv_bipush (v := (-4)) hx hb d_RRef_owner_43 (by decide) ?_
        cases hm
        exact ret_mi X hP hS d_RRef_owner_45
      · replace hm := ineg c5 hm
        refine lv_aload_n hx hb d_RRef_owner_34 rfl (lv_at hl 0 rfl) ?_
        refine va_get (D := D) (ci := 6) (v := .int (g_Rserial g)) (C := R_RRef) (T := F_RRef) (N := 29) hx hb hts i_RRef hown hK hP 0 rfl rfl 22 (by decide) (hts _ wf_RRef_137) (fun _ h9 => h9) rfl d_RRef_owner_35 ?_
        refine lv_ldc hx hb hown (hts _ wc_RRef_191) d_RRef_owner_38 ?_
        refine lv_icmp_ne (tgt := 46) hx hb d_RRef_owner_40 (by decide) (fun c6 => ?_) (fun c6 => ?_)
        · replace hm := ineg c6 hm
          refine lv_aload_n hx hb d_RRef_owner_46 rfl (lv_at hl 0 rfl) ?_
          obtain ⟨q7, hq7, hm⟩ := ob hm
          refine inv_mUa (C := R_RRef) (As := []) (rest := []) X (c_RRef_clearDraft l D ca ad _ g q7 hq7) g_RRef_99 yo_RRef_clearDraft ⟨Nat.le_of_ble_eq_true rfl, Nat.le_of_ble_eq_true rfl⟩ hl hP hD rfl (ci := 6) rfl rfl hS hA rfl rfl (Nat.le_of_ble_eq_true rfl) ⟨Nat.zero_le _, Nat.zero_le _⟩ d_RRef_owner_47 (fun H locs hP hD hS => ?_)
          refine lv_aload_n hx hb d_RRef_owner_50 rfl (lv_at hl 0 rfl) ?_
          refine va_get (D := D) (ci := 6) (v := .ref (ad 15)) (C := R_RRef) (T := F_RRef) (N := 29) hx hb hts i_RRef hown hK hP 0 rfl rfl 21 (by decide) (hts _ wf_RRef_62) (fun _ h9 => h9) rfl d_RRef_owner_51 ?_
          refine lv_iload_n hx hb d_RRef_owner_54 rfl (lv_at hl 1 rfl) ?_
          refine lv_dup2_11 hx hb d_RRef_owner_55 rfl rfl ?_
          obtain ⟨b8, hm⟩ := on hm
          refine va_iald hx hb hK hP 15 2 rfl rfl b8 d_RRef_owner_56 ?_
          refine lv_iconst (v := 1) hx hb d_RRef_owner_57 (by decide) ?_
          refine lv_iadd hx hb d_RRef_owner_58 ?_
          obtain ⟨b9, hm⟩ := on hm
          refine va_iast hx hb hK hP hD hS 15 2 rfl rfl b9 d_RRef_owner_59 (fun H locs hP hD hS => ?_)
          replace hP : va_P D classes (wl_Ref ca ad (s_Rowners q7 ((g_Rowners q7).1, upd (g_Rowners q7).2 (p1).toNatClampNeg (((g_Rowners q7).2 (p1).toNatClampNeg) + 1)))) H := hP
          replace hD : va_D A (wl_Ref ca ad (s_Rowners q7 ((g_Rowners q7).1, upd (g_Rowners q7).2 (p1).toNatClampNeg (((g_Rowners q7).2 (p1).toNatClampNeg) + 1)))) := hD
          refine lv_aload_n hx hb d_RRef_owner_60 rfl (lv_at hl 0 rfl) ?_
          refine lv_dup hx hb d_RRef_owner_61 rfl ?_
          refine va_get (D := D) (ci := 6) (v := .int (g_Rserial q7)) (C := R_RRef) (T := F_RRef) (N := 29) hx hb hts i_RRef hown hK hP 0 rfl rfl 22 (by decide) (hts _ wf_RRef_137) (fun _ h9 => h9) rfl d_RRef_owner_62 ?_
          refine lv_iconst (v := 1) hx hb d_RRef_owner_65 (by decide) ?_
          refine lv_iadd hx hb d_RRef_owner_66 ?_
          refine va_put (D := D) (ci := 6) (v := .int ((g_Rserial q7) + 1)) (ty := .int) (C := R_RRef) (T := F_RRef) (N := 29) hx hb hts i_RRef t_RRef t_RRef_ok n_RRef hown hK hP hD hS 0 rfl rfl 22 (by decide) (hts _ wf_RRef_137) (fun _ h9 => h9) rfl (by decide +kernel) rfl rfl (Nat.le_of_ble_eq_true rfl) d_RRef_owner_67 (fun H locs hP hD hS => ?_)
          replace hP : va_P D classes (wl_Ref ca ad (s_Rserial (s_Rowners q7 ((g_Rowners q7).1, upd (g_Rowners q7).2 (p1).toNatClampNeg (((g_Rowners q7).2 (p1).toNatClampNeg) + 1))) ((g_Rserial q7) + 1))) H := hP
          replace hD : va_D A (wl_Ref ca ad (s_Rserial (s_Rowners q7 ((g_Rowners q7).1, upd (g_Rowners q7).2 (p1).toNatClampNeg (((g_Rowners q7).2 (p1).toNatClampNeg) + 1))) ((g_Rserial q7) + 1))) := hD
          refine lv_aload_n hx hb d_RRef_owner_70 rfl (lv_at hl 0 rfl) ?_
          refine va_get (D := D) (ci := 6) (v := .ref (ad 17)) (C := R_RRef) (T := F_RRef) (N := 29) hx hb hts i_RRef hown hK hP 0 rfl rfl 26 (by decide) (hts _ wf_RRef_69) (fun _ h9 => h9) rfl d_RRef_owner_71 ?_
          refine lv_iconst (v := 0) hx hb d_RRef_owner_74 (by decide) ?_
          refine lv_iconst (v := 4) hx hb d_RRef_owner_75 (by decide) ?_
          obtain ⟨b10, hm⟩ := on hm
          refine va_bast hx hb hK hP hD hS 17 0 rfl rfl b10 d_RRef_owner_76 (fun H locs hP hD hS => ?_)
          replace hP : va_P D classes (wl_Ref ca ad (s_Rdraft (s_Rserial (s_Rowners q7 ((g_Rowners q7).1, upd (g_Rowners q7).2 (p1).toNatClampNeg (((g_Rowners q7).2 (p1).toNatClampNeg) + 1))) ((g_Rserial q7) + 1)) ((g_Rdraft q7).1, upd (g_Rdraft q7).2 (0 : Int32).toNatClampNeg (vp_nar .byte 4)))) H := hP
          replace hD : va_D A (wl_Ref ca ad (s_Rdraft (s_Rserial (s_Rowners q7 ((g_Rowners q7).1, upd (g_Rowners q7).2 (p1).toNatClampNeg (((g_Rowners q7).2 (p1).toNatClampNeg) + 1))) ((g_Rserial q7) + 1)) ((g_Rdraft q7).1, upd (g_Rdraft q7).2 (0 : Int32).toNatClampNeg (vp_nar .byte 4)))) := hD
          refine lv_aload_n hx hb d_RRef_owner_77 rfl (lv_at hl 0 rfl) ?_
          refine va_get (D := D) (ci := 6) (v := .ref (ad 17)) (C := R_RRef) (T := F_RRef) (N := 29) hx hb hts i_RRef hown hK hP 0 rfl rfl 26 (by decide) (hts _ wf_RRef_69) (fun _ h9 => h9) rfl d_RRef_owner_78 ?_
          refine lv_iconst (v := 4) hx hb d_RRef_owner_81 (by decide) ?_
          refine lv_iconst (v := 4) hx hb d_RRef_owner_82 (by decide) ?_
          refine lv_aload_n hx hb d_RRef_owner_83 rfl (lv_at hl 0 rfl) ?_
          refine va_get (D := D) (ci := 6) (v := .int ((g_Rserial q7) + 1)) (C := R_RRef) (T := F_RRef) (N := 29) hx hb hts i_RRef hown hK hP 0 rfl rfl 22 (by decide) (hts _ wf_RRef_137) (fun _ h9 => h9) rfl d_RRef_owner_84 ?_
          refine lv_i2l (v := ((((g_Rserial q7) + 1)).toInt64)) hx hb d_RRef_owner_87 rfl ?_
          obtain ⟨q11, hq11, hm⟩ := ob hm
          refine inv_mS (As := [.ref (ad 17), .int 4, .int 4, .long ((((g_Rserial q7) + 1)).toInt64)]) (rest := []) (ws' := wl_Ref ca ad (s_Rdraft (s_Rdraft (s_Rserial (s_Rowners q7 ((g_Rowners q7).1, upd (g_Rowners q7).2 (p1).toNatClampNeg (((g_Rowners q7).2 (p1).toNatClampNeg) + 1))) ((g_Rserial q7) + 1)) ((g_Rdraft q7).1, upd (g_Rdraft q7).2 (0 : Int32).toNatClampNeg (vp_nar .byte 4))) q11)) X (c_RRef_put l D ca (ad 17) _ ((g_Rdraft q7).1, upd (g_Rdraft q7).2 (0 : Int32).toNatClampNeg (vp_nar .byte 4)) 4 4 ((((g_Rserial q7) + 1)).toInt64) q11 hq11) g_RRef_102 yo_RRef_put ⟨Nat.le_of_ble_eq_true rfl, Nat.le_of_ble_eq_true rfl⟩ hl hP hD [17] rfl rfl rfl rfl hS hA rfl rfl (Nat.le_of_ble_eq_true rfl) ⟨Nat.zero_le _, Nat.zero_le _⟩ d_RRef_owner_88 (fun H locs hP hD hS => ?_)
          refine lv_iconst (v := 0) hx hb d_RRef_owner_91 (by decide) ?_
          refine lv_istore_n (lv' := [(2, .int 0), (0, .ref (ad 0)), (1, .int p1)]) hx hb d_RRef_owner_92 rfl hl (by decide) rfl (fun ls hl => ?_)
          exact k_m_RRef_owner_L93 X hA FU (s_Rdraft (s_Rdraft (s_Rserial (s_Rowners q7 ((g_Rowners q7).1, upd (g_Rowners q7).2 (p1).toNatClampNeg (((g_Rowners q7).2 (p1).toNatClampNeg) + 1))) ((g_Rserial q7) + 1)) ((g_Rdraft q7).1, upd (g_Rdraft q7).2 (0 : Int32).toNatClampNeg (vp_nar .byte 4))) q11) p1 0 _ hm _ _ hP hD hS ls (lv_sub hl [1, 2, 0] rfl)
        · replace hm := ip c6 hm
          refine lv_bipush (v := (-4)) hx hb d_RRef_owner_43 (by decide) ?_
          cases hm
          exact ret_mi X hP hS d_RRef_owner_45
    · replace hm := ip c3 hm
      refine lv_bipush (v := (-2)) hx hb d_RRef_owner_20 (by decide) ?_
      cases hm
      exact ret_mi X hP hS d_RRef_owner_22
  · replace hm := ip c1 hm
    refine lv_bipush (v := (-3)) hx hb d_RRef_owner_7 (by decide) ?_
    cases hm
    exact ret_mi X hP hS d_RRef_owner_9
set_option maxHeartbeats 4000000 in
set_option maxRecDepth 100000 in
theorem k_m_RRef_named0_L15 {p : Program} {l : Launch} {e : Env} {s : State} {m : MethodId} {args : Array Value} {below : List Frame} {meth : Method} {c : Code} {D : va_G} {ca : Nat → ClassId} {ad : Nat → Nat} {A : Nat → Prop} (X : Cx p s m args meth c R_RRef b_RRef_named0 5 (some .int) D ca) (hA : ∀ q, s.heap.size ≤ q → A q) {g : St_Ref} {k : Int32 → Int32 → Int32 → Option (Int32)} (hk : ∀ (w1 : Int32) (w2 : Int32) (w3 : Int32) (res : Int32), k w1 w2 w3 = some res → ∀ (H : Heap) (locs : List Loc), va_P D classes (wl_Ref ca ad g) H → va_D (fun _ => True) (wl_Ref ca ad g) → va_S A s.heap H locs → ∀ ls : Array Slot, lv_has ls 5 [(0, .ref (ad 0)), (1, .int w1), (2, .int w2), (3, .int w3)] → W p l e (RM 0 0) s m args below meth c H locs 0 0 (MQ below (QRr (.int res) A) args s 0 0 A) (F0 m 56 ls [])) : ∀ (n : Nat) (v1 : Int32) (v2 : Int32) (v3 : Int32) (v4 : Int32) (res : Int32), m_RRef_named0_L15 g k n v1 v2 v3 v4 = some res → ∀ (H : Heap) (locs : List Loc), va_P D classes (wl_Ref ca ad g) H → va_D (fun _ => True) (wl_Ref ca ad g) → va_S A s.heap H locs → ∀ ls : Array Slot, lv_has ls 5 [(0, .ref (ad 0)), (1, .int v1), (2, .int v2), (3, .int v3), (4, .int v4)] → W p l e (RM 0 0) s m args below meth c H locs 0 0 (MQ below (QRr (.int res) A) args s 0 0 A) (F0 m 15 ls []) := by
  obtain ⟨hx, hb, hml, hr, hown, hts, hK, hlocks⟩ := id X
  intro n
  induction n with
  | zero =>
    intro v1 v2 v3 v4 res hm
    rw [m_RRef_named0_L15] at hm
    cases hm
  | succ n ih =>
    intro v1 v2 v3 v4 res hm H locs hP hD hS ls hl
    rw [m_RRef_named0_L15] at hm
    refine lv_iload hx hb d_RRef_named0_15 (lv_at hl 4 rfl) ?_
    refine lv_aload_n hx hb d_RRef_named0_17 rfl (lv_at hl 0 rfl) ?_
    refine va_get (D := D) (ci := 6) (v := .ref (ad 10)) (C := R_RRef) (T := F_RRef) (N := 29) hx hb hts i_RRef hown hK hP 0 rfl rfl 15 (by decide) (hts _ wf_RRef_47) (fun _ h9 => h9) rfl d_RRef_named0_18 ?_
    refine lv_iload_n hx hb d_RRef_named0_21 rfl (lv_at hl 3 rfl) ?_
    obtain ⟨b2, hm⟩ := on hm
    refine va_iald hx hb hK hP 10 2 rfl rfl b2 d_RRef_named0_22 ?_
    refine lv_icmp_ge (tgt := 56) hx hb d_RRef_named0_23 (by decide) (fun c3 => ?_) (fun c3 => ?_)
    · replace hm := ip c3 hm
      exact hk v1 v2 v3 _ hm _ _ hP hD hS ls (lv_sub hl [0, 1, 2, 3] rfl)
    · replace hm := ineg c3 hm
      refine lv_iload_n hx hb d_RRef_named0_26 rfl (lv_at hl 2 rfl) ?_
      refine lv_aload_n hx hb d_RRef_named0_27 rfl (lv_at hl 0 rfl) ?_
      refine va_get (D := D) (ci := 6) (v := .ref (ad 12)) (C := R_RRef) (T := F_RRef) (N := 29) hx hb hts i_RRef hown hK hP 0 rfl rfl 17 (by decide) (hts _ wf_RRef_53) (fun _ h9 => h9) rfl d_RRef_named0_28 ?_
      refine lv_bipush (v := 12) hx hb d_RRef_named0_31 (by decide) ?_
      refine lv_iload_n hx hb d_RRef_named0_33 rfl (lv_at hl 3 rfl) ?_
      refine lv_imul hx hb d_RRef_named0_34 ?_
      refine lv_iload hx hb d_RRef_named0_35 (lv_at hl 4 rfl) ?_
      refine lv_iadd hx hb d_RRef_named0_37 ?_
      obtain ⟨b4, hm⟩ := on hm
      refine va_iald hx hb hK hP 12 2 rfl rfl b4 d_RRef_named0_38 ?_
      refine lv_iload_n hx hb d_RRef_named0_39 rfl (lv_at hl 1 rfl) ?_
      refine lv_icmp_ne (tgt := 47) hx hb d_RRef_named0_40 (by decide) (fun c5 => ?_) (fun c5 => ?_)
      · replace hm := ineg c5 hm
        refine lv_iconst (v := 0) hx hb d_RRef_named0_47 (by decide) ?_
        refine lv_iadd hx hb d_RRef_named0_48 ?_
        refine lv_istore_n (lv' := [(2, .int (v2 + 0)), (0, .ref (ad 0)), (1, .int v1), (3, .int v3), (4, .int v4)]) hx hb d_RRef_named0_49 rfl hl (by decide) rfl (fun ls hl => ?_)
        refine lv_iinc (v := (v4 + 1)) (lv' := [(4, .int (v4 + 1)), (2, .int (v2 + 0)), (0, .ref (ad 0)), (1, .int v1), (3, .int v3)]) hx hb d_RRef_named0_50 hl (k := 4) rfl rfl (by decide) rfl (fun ls hl => ?_)
        refine lv_goto (tgt := 15) hx hb d_RRef_named0_53 (by decide) ?_
        exact ih  v1 (v2 + 0) v3 (v4 + 1) _ hm _ _ hP hD hS ls (lv_sub hl [2, 3, 1, 4, 0] rfl)
      · replace hm := ip c5 hm
        refine lv_iconst (v := 1) hx hb d_RRef_named0_43 (by decide) ?_
        refine lv_goto (tgt := 48) hx hb d_RRef_named0_44 (by decide) ?_
        refine lv_iadd hx hb d_RRef_named0_48 ?_
        refine lv_istore_n (lv' := [(2, .int (v2 + 1)), (0, .ref (ad 0)), (1, .int v1), (3, .int v3), (4, .int v4)]) hx hb d_RRef_named0_49 rfl hl (by decide) rfl (fun ls hl => ?_)
        refine lv_iinc (v := (v4 + 1)) (lv' := [(4, .int (v4 + 1)), (2, .int (v2 + 1)), (0, .ref (ad 0)), (1, .int v1), (3, .int v3)]) hx hb d_RRef_named0_50 hl (k := 4) rfl rfl (by decide) rfl (fun ls hl => ?_)
        refine lv_goto (tgt := 15) hx hb d_RRef_named0_53 (by decide) ?_
        exact ih  v1 (v2 + 1) v3 (v4 + 1) _ hm _ _ hP hD hS ls (lv_sub hl [2, 3, 1, 4, 0] rfl)
set_option maxHeartbeats 4000000 in
set_option maxRecDepth 100000 in
theorem k_m_RRef_named0_L4 {p : Program} {l : Launch} {e : Env} {s : State} {m : MethodId} {args : Array Value} {below : List Frame} {meth : Method} {c : Code} {D : va_G} {ca : Nat → ClassId} {ad : Nat → Nat} {A : Nat → Prop} (X : Cx p s m args meth c R_RRef b_RRef_named0 5 (some .int) D ca) (hA : ∀ q, s.heap.size ≤ q → A q) {g : St_Ref} : ∀ (n : Nat) (v1 : Int32) (v2 : Int32) (v3 : Int32) (res : Int32), m_RRef_named0_L4 g n v1 v2 v3 = some res → ∀ (H : Heap) (locs : List Loc), va_P D classes (wl_Ref ca ad g) H → va_D (fun _ => True) (wl_Ref ca ad g) → va_S A s.heap H locs → ∀ ls : Array Slot, lv_has ls 5 [(0, .ref (ad 0)), (1, .int v1), (2, .int v2), (3, .int v3)] → W p l e (RM 0 0) s m args below meth c H locs 0 0 (MQ below (QRr (.int res) A) args s 0 0 A) (F0 m 4 ls []) := by
  obtain ⟨hx, hb, hml, hr, hown, hts, hK, hlocks⟩ := id X
  intro n
  induction n with
  | zero =>
    intro v1 v2 v3 res hm
    rw [m_RRef_named0_L4] at hm
    cases hm
  | succ n ih =>
    intro v1 v2 v3 res hm H locs hP hD hS ls hl
    rw [m_RRef_named0_L4] at hm
    refine lv_iload_n hx hb d_RRef_named0_4 rfl (lv_at hl 3 rfl) ?_
    refine lv_aload_n hx hb d_RRef_named0_5 rfl (lv_at hl 0 rfl) ?_
    refine va_get (D := D) (ci := 6) (v := .int (g_Rmarks g)) (C := R_RRef) (T := F_RRef) (N := 29) hx hb hts i_RRef hown hK hP 0 rfl rfl 20 (by decide) (hts _ wf_RRef_109) (fun _ h9 => h9) rfl d_RRef_named0_6 ?_
    refine lv_icmp_ge (tgt := 62) hx hb d_RRef_named0_9 (by decide) (fun c1 => ?_) (fun c1 => ?_)
    · replace hm := ip c1 hm
      refine lv_iload_n hx hb d_RRef_named0_62 rfl (lv_at hl 2 rfl) ?_
      cases hm
      exact ret_ri X hS d_RRef_named0_63
    · replace hm := ineg c1 hm
      refine lv_iconst (v := 0) hx hb d_RRef_named0_12 (by decide) ?_
      refine lv_istore (lv' := [(4, .int 0), (0, .ref (ad 0)), (1, .int v1), (2, .int v2), (3, .int v3)]) hx hb d_RRef_named0_13 hl (by decide) rfl (fun ls hl => ?_)
      refine k_m_RRef_named0_L15 X hA (k := (fun (v1_6 : Int32) (v2_7 : Int32) (v3_8 : Int32) => m_RRef_named0_L4 g n v1_6 v2_7 (v3_8 + 1))) (fun v1_6 v2_7 v3_8 res hm H locs hP hD hS ls hl => ?_) FU  v1 v2 v3 0 _ hm _ _ hP hD hS ls (lv_sub hl [1, 2, 3, 4, 0] rfl)
      · have hm := hm
        refine lv_iinc (v := (v3_8 + 1)) (lv' := [(3, .int (v3_8 + 1)), (0, .ref (ad 0)), (1, .int v1_6), (2, .int v2_7)]) hx hb d_RRef_named0_56 hl (k := 3) rfl rfl (by decide) rfl (fun ls hl => ?_)
        refine lv_goto (tgt := 4) hx hb d_RRef_named0_59 (by decide) ?_
        exact ih  v1_6 v2_7 (v3_8 + 1) _ hm _ _ hP hD hS ls (lv_sub hl [1, 2, 3, 0] rfl)
set_option maxHeartbeats 4000000 in
set_option maxRecDepth 100000 in
theorem c_RRef_named0 (l : Launch) (D : va_G) (ca : Nat → ClassId) (ad : Nat → Nat) (sz : Nat) (g : St_Ref) (p1 : Int32) (res : Int32) (hm : m_RRef_named0 g p1 = some res) : Met l y_RRef_named0 (cws y_RRef_named0 b_RRef_named0 5 (some .int)) (RM 0 0) (PreW D ca (wl_Ref ca ad g) [.ref (ad 0), .int p1] sz) (QRr (.int res) (va_A [] sz)) 0 0 (va_A [] sz) := by
  refine met_ofR (own := R_RRef) (by decide) rfl (Nat.le_of_ble_eq_true rfl) ?_
  intro p e s m below meth c A X hA hP hD ls hl
  obtain ⟨hx, hb, hml, hr, hown, hts, hK, hlocks⟩ := id X
  have hS : va_S A s.heap s.heap [] := va_S.rf
  have hl : lv_has ls 5 [(0, .ref (ad 0)), (1, .int p1)] := hl
  unfold m_RRef_named0 at hm
  refine lv_iconst (v := 0) hx hb d_RRef_named0_0 (by decide) ?_
  refine lv_istore_n (lv' := [(2, .int 0), (0, .ref (ad 0)), (1, .int p1)]) hx hb d_RRef_named0_1 rfl hl (by decide) rfl (fun ls hl => ?_)
  refine lv_iconst (v := 0) hx hb d_RRef_named0_2 (by decide) ?_
  refine lv_istore_n (lv' := [(3, .int 0), (2, .int 0), (0, .ref (ad 0)), (1, .int p1)]) hx hb d_RRef_named0_3 rfl hl (by decide) rfl (fun ls hl => ?_)
  exact k_m_RRef_named0_L4 X hA FU  p1 0 0 _ hm _ _ hP hD hS ls (lv_sub hl [2, 3, 1, 0] rfl)
