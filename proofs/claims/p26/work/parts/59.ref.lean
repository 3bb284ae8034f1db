set_option maxHeartbeats 4000000 in
set_option maxRecDepth 100000 in
theorem k_m_RRef_marks_L39 {p : Program} {l : Launch} {e : Env} {s : State} {m : MethodId} {args : Array Value} {below : List Frame} {meth : Method} {c : Code} {D : va_G} {ca : Nat → ClassId} {ad : Nat → Nat} {A : Nat → Prop} (X : Cx p s m args meth c R_RRef b_RRef_marks 6 (some .int) D ca) (hA : ∀ q, s.heap.size ≤ q → A q) {g : St_Ref} {k : Int32 → Int32 → Int32 → Option (Int32)} (hk : ∀ (w1 : Int32) (w3 : Int32) (w4 : Int32) (res : Int32), k w1 w3 w4 = some res → ∀ (H : Heap) (locs : List Loc), va_P D classes (wl_Ref ca ad g) H → va_D (fun _ => True) (wl_Ref ca ad g) → va_S A s.heap H locs → ∀ ls : Array Slot, lv_has ls 6 [(0, .ref (ad 0)), (1, .int w1), (3, .int w3), (4, .int w4)] → W p l e (RM 1 23) s m args below meth c H locs 0 0 (MQ below (QRr (.int res) A) args s 0 0 A) (F0 m 91 ls [])) : ∀ (n : Nat) (v1 : Int32) (v3 : Int32) (v4 : Int32) (v5 : Int32) (res : Int32), m_RRef_marks_L39 g k n v1 v3 v4 v5 = some res → ∀ (H : Heap) (locs : List Loc), va_P D classes (wl_Ref ca ad g) H → va_D (fun _ => True) (wl_Ref ca ad g) → va_S A s.heap H locs → ∀ ls : Array Slot, lv_has ls 6 [(0, .ref (ad 0)), (1, .int v1), (3, .int v3), (4, .int v4), (5, .int v5)] → W p l e (RM 1 23) s m args below meth c H locs 0 0 (MQ below (QRr (.int res) A) args s 0 0 A) (F0 m 39 ls []) := by
  obtain ⟨hx, hb, hml, hr, hown, hts, hK, hlocks⟩ := id X
  intro n
  induction n with
  | zero =>
    intro v1 v3 v4 v5 res hm
    rw [m_RRef_marks_L39] at hm
    cases hm
  | succ n ih =>
    intro v1 v3 v4 v5 res hm H locs hP hD hS ls hl
    rw [m_RRef_marks_L39] at hm
    refine lv_iload hx hb d_RRef_marks_39 (lv_at hl 4 rfl) ?_
    refine lv_aload_n hx hb d_RRef_marks_41 rfl (lv_at hl 0 rfl) ?_
    refine va_get (D := D) (ci := 6) (v := .int (g_Rmarks g)) (C := R_RRef) (T := F_RRef) (N := 29) hx hb hts i_RRef hown hK hP 0 rfl rfl 20 (by decide) (hts _ wf_RRef_109) (fun _ h9 => h9) rfl d_RRef_marks_42 ?_
    refine lv_icmp_ge (tgt := 91) hx hb d_RRef_marks_45 (by decide) (fun c5 => ?_) (fun c5 => ?_)
    · replace hm := ip c5 hm
      exact hk v1 v3 v4 _ hm _ _ hP hD hS ls (lv_sub hl [0, 1, 2, 3] rfl)
    · replace hm := ineg c5 hm
      refine lv_iload hx hb d_RRef_marks_48 (lv_at hl 3 rfl) ?_
      refine lv_aload_n hx hb d_RRef_marks_50 rfl (lv_at hl 0 rfl) ?_
      refine va_get (D := D) (ci := 6) (v := .ref (ad 9)) (C := R_RRef) (T := F_RRef) (N := 29) hx hb hts i_RRef hown hK hP 0 rfl rfl 14 (by decide) (hts _ wf_RRef_44) (fun _ h9 => h9) rfl d_RRef_marks_51 ?_
      refine lv_iload hx hb d_RRef_marks_54 (lv_at hl 4 rfl) ?_
      obtain ⟨b6, hm⟩ := on hm
      refine va_iald hx hb hK hP 9 2 rfl rfl b6 d_RRef_marks_56 ?_
      refine lv_iconst (v := (-1)) hx hb d_RRef_marks_57 (by decide) ?_
      refine lv_icmp_eq (tgt := 81) hx hb d_RRef_marks_58 (by decide) (fun c7 => ?_) (fun c7 => ?_)
      · replace hm := ip c7 hm
        refine lv_iconst (v := 0) hx hb d_RRef_marks_81 (by decide) ?_
        refine lv_iadd hx hb d_RRef_marks_82 ?_
        refine lv_istore (lv' := [(4, .int (v4 + 0)), (0, .ref (ad 0)), (1, .int v1), (3, .int v3), (5, .int v5)]) hx hb d_RRef_marks_83 hl (by decide) rfl (fun ls hl => ?_)
        refine lv_iinc (v := (v5 + 1)) (lv' := [(5, .int (v5 + 1)), (4, .int (v4 + 0)), (0, .ref (ad 0)), (1, .int v1), (3, .int v3)]) hx hb d_RRef_marks_85 hl (k := 4) rfl rfl (by decide) rfl (fun ls hl => ?_)
        refine lv_goto (tgt := 39) hx hb d_RRef_marks_88 (by decide) ?_
        exact ih  v1 v3 (v4 + 0) (v5 + 1) _ hm _ _ hP hD hS ls (lv_sub hl [2, 3, 4, 1, 0] rfl)
      · replace hm := ineg c7 hm
        refine lv_aload_n hx hb d_RRef_marks_61 rfl (lv_at hl 0 rfl) ?_
        refine va_get (D := D) (ci := 6) (v := .ref (ad 8)) (C := R_RRef) (T := F_RRef) (N := 29) hx hb hts i_RRef hown hK hP 0 rfl rfl 13 (by decide) (hts _ wf_RRef_41) (fun _ h9 => h9) rfl d_RRef_marks_62 ?_
        refine lv_iload hx hb d_RRef_marks_65 (lv_at hl 4 rfl) ?_
        obtain ⟨b8, hm⟩ := on hm
        refine va_iald hx hb hK hP 8 2 rfl rfl b8 d_RRef_marks_67 ?_
        refine lv_aload_n hx hb d_RRef_marks_68 rfl (lv_at hl 0 rfl) ?_
        refine va_get (D := D) (ci := 6) (v := .ref (ad 8)) (C := R_RRef) (T := F_RRef) (N := 29) hx hb hts i_RRef hown hK hP 0 rfl rfl 13 (by decide) (hts _ wf_RRef_41) (fun _ h9 => h9) rfl d_RRef_marks_69 ?_
        refine lv_iload_n hx hb d_RRef_marks_72 rfl (lv_at hl 2 rfl) ?_
        obtain ⟨b9, hm⟩ := on hm
        refine va_iald hx hb hK hP 8 2 rfl rfl b9 d_RRef_marks_73 ?_
        refine lv_icmp_ge (tgt := 81) hx hb d_RRef_marks_74 (by decide) (fun c10 => ?_) (fun c10 => ?_)
        · replace hm := ip c10 hm
          refine lv_iconst (v := 0) hx hb d_RRef_marks_81 (by decide) ?_
          refine lv_iadd hx hb d_RRef_marks_82 ?_
          refine lv_istore (lv' := [(4, .int (v4 + 0)), (0, .ref (ad 0)), (1, .int v1), (3, .int v3), (5, .int v5)]) hx hb d_RRef_marks_83 hl (by decide) rfl (fun ls hl => ?_)
          refine lv_iinc (v := (v5 + 1)) (lv' := [(5, .int (v5 + 1)), (4, .int (v4 + 0)), (0, .ref (ad 0)), (1, .int v1), (3, .int v3)]) hx hb d_RRef_marks_85 hl (k := 4) rfl rfl (by decide) rfl (fun ls hl => ?_)
          refine lv_goto (tgt := 39) hx hb d_RRef_marks_88 (by decide) ?_
          exact ih  v1 v3 (v4 + 0) (v5 + 1) _ hm _ _ hP hD hS ls (lv_sub hl [2, 3, 4, 1, 0] rfl)
        · replace hm := ineg c10 hm
          refine lv_iconst (v := 1) hx hb d_RRef_marks_77 (by decide) ?_
          refine lv_goto (tgt := 82) hx hb d_RRef_marks_78 (by decide) ?_
          refine lv_iadd hx hb d_RRef_marks_82 ?_
          refine lv_istore (lv' := [(4, .int (v4 + 1)), (0, .ref (ad 0)), (1, .int v1), (3, .int v3), (5, .int v5)]) hx hb d_RRef_marks_83 hl (by decide) rfl (fun ls hl => ?_)
          refine lv_iinc (v := (v5 + 1)) (lv' := [(5, .int (v5 + 1)), (4, .int (v4 + 1)), (0, .ref (ad 0)), (1, .int v1), (3, .int v3)]) hx hb d_RRef_marks_85 hl (k := 4) rfl rfl (by decide) rfl (fun ls hl => ?_)
          refine lv_goto (tgt := 39) hx hb d_RRef_marks_88 (by decide) ?_
          exact ih  v1 v3 (v4 + 1) (v5 + 1) _ hm _ _ hP hD hS ls (lv_sub hl [2, 3, 4, 1, 0] rfl)
set_option maxHeartbeats 4000000 in
set_option maxRecDepth 100000 in
theorem k_m_RRef_marks_L25 {p : Program} {l : Launch} {e : Env} {s : State} {m : MethodId} {args : Array Value} {below : List Frame} {meth : Method} {c : Code} {D : va_G} {ca : Nat → ClassId} {ad : Nat → Nat} {A : Nat → Prop} (X : Cx p s m args meth c R_RRef b_RRef_marks 6 (some .int) D ca) (hA : ∀ q, s.heap.size ≤ q → A q) {g : St_Ref} : ∀ (n : Nat) (v1 : Int32) (v3 : Int32) (res : Int32), m_RRef_marks_L25 g n v1 v3 = some res → ∀ (H : Heap) (locs : List Loc), va_P D classes (wl_Ref ca ad g) H → va_D (fun _ => True) (wl_Ref ca ad g) → va_S A s.heap H locs → ∀ ls : Array Slot, lv_has ls 6 [(0, .ref (ad 0)), (1, .int v1), (3, .int v3)] → W p l e (RM 1 23) s m args below meth c H locs 0 0 (MQ below (QRr (.int res) A) args s 0 0 A) (F0 m 25 ls []) := by
  obtain ⟨hx, hb, hml, hr, hown, hts, hK, hlocks⟩ := id X
  intro n
  induction n with
  | zero =>
    intro v1 v3 res hm
    rw [m_RRef_marks_L25] at hm
    cases hm
  | succ n ih =>
    intro v1 v3 res hm H locs hP hD hS ls hl
    rw [m_RRef_marks_L25] at hm
    refine lv_iload_n hx hb d_RRef_marks_25 rfl (lv_at hl 2 rfl) ?_
    refine lv_aload_n hx hb d_RRef_marks_26 rfl (lv_at hl 0 rfl) ?_
    refine va_get (D := D) (ci := 6) (v := .int (g_Rmarks g)) (C := R_RRef) (T := F_RRef) (N := 29) hx hb hts i_RRef hown hK hP 0 rfl rfl 20 (by decide) (hts _ wf_RRef_109) (fun _ h9 => h9) rfl d_RRef_marks_27 ?_
    refine lv_icmp_ge (tgt := 120) hx hb d_RRef_marks_30 (by decide) (fun c4 => ?_) (fun c4 => ?_)
    · replace hm := ip c4 hm
      refine lv_iconst (v := (-1)) hx hb d_RRef_marks_120 (by decide) ?_
      cases hm
      exact ret_ri X hS d_RRef_marks_121
    · replace hm := ineg c4 hm
      refine lv_iconst (v := 0) hx hb d_RRef_marks_33 (by decide) ?_
      refine lv_istore (lv' := [(4, .int 0), (0, .ref (ad 0)), (1, .int v1), (3, .int v3)]) hx hb d_RRef_marks_34 hl (by decide) rfl (fun ls hl => ?_)
      refine lv_iconst (v := 0) hx hb d_RRef_marks_36 (by decide) ?_
      refine lv_istore (lv' := [(5, .int 0), (4, .int 0), (0, .ref (ad 0)), (1, .int v1), (3, .int v3)]) hx hb d_RRef_marks_37 hl (by decide) rfl (fun ls hl => ?_)
      refine k_m_RRef_marks_L39 X hA (k := (fun (v1_11 : Int32) (v3_12 : Int32) (v4_13 : Int32) => if v3_12 < 0 ∨ (g_RmRow g).1 ≤ (v3_12).toNatClampNeg then none else if ((g_RmRow g).2 (v3_12).toNatClampNeg) = (-1) then
        (m_RRef_marks_L25 g n v1_11 (v3_12 + 1))
        else
        (if v4_13 = v1_11 then
          (if v3_12 < 0 ∨ (g_RmNumber g).1 ≤ (v3_12).toNatClampNeg then none else some ((g_RmNumber g).2 (v3_12).toNatClampNeg))
          else
          (m_RRef_marks_L25 g n v1_11 (v3_12 + 1))))) (fun v1_11 v3_12 v4_13 res hm H locs hP hD hS ls hl => ?_) FU  v1 v3 0 0 _ hm _ _ hP hD hS ls (lv_sub hl [2, 3, 4, 1, 0] rfl)
      · have hm := hm
        refine lv_aload_n hx hb d_RRef_marks_91 rfl (lv_at hl 0 rfl) ?_
        refine va_get (D := D) (ci := 6) (v := .ref (ad 9)) (C := R_RRef) (T := F_RRef) (N := 29) hx hb hts i_RRef hown hK hP 0 rfl rfl 14 (by decide) (hts _ wf_RRef_44) (fun _ h9 => h9) rfl d_RRef_marks_92 ?_
        refine lv_iload_n hx hb d_RRef_marks_95 rfl (lv_at hl 2 rfl) ?_
        obtain ⟨b14, hm⟩ := on hm
        refine va_iald hx hb hK hP 9 2 rfl rfl b14 d_RRef_marks_96 ?_
        refine lv_iconst (v := (-1)) hx hb d_RRef_marks_97 (by decide) ?_
        refine lv_icmp_eq (tgt := 114) hx hb d_RRef_marks_98 (by decide) (fun c15 => ?_) (fun c15 => ?_)
        · replace hm := ip c15 hm
          refine lv_iinc (v := (v3_12 + 1)) (lv' := [(3, .int (v3_12 + 1)), (0, .ref (ad 0)), (1, .int v1_11), (4, .int v4_13)]) hx hb d_RRef_marks_114 hl (k := 2) rfl rfl (by decide) rfl (fun ls hl => ?_)
          refine lv_goto (tgt := 25) hx hb d_RRef_marks_117 (by decide) ?_
          exact ih  v1_11 (v3_12 + 1) _ hm _ _ hP hD hS ls (lv_sub hl [1, 2, 0] rfl)
        · replace hm := ineg c15 hm
          refine lv_iload hx hb d_RRef_marks_101 (lv_at hl 3 rfl) ?_
          refine lv_iload_n hx hb d_RRef_marks_103 rfl (lv_at hl 1 rfl) ?_
          refine lv_icmp_ne (tgt := 114) hx hb d_RRef_marks_104 (by decide) (fun c16 => ?_) (fun c16 => ?_)
          · replace hm := ineg c16 hm
            refine lv_iinc (v := (v3_12 + 1)) (lv' := [(3, .int (v3_12 + 1)), (0, .ref (ad 0)), (1, .int v1_11), (4, .int v4_13)]) hx hb d_RRef_marks_114 hl (k := 2) rfl rfl (by decide) rfl (fun ls hl => ?_)
            refine lv_goto (tgt := 25) hx hb d_RRef_marks_117 (by decide) ?_
            exact ih  v1_11 (v3_12 + 1) _ hm _ _ hP hD hS ls (lv_sub hl [1, 2, 0] rfl)
          · replace hm := ip c16 hm
            refine lv_aload_n hx hb d_RRef_marks_107 rfl (lv_at hl 0 rfl) ?_
            refine va_get (D := D) (ci := 6) (v := .ref (ad 8)) (C := R_RRef) (T := F_RRef) (N := 29) hx hb hts i_RRef hown hK hP 0 rfl rfl 13 (by decide) (hts _ wf_RRef_41) (fun _ h9 => h9) rfl d_RRef_marks_108 ?_
            refine lv_iload_n hx hb d_RRef_marks_111 rfl (lv_at hl 2 rfl) ?_
            obtain ⟨b17, hm⟩ := on hm
            refine va_iald hx hb hK hP 8 2 rfl rfl b17 d_RRef_marks_112 ?_
            cases hm
            exact ret_ri X hS d_RRef_marks_113
set_option maxHeartbeats 4000000 in
set_option maxRecDepth 100000 in
theorem c_RRef_marks (l : Launch) (D : va_G) (ca : Nat → ClassId) (ad : Nat → Nat) (sz : Nat) (g : St_Ref) (p1 : Int32) (res : Int32) (hm : m_RRef_marks g p1 = some res) : Met l y_RRef_marks (cws y_RRef_marks b_RRef_marks 6 (some .int)) (RM 1 23) (PreW D ca (wl_Ref ca ad g) [.ref (ad 0), .int p1] sz) (QRr (.int res) (va_A [] sz)) 0 0 (va_A [] sz) := by
  refine met_ofR (own := R_RRef) (by decide) rfl (Nat.le_of_ble_eq_true rfl) ?_
  intro p e s m below meth c A X hA hP hD ls hl
  obtain ⟨hx, hb, hml, hr, hown, hts, hK, hlocks⟩ := id X
  have hS : va_S A s.heap s.heap [] := va_S.rf
  have hl : lv_has ls 6 [(0, .ref (ad 0)), (1, .int p1)] := hl
  unfold m_RRef_marks at hm
  refine lv_aload_n hx hb d_RRef_marks_0 rfl (lv_at hl 0 rfl) ?_
  refine va_get (D := D) (ci := 6) (v := .int (g_Ropen g)) (C := R_RRef) (T := F_RRef) (N := 29) hx hb hts i_RRef hown hK hP 0 rfl rfl 2 (by decide) (hts _ wf_RRef_13) (fun _ h9 => h9) rfl d_RRef_marks_1 ?_
  refine lv_if_ne (tgt := 10) hx hb d_RRef_marks_4 (by decide) (fun c1 => ?_) (fun c1 => ?_)
  · replace hm := ineg c1 hm
    refine lv_aload_n hx hb d_RRef_marks_10 rfl (lv_at hl 0 rfl) ?_
    refine lv_iconst (v := 1) hx hb d_RRef_marks_11 (by decide) ?_
    obtain ⟨q2, hq2, hm⟩ := ob hm
    refine inv_rVa (C := R_RRef) (As := [.int 1]) (rest := []) (v := .int q2) X (c_RRef_count l D ca ad _ g 1 q2 hq2) g_RRef_196 yo_RRef_count ⟨Nat.le_of_ble_eq_true rfl, Nat.le_of_ble_eq_true rfl⟩ hl hP hD (ci := 6) rfl rfl hS hA rfl rfl (Nat.le_of_ble_eq_true rfl) ⟨Nat.zero_le _, Nat.zero_le _⟩ d_RRef_marks_12 (fun H locs hP hS => ?_)
    refine lv_istore_n (lv' := [(2, .int q2), (0, .ref (ad 0)), (1, .int p1)]) hx hb d_RRef_marks_15 rfl hl (by decide) rfl (fun ls hl => ?_)
    refine lv_iload_n hx hb d_RRef_marks_16 rfl (lv_at hl 2 rfl) ?_
    refine lv_iconst (v := (-1)) hx hb d_RRef_marks_17 (by decide) ?_
    refine lv_icmp_ne (tgt := 23) hx hb d_RRef_marks_18 (by decide) (fun c3 => ?_) (fun c3 => ?_)
    · replace hm := ineg c3 hm
      refine lv_iconst (v := 0) hx hb d_RRef_marks_23 (by decide) ?_
      refine lv_istore_n (lv' := [(3, .int 0), (2, .int q2), (0, .ref (ad 0)), (1, .int p1)]) hx hb d_RRef_marks_24 rfl hl (by decide) rfl (fun ls hl => ?_)
      exact k_m_RRef_marks_L25 X hA FU  p1 0 _ hm _ _ hP hD hS ls (lv_sub hl [2, 3, 0] rfl)
    · replace hm := ip c3 hm
      refine lv_iload_n hx hb d_RRef_marks_21 rfl (lv_at hl 0 rfl) ?_
      cases hm
      exact ret_ri X hS d_RRef_marks_22
  · replace hm := ip c1 hm
    refine lv_bipush (v := (-3)) hx hb d_RRef_marks_7 (by decide) ?_
    cases hm
    exact ret_ri X hS d_RRef_marks_9
set_option maxHeartbeats 4000000 in
set_option maxRecDepth 100000 in
theorem c_RRef_markOf (l : Launch) (D : va_G) (ca : Nat → ClassId) (ad : Nat → Nat) (sz : Nat) (g : St_Ref) (p1 : Int32) (p2 : Int32) (res : Int32) (hm : m_RRef_markOf g p1 p2 = some res) : Met l y_RRef_markOf (cws y_RRef_markOf b_RRef_markOf 4 (some .int)) (RM 1 22) (PreW D ca (wl_Ref ca ad g) [.ref (ad 0), .int p1, .int p2] sz) (QRr (.int res) (va_A [] sz)) 0 0 (va_A [] sz) := by
  refine met_ofR (own := R_RRef) (by decide) rfl (Nat.le_of_ble_eq_true rfl) ?_
  intro p e s m below meth c A X hA hP hD ls hl
  obtain ⟨hx, hb, hml, hr, hown, hts, hK, hlocks⟩ := id X
  have hS : va_S A s.heap s.heap [] := va_S.rf
  have hl : lv_has ls 4 [(0, .ref (ad 0)), (1, .int p1), (2, .int p2)] := hl
  unfold m_RRef_markOf at hm
  refine lv_aload_n hx hb d_RRef_markOf_0 rfl (lv_at hl 0 rfl) ?_
  refine lv_iload_n hx hb d_RRef_markOf_1 rfl (lv_at hl 1 rfl) ?_
  obtain ⟨q1, hq1, hm⟩ := ob hm
  refine inv_rVa (C := R_RRef) (As := [.int p1]) (rest := []) (v := .int q1) X (c_RRef_findMark l D ca ad _ g p1 q1 hq1) g_RRef_150 yo_RRef_findMark ⟨Nat.le_of_ble_eq_true rfl, Nat.le_of_ble_eq_true rfl⟩ hl hP hD (ci := 6) rfl rfl hS hA rfl rfl (Nat.le_of_ble_eq_true rfl) ⟨Nat.zero_le _, Nat.zero_le _⟩ d_RRef_markOf_2 (fun H locs hP hS => ?_)
  refine lv_istore_n (lv' := [(3, .int q1), (0, .ref (ad 0)), (1, .int p1), (2, .int p2)]) hx hb d_RRef_markOf_5 rfl hl (by decide) rfl (fun ls hl => ?_)
  refine lv_aload_n hx hb d_RRef_markOf_6 rfl (lv_at hl 1 rfl) ?_
  refine va_get (D := D) (ci := 6) (v := .int (g_Ropen g)) (C := R_RRef) (T := F_RRef) (N := 29) hx hb hts i_RRef hown hK hP 0 rfl rfl 2 (by decide) (hts _ wf_RRef_13) (fun _ h9 => h9) rfl d_RRef_markOf_7 ?_
  refine lv_if_ne (tgt := 16) hx hb d_RRef_markOf_10 (by decide) (fun c2 => ?_) (fun c2 => ?_)
  · replace hm := ineg c2 hm
    refine lv_iload_n hx hb d_RRef_markOf_16 rfl (lv_at hl 0 rfl) ?_
    refine lv_iconst (v := (-1)) hx hb d_RRef_markOf_17 (by decide) ?_
    refine lv_icmp_eq (tgt := 37) hx hb d_RRef_markOf_18 (by decide) (fun c3 => ?_) (fun c3 => ?_)
    · replace hm := ip c3 hm
      refine lv_iconst (v := (-1)) hx hb d_RRef_markOf_37 (by decide) ?_
      refine lv_goto (tgt := 66) hx hb d_RRef_markOf_38 (by decide) ?_
      cases hm
      exact ret_ri X hS d_RRef_markOf_66
    · replace hm := ineg c3 hm
      refine lv_iload_n hx hb d_RRef_markOf_21 rfl (lv_at hl 3 rfl) ?_
      refine lv_iconst (v := (-1)) hx hb d_RRef_markOf_22 (by decide) ?_
      refine lv_aload_n hx hb d_RRef_markOf_23 rfl (lv_at hl 1 rfl) ?_
      refine va_get (D := D) (ci := 6) (v := .ref (ad 10)) (C := R_RRef) (T := F_RRef) (N := 29) hx hb hts i_RRef hown hK hP 0 rfl rfl 15 (by decide) (hts _ wf_RRef_47) (fun _ h9 => h9) rfl d_RRef_markOf_24 ?_
      refine lv_iload_n hx hb d_RRef_markOf_27 rfl (lv_at hl 0 rfl) ?_
      obtain ⟨b4, hm⟩ := on hm
      refine va_iald hx hb hK hP 10 2 rfl rfl b4 d_RRef_markOf_28 ?_
      refine lv_iconst (v := 1) hx hb d_RRef_markOf_29 (by decide) ?_
      refine lv_isub hx hb d_RRef_markOf_30 ?_
      obtain ⟨q5, hq5, hm⟩ := ob hm
      refine inv_rS (As := [.int p2, .int (-1), .int (((g_RmCount g).2 (q1).toNatClampNeg) - 1)]) (rest := []) (v := .int q5) X (c_RRef_isIn l D ca  _ p2 (-1) (((g_RmCount g).2 (q1).toNatClampNeg) - 1) q5 hq5) g_RRef_172 yo_RRef_isIn ⟨Nat.le_of_ble_eq_true rfl, Nat.le_of_ble_eq_true rfl⟩ hl hP hD [] rfl rfl hS hA rfl rfl (Nat.le_of_ble_eq_true rfl) ⟨Nat.zero_le _, Nat.zero_le _⟩ d_RRef_markOf_31 (fun H locs hP hS => ?_)
      refine lv_if_ne (tgt := 41) hx hb d_RRef_markOf_34 (by decide) (fun c6 => ?_) (fun c6 => ?_)
      · replace hm := ineg c6 hm
        refine lv_iload_n hx hb d_RRef_markOf_41 rfl (lv_at hl 3 rfl) ?_
        refine lv_iconst (v := (-1)) hx hb d_RRef_markOf_42 (by decide) ?_
        refine lv_icmp_ne (tgt := 55) hx hb d_RRef_markOf_43 (by decide) (fun c7 => ?_) (fun c7 => ?_)
        · replace hm := ineg c7 hm
          refine lv_aload_n hx hb d_RRef_markOf_55 rfl (lv_at hl 1 rfl) ?_
          refine va_get (D := D) (ci := 6) (v := .ref (ad 12)) (C := R_RRef) (T := F_RRef) (N := 29) hx hb hts i_RRef hown hK hP 0 rfl rfl 17 (by decide) (hts _ wf_RRef_53) (fun _ h9 => h9) rfl d_RRef_markOf_56 ?_
          refine lv_bipush (v := 12) hx hb d_RRef_markOf_59 (by decide) ?_
          refine lv_iload_n hx hb d_RRef_markOf_61 rfl (lv_at hl 0 rfl) ?_
          refine lv_imul hx hb d_RRef_markOf_62 ?_
          refine lv_iload_n hx hb d_RRef_markOf_63 rfl (lv_at hl 3 rfl) ?_
          refine lv_iadd hx hb d_RRef_markOf_64 ?_
          obtain ⟨b8, hm⟩ := on hm
          refine va_iald hx hb hK hP 12 2 rfl rfl b8 d_RRef_markOf_65 ?_
          cases hm
          exact ret_ri X hS d_RRef_markOf_66
        · replace hm := ip c7 hm
          refine lv_aload_n hx hb d_RRef_markOf_46 rfl (lv_at hl 1 rfl) ?_
          refine va_get (D := D) (ci := 6) (v := .ref (ad 10)) (C := R_RRef) (T := F_RRef) (N := 29) hx hb hts i_RRef hown hK hP 0 rfl rfl 15 (by decide) (hts _ wf_RRef_47) (fun _ h9 => h9) rfl d_RRef_markOf_47 ?_
          refine lv_iload_n hx hb d_RRef_markOf_50 rfl (lv_at hl 0 rfl) ?_
          obtain ⟨b9, hm⟩ := on hm
          refine va_iald hx hb hK hP 10 2 rfl rfl b9 d_RRef_markOf_51 ?_
          refine lv_goto (tgt := 66) hx hb d_RRef_markOf_52 (by decide) ?_
          cases hm
          exact ret_ri X hS d_RRef_markOf_66
      · replace hm := ip c6 hm
        refine lv_iconst (v := (-1)) hx hb d_RRef_markOf_37 (by decide) ?_
        refine lv_goto (tgt := 66) hx hb d_RRef_markOf_38 (by decide) ?_
        cases hm
        exact ret_ri X hS d_RRef_markOf_66
  · replace hm := ip c2 hm
    refine lv_bipush (v := (-3)) hx hb d_RRef_markOf_13 (by decide) ?_
    cases hm
    exact ret_ri X hS d_RRef_markOf_15
set_option maxHeartbeats 4000000 in
set_option maxRecDepth 100000 in
theorem c_RRef_partOf (l : Launch) (D : va_G) (ca : Nat → ClassId) (ad : Nat → Nat) (sz : Nat) (g : St_Ref) (p1 : Int32) (p2 : Int32) (res : Int64) (hm : m_RRef_partOf g p1 p2 = some res) : Met l y_RRef_partOf (cws y_RRef_partOf b_RRef_partOf 4 (some .long)) (RM 3 70) (PreW D ca (wl_Ref ca ad g) [.ref (ad 0), .int p1, .int p2] sz) (QRr (.long res) (va_A [] sz)) 0 0 (va_A [] sz) := by
  refine met_ofR (own := R_RRef) (by decide) rfl (Nat.le_of_ble_eq_true rfl) ?_
  intro p e s m below meth c A X hA hP hD ls hl
  obtain ⟨hx, hb, hml, hr, hown, hts, hK, hlocks⟩ := id X
  have hS : va_S A s.heap s.heap [] := va_S.rf
  have hl : lv_has ls 4 [(0, .ref (ad 0)), (1, .int p1), (2, .int p2)] := hl
  unfold m_RRef_partOf at hm
  refine lv_aload_n hx hb d_RRef_partOf_0 rfl (lv_at hl 0 rfl) ?_
  refine va_get (D := D) (ci := 6) (v := .int (g_Ropen g)) (C := R_RRef) (T := F_RRef) (N := 29) hx hb hts i_RRef hown hK hP 0 rfl rfl 2 (by decide) (hts _ wf_RRef_13) (fun _ h9 => h9) rfl d_RRef_partOf_1 ?_
  refine lv_if_ne (tgt := 11) hx hb d_RRef_partOf_4 (by decide) (fun c1 => ?_) (fun c1 => ?_)
  · replace hm := ineg c1 hm
    refine lv_iload_n hx hb d_RRef_partOf_11 rfl (lv_at hl 2 rfl) ?_
    refine lv_iconst (v := 0) hx hb d_RRef_partOf_12 (by decide) ?_
    refine lv_iconst (v := 5) hx hb d_RRef_partOf_13 (by decide) ?_
    obtain ⟨q2, hq2, hm⟩ := ob hm
    refine inv_rS (As := [.int p2, .int 0, .int 5]) (rest := []) (v := .int q2) X (c_RRef_isIn l D ca  _ p2 0 5 q2 hq2) g_RRef_172 yo_RRef_isIn ⟨Nat.le_of_ble_eq_true rfl, Nat.le_of_ble_eq_true rfl⟩ hl hP hD [] rfl rfl hS hA rfl rfl (Nat.le_of_ble_eq_true rfl) ⟨Nat.zero_le _, Nat.zero_le _⟩ d_RRef_partOf_14 (fun H locs hP hS => ?_)
    refine lv_if_ne (tgt := 24) hx hb d_RRef_partOf_17 (by decide) (fun c3 => ?_) (fun c3 => ?_)
    · replace hm := ineg c3 hm
      refine lv_aload_n hx hb d_RRef_partOf_24 rfl (lv_at hl 0 rfl) ?_
      refine lv_iload_n hx hb d_RRef_partOf_25 rfl (lv_at hl 1 rfl) ?_
      obtain ⟨q4, hq4, hm⟩ := ob hm
      refine inv_rVa (C := R_RRef) (As := [.int p1]) (rest := []) (v := .int q4) X (c_RRef_findPart l D ca ad _ g p1 q4 hq4) g_RRef_129 yo_RRef_findPart ⟨Nat.le_of_ble_eq_true rfl, Nat.le_of_ble_eq_true rfl⟩ hl hP hD (ci := 6) rfl rfl hS hA rfl rfl (Nat.le_of_ble_eq_true rfl) ⟨Nat.zero_le _, Nat.zero_le _⟩ d_RRef_partOf_26 (fun H locs hP hS => ?_)
      refine lv_istore_n (lv' := [(3, .int q4), (0, .ref (ad 0)), (1, .int p1), (2, .int p2)]) hx hb d_RRef_partOf_29 rfl hl (by decide) rfl (fun ls hl => ?_)
      refine lv_iload_n hx hb d_RRef_partOf_30 rfl (lv_at hl 0 rfl) ?_
      refine lv_iconst (v := (-1)) hx hb d_RRef_partOf_31 (by decide) ?_
      refine lv_icmp_ne (tgt := 39) hx hb d_RRef_partOf_32 (by decide) (fun c5 => ?_) (fun c5 => ?_)
      · replace hm := ineg c5 hm
        refine lv_iload_n hx hb d_RRef_partOf_39 rfl (lv_at hl 3 rfl) ?_
        by_cases c6 : p2 = 0
        · replace hm := ip c6 hm
          refine lv_tableIn (off := 36) (tgt := 76) hx hb d_RRef_partOf_40 (by rw [c6]; decide) (by rw [c6]; decide) (by rw [c6]; rfl) (by decide) ?_
          refine lv_aload_n hx hb d_RRef_partOf_76 rfl (lv_at hl 1 rfl) ?_
          refine va_get (D := D) (ci := 6) (v := .ref (ad 4)) (C := R_RRef) (T := F_RRef) (N := 29) hx hb hts i_RRef hown hK hP 0 rfl rfl 8 (by decide) (hts _ wf_RRef_28) (fun _ h9 => h9) rfl d_RRef_partOf_77 ?_
          refine lv_iload_n hx hb d_RRef_partOf_80 rfl (lv_at hl 0 rfl) ?_
          obtain ⟨b7, hm⟩ := on hm
          refine va_iald hx hb hK hP 4 2 rfl rfl b7 d_RRef_partOf_81 ?_
          refine lv_i2l (v := ((((g_RpGroup g).2 (q4).toNatClampNeg)).toInt64)) hx hb d_RRef_partOf_82 rfl ?_
          cases hm
          exact ret_rl X hS d_RRef_partOf_83
        replace hm := ineg c6 hm
        by_cases c8 : p2 = 1
        · replace hm := ip c8 hm
          refine lv_tableIn (off := 44) (tgt := 84) hx hb d_RRef_partOf_40 (by rw [c8]; decide) (by rw [c8]; decide) (by rw [c8]; rfl) (by decide) ?_
          refine lv_aload_n hx hb d_RRef_partOf_84 rfl (lv_at hl 1 rfl) ?_
          refine va_get (D := D) (ci := 6) (v := .ref (ad 5)) (C := R_RRef) (T := F_RRef) (N := 29) hx hb hts i_RRef hown hK hP 0 rfl rfl 9 (by decide) (hts _ wf_RRef_31) (fun _ h9 => h9) rfl d_RRef_partOf_85 ?_
          refine lv_iload_n hx hb d_RRef_partOf_88 rfl (lv_at hl 0 rfl) ?_
          obtain ⟨b9, hm⟩ := on hm
          refine va_lald hx hb hK hP 5 3 rfl rfl b9 d_RRef_partOf_89 ?_
          cases hm
          exact ret_rl X hS d_RRef_partOf_90
        replace hm := ineg c8 hm
        by_cases c10 : p2 = 2
        · replace hm := ip c10 hm
          refine lv_tableIn (off := 51) (tgt := 91) hx hb d_RRef_partOf_40 (by rw [c10]; decide) (by rw [c10]; decide) (by rw [c10]; rfl) (by decide) ?_
          refine lv_aload_n hx hb d_RRef_partOf_91 rfl (lv_at hl 1 rfl) ?_
          refine va_get (D := D) (ci := 6) (v := .ref (ad 6)) (C := R_RRef) (T := F_RRef) (N := 29) hx hb hts i_RRef hown hK hP 0 rfl rfl 10 (by decide) (hts _ wf_RRef_35) (fun _ h9 => h9) rfl d_RRef_partOf_92 ?_
          refine lv_iload_n hx hb d_RRef_partOf_95 rfl (lv_at hl 0 rfl) ?_
          obtain ⟨b11, hm⟩ := on hm
          refine va_iald hx hb hK hP 6 2 rfl rfl b11 d_RRef_partOf_96 ?_
          refine lv_i2l (v := ((((g_RpLength g).2 (q4).toNatClampNeg)).toInt64)) hx hb d_RRef_partOf_97 rfl ?_
          cases hm
          exact ret_rl X hS d_RRef_partOf_98
        replace hm := ineg c10 hm
        by_cases c12 : p2 = 3
        · replace hm := ip c12 hm
          refine lv_tableIn (off := 59) (tgt := 99) hx hb d_RRef_partOf_40 (by rw [c12]; decide) (by rw [c12]; decide) (by rw [c12]; rfl) (by decide) ?_
          refine lv_aload_n hx hb d_RRef_partOf_99 rfl (lv_at hl 1 rfl) ?_
          refine va_get (D := D) (ci := 6) (v := .ref (ad 7)) (C := R_RRef) (T := F_RRef) (N := 29) hx hb hts i_RRef hown hK hP 0 rfl rfl 11 (by decide) (hts _ wf_RRef_38) (fun _ h9 => h9) rfl d_RRef_partOf_100 ?_
          refine lv_iload_n hx hb d_RRef_partOf_103 rfl (lv_at hl 0 rfl) ?_
          obtain ⟨b13, hm⟩ := on hm
          refine va_iald hx hb hK hP 7 2 rfl rfl b13 d_RRef_partOf_104 ?_
          refine lv_i2l (v := ((((g_RpRow g).2 (q4).toNatClampNeg)).toInt64)) hx hb d_RRef_partOf_105 rfl ?_
          cases hm
          exact ret_rl X hS d_RRef_partOf_106
        replace hm := ineg c12 hm
        by_cases c14 : p2 = 4
        · replace hm := ip c14 hm
          refine lv_tableIn (off := 67) (tgt := 107) hx hb d_RRef_partOf_40 (by rw [c14]; decide) (by rw [c14]; decide) (by rw [c14]; rfl) (by decide) ?_
          refine lv_aload_n hx hb d_RRef_partOf_107 rfl (lv_at hl 1 rfl) ?_
          refine lv_iload_n hx hb d_RRef_partOf_108 rfl (lv_at hl 0 rfl) ?_
          obtain ⟨q15, hq15, hm⟩ := ob hm
          refine inv_rVa (C := R_RRef) (As := [.int q4]) (rest := []) (v := .int q15) X (c_RRef_isWholePart l D ca ad _ g q4 q15 hq15) g_RRef_132 yo_RRef_isWholePart ⟨Nat.le_of_ble_eq_true rfl, Nat.le_of_ble_eq_true rfl⟩ hl hP hD (ci := 6) rfl rfl hS hA rfl rfl (Nat.le_of_ble_eq_true rfl) ⟨Nat.zero_le _, Nat.zero_le _⟩ d_RRef_partOf_109 (fun H locs hP hS => ?_)
          refine lv_if_eq (tgt := 119) hx hb d_RRef_partOf_112 (by decide) (fun c16 => ?_) (fun c16 => ?_)
          · replace hm := ip c16 hm
            refine lv_lconst (v := 0) hx hb d_RRef_partOf_119 (by decide) ?_
            cases hm
            exact ret_rl X hS d_RRef_partOf_120
          · replace hm := ineg c16 hm
            refine lv_lconst (v := 1) hx hb d_RRef_partOf_115 (by decide) ?_
            refine lv_goto (tgt := 120) hx hb d_RRef_partOf_116 (by decide) ?_
            cases hm
            exact ret_rl X hS d_RRef_partOf_120
        replace hm := ineg c14 hm
        refine lv_tableOut (tgt := 121) hx hb d_RRef_partOf_40 (by have c6n := lv_neT (a := 0) c6 (by decide); have c8n := lv_neT (a := 1) c8 (by decide); have c10n := lv_neT (a := 2) c10 (by decide); have c12n := lv_neT (a := 3) c12 (by decide); have c14n := lv_neT (a := 4) c14 (by decide); omega) (by decide) ?_
        refine lv_aload_n hx hb d_RRef_partOf_121 rfl (lv_at hl 1 rfl) ?_
        refine lv_iload_n hx hb d_RRef_partOf_122 rfl (lv_at hl 2 rfl) ?_
        obtain ⟨q17, hq17, hm⟩ := ob hm
        refine inv_rVa (C := R_RRef) (As := [.int p1]) (rest := []) (v := .int q17) X (c_RRef_named0 l D ca ad _ g p1 q17 hq17) g_RRef_218 yo_RRef_named0 ⟨Nat.le_of_ble_eq_true rfl, Nat.le_of_ble_eq_true rfl⟩ hl hP hD (ci := 6) rfl rfl hS hA rfl rfl (Nat.le_of_ble_eq_true rfl) ⟨Nat.zero_le _, Nat.zero_le _⟩ d_RRef_partOf_123 (fun H locs hP hS => ?_)
        refine lv_i2l (v := ((q17).toInt64)) hx hb d_RRef_partOf_126 rfl ?_
        cases hm
        exact ret_rl X hS d_RRef_partOf_127
      · replace hm := ip c5 hm
        refine lv_ldc2 hx hb hown (hts _ wc_RRef_231) d_RRef_partOf_35 ?_
        cases hm
        exact ret_rl X hS d_RRef_partOf_38
    · replace hm := ip c3 hm
      refine lv_ldc2 hx hb hown (hts _ wc_RRef_229) d_RRef_partOf_20 ?_
      cases hm
      exact ret_rl X hS d_RRef_partOf_23
  · replace hm := ip c1 hm
    refine lv_ldc2 hx hb hown (hts _ wc_RRef_227) d_RRef_partOf_7 ?_
    cases hm
    exact ret_rl X hS d_RRef_partOf_10
set_option maxHeartbeats 4000000 in
set_option maxRecDepth 100000 in
theorem c_RRef_byteOf (l : Launch) (D : va_G) (ca : Nat → ClassId) (ad : Nat → Nat) (sz : Nat) (g : St_Ref) (p1 : Int32) (p2 : Int32) (res : Int32) (hm : m_RRef_byteOf g p1 p2 = some res) : Met l y_RRef_byteOf (cws y_RRef_byteOf b_RRef_byteOf 3 (some .int)) (RM 0 0) (PreW D ca (wl_Ref ca ad g) [.ref (ad 0), .int p1, .int p2] sz) (QRr (.int res) (va_A [] sz)) 0 0 (va_A [] sz) := by
  refine met_ofR (own := R_RRef) (by decide) rfl (Nat.le_of_ble_eq_true rfl) ?_
  intro p e s m below meth c A X hA hP hD ls hl
  obtain ⟨hx, hb, hml, hr, hown, hts, hK, hlocks⟩ := id X
  have hS : va_S A s.heap s.heap [] := va_S.rf
  have hl : lv_has ls 3 [(0, .ref (ad 0)), (1, .int p1), (2, .int p2)] := hl
  unfold m_RRef_byteOf at hm
  refine lv_aload_n hx hb d_RRef_byteOf_0 rfl (lv_at hl 0 rfl) ?_
  refine va_get (D := D) (ci := 6) (v := .ref (ad 1)) (C := R_RRef) (T := F_RRef) (N := 29) hx hb hts i_RRef hown hK hP 0 rfl rfl 0 (by decide) (hts _ wf_RRef_7) (fun _ h9 => h9) rfl d_RRef_byteOf_1 ?_
  refine lv_bipush (v := 32) hx hb d_RRef_byteOf_4 (by decide) ?_
  refine lv_aload_n hx hb d_RRef_byteOf_6 rfl (lv_at hl 0 rfl) ?_
  refine va_get (D := D) (ci := 6) (v := .ref (ad 7)) (C := R_RRef) (T := F_RRef) (N := 29) hx hb hts i_RRef hown hK hP 0 rfl rfl 11 (by decide) (hts _ wf_RRef_38) (fun _ h9 => h9) rfl d_RRef_byteOf_7 ?_
  refine lv_iload_n hx hb d_RRef_byteOf_10 rfl (lv_at hl 1 rfl) ?_
  obtain ⟨b1, hm⟩ := on hm
  refine va_iald hx hb hK hP 7 2 rfl rfl b1 d_RRef_byteOf_11 ?_
  refine lv_iconst (v := 1) hx hb d_RRef_byteOf_12 (by decide) ?_
  refine lv_iadd hx hb d_RRef_byteOf_13 ?_
  refine lv_iload_n hx hb d_RRef_byteOf_14 rfl (lv_at hl 2 rfl) ?_
  refine lv_bipush (v := 31) hx hb d_RRef_byteOf_15 (by decide) ?_
  refine lv_idiv hx hb d_RRef_byteOf_17 (by decide) ?_
  refine lv_iadd hx hb d_RRef_byteOf_18 ?_
  refine lv_imul hx hb d_RRef_byteOf_19 ?_
  refine lv_iconst (v := 1) hx hb d_RRef_byteOf_20 (by decide) ?_
  refine lv_iadd hx hb d_RRef_byteOf_21 ?_
  refine lv_iload_n hx hb d_RRef_byteOf_22 rfl (lv_at hl 2 rfl) ?_
  refine lv_bipush (v := 31) hx hb d_RRef_byteOf_23 (by decide) ?_
  refine lv_irem hx hb d_RRef_byteOf_25 (by decide) ?_
  refine lv_iadd hx hb d_RRef_byteOf_26 ?_
  obtain ⟨b2, hm⟩ := on hm
  refine va_bald hx hb hK hP 1 0 rfl rfl b2 d_RRef_byteOf_27 ?_
  refine lv_sipush (v := 255) hx hb d_RRef_byteOf_28 (by decide) ?_
  refine lv_iand hx hb d_RRef_byteOf_31 ?_
  cases hm
  exact ret_ri X hS d_RRef_byteOf_32
set_option maxHeartbeats 4000000 in
set_option maxRecDepth 100000 in
theorem c_RRef_partByte (l : Launch) (D : va_G) (ca : Nat → ClassId) (ad : Nat → Nat) (sz : Nat) (g : St_Ref) (p1 : Int32) (p2 : Int32) (res : Int32) (hm : m_RRef_partByte g p1 p2 = some res) : Met l y_RRef_partByte (cws y_RRef_partByte b_RRef_partByte 4 (some .int)) (RM 1 22) (PreW D ca (wl_Ref ca ad g) [.ref (ad 0), .int p1, .int p2] sz) (QRr (.int res) (va_A [] sz)) 0 0 (va_A [] sz) := by
  refine met_ofR (own := R_RRef) (by decide) rfl (Nat.le_of_ble_eq_true rfl) ?_
  intro p e s m below meth c A X hA hP hD ls hl
  obtain ⟨hx, hb, hml, hr, hown, hts, hK, hlocks⟩ := id X
  have hS : va_S A s.heap s.heap [] := va_S.rf
  have hl : lv_has ls 4 [(0, .ref (ad 0)), (1, .int p1), (2, .int p2)] := hl
  unfold m_RRef_partByte at hm
  refine lv_aload_n hx hb d_RRef_partByte_0 rfl (lv_at hl 0 rfl) ?_
  refine lv_iload_n hx hb d_RRef_partByte_1 rfl (lv_at hl 1 rfl) ?_
  obtain ⟨q1, hq1, hm⟩ := ob hm
  refine inv_rVa (C := R_RRef) (As := [.int p1]) (rest := []) (v := .int q1) X (c_RRef_findPart l D ca ad _ g p1 q1 hq1) g_RRef_129 yo_RRef_findPart ⟨Nat.le_of_ble_eq_true rfl, Nat.le_of_ble_eq_true rfl⟩ hl hP hD (ci := 6) rfl rfl hS hA rfl rfl (Nat.le_of_ble_eq_true rfl) ⟨Nat.zero_le _, Nat.zero_le _⟩ d_RRef_partByte_2 (fun H locs hP hS => ?_)
  refine lv_istore_n (lv' := [(3, .int q1), (0, .ref (ad 0)), (1, .int p1), (2, .int p2)]) hx hb d_RRef_partByte_5 rfl hl (by decide) rfl (fun ls hl => ?_)
  refine lv_aload_n hx hb d_RRef_partByte_6 rfl (lv_at hl 1 rfl) ?_
  refine va_get (D := D) (ci := 6) (v := .int (g_Ropen g)) (C := R_RRef) (T := F_RRef) (N := 29) hx hb hts i_RRef hown hK hP 0 rfl rfl 2 (by decide) (hts _ wf_RRef_13) (fun _ h9 => h9) rfl d_RRef_partByte_7 ?_
  refine lv_if_ne (tgt := 18) hx hb d_RRef_partByte_10 (by decide) (fun c2 => ?_) (fun c2 => ?_)
  · replace hm := ineg c2 hm
    refine lv_iload_n hx hb d_RRef_partByte_18 rfl (lv_at hl 0 rfl) ?_
    refine lv_iconst (v := (-1)) hx hb d_RRef_partByte_19 (by decide) ?_
    refine lv_icmp_eq (tgt := 39) hx hb d_RRef_partByte_20 (by decide) (fun c3 => ?_) (fun c3 => ?_)
    · replace hm := ip c3 hm
      refine lv_iconst (v := (-1)) hx hb d_RRef_partByte_39 (by decide) ?_
      refine lv_goto (tgt := 49) hx hb d_RRef_partByte_40 (by decide) ?_
      cases hm
      exact ret_ri X hS d_RRef_partByte_49
    · replace hm := ineg c3 hm
      refine lv_iload_n hx hb d_RRef_partByte_23 rfl (lv_at hl 3 rfl) ?_
      refine lv_iconst (v := 0) hx hb d_RRef_partByte_24 (by decide) ?_
      refine lv_aload_n hx hb d_RRef_partByte_25 rfl (lv_at hl 1 rfl) ?_
      refine va_get (D := D) (ci := 6) (v := .ref (ad 6)) (C := R_RRef) (T := F_RRef) (N := 29) hx hb hts i_RRef hown hK hP 0 rfl rfl 10 (by decide) (hts _ wf_RRef_35) (fun _ h9 => h9) rfl d_RRef_partByte_26 ?_
      refine lv_iload_n hx hb d_RRef_partByte_29 rfl (lv_at hl 0 rfl) ?_
      obtain ⟨b4, hm⟩ := on hm
      refine va_iald hx hb hK hP 6 2 rfl rfl b4 d_RRef_partByte_30 ?_
      refine lv_iconst (v := 1) hx hb d_RRef_partByte_31 (by decide) ?_
      refine lv_isub hx hb d_RRef_partByte_32 ?_
      obtain ⟨q5, hq5, hm⟩ := ob hm
      refine inv_rS (As := [.int p2, .int 0, .int (((g_RpLength g).2 (q1).toNatClampNeg) - 1)]) (rest := []) (v := .int q5) X (c_RRef_isIn l D ca  _ p2 0 (((g_RpLength g).2 (q1).toNatClampNeg) - 1) q5 hq5) g_RRef_172 yo_RRef_isIn ⟨Nat.le_of_ble_eq_true rfl, Nat.le_of_ble_eq_true rfl⟩ hl hP hD [] rfl rfl hS hA rfl rfl (Nat.le_of_ble_eq_true rfl) ⟨Nat.zero_le _, Nat.zero_le _⟩ d_RRef_partByte_33 (fun H locs hP hS => ?_)
      refine lv_if_ne (tgt := 43) hx hb d_RRef_partByte_36 (by decide) (fun c6 => ?_) (fun c6 => ?_)
      · replace hm := ineg c6 hm
        refine lv_aload_n hx hb d_RRef_partByte_43 rfl (lv_at hl 1 rfl) ?_
        refine lv_iload_n hx hb d_RRef_partByte_44 rfl (lv_at hl 0 rfl) ?_
        refine lv_iload_n hx hb d_RRef_partByte_45 rfl (lv_at hl 3 rfl) ?_
        obtain ⟨q7, hq7, hm⟩ := ob hm
        refine inv_rVa (C := R_RRef) (As := [.int q1, .int p2]) (rest := []) (v := .int q7) X (c_RRef_byteOf l D ca ad _ g q1 p2 q7 hq7) g_RRef_233 yo_RRef_byteOf ⟨Nat.le_of_ble_eq_true rfl, Nat.le_of_ble_eq_true rfl⟩ hl hP hD (ci := 6) rfl rfl hS hA rfl rfl (Nat.le_of_ble_eq_true rfl) ⟨Nat.zero_le _, Nat.zero_le _⟩ d_RRef_partByte_46 (fun H locs hP hS => ?_)
        cases hm
        exact ret_ri X hS d_RRef_partByte_49
      · replace hm := ip c6 hm
        refine lv_iconst (v := (-1)) hx hb d_RRef_partByte_39 (by decide) ?_
        refine lv_goto (tgt := 49) hx hb d_RRef_partByte_40 (by decide) ?_
        cases hm
        exact ret_ri X hS d_RRef_partByte_49
  · replace hm := ip c2 hm
    refine lv_bipush (v := (-3)) hx hb d_RRef_partByte_13 (by decide) ?_
    refine lv_goto (tgt := 49) hx hb d_RRef_partByte_15 (by decide) ?_
    cases hm
    exact ret_ri X hS d_RRef_partByte_49
set_option maxHeartbeats 4000000 in
set_option maxRecDepth 100000 in
theorem c_RRef_named (l : Launch) (D : va_G) (ca : Nat → ClassId) (ad : Nat → Nat) (sz : Nat) (g : St_Ref) (p1 : Int32) (res : Int32) (hm : m_RRef_named g p1 = some res) : Met l y_RRef_named (cws y_RRef_named b_RRef_named 2 (some .int)) (RM 1 24) (PreW D ca (wl_Ref ca ad g) [.ref (ad 0), .int p1] sz) (QRr (.int res) (va_A [] sz)) 0 0 (va_A [] sz) := by
  refine met_ofR (own := R_RRef) (by decide) rfl (Nat.le_of_ble_eq_true rfl) ?_
  intro p e s m below meth c A X hA hP hD ls hl
  obtain ⟨hx, hb, hml, hr, hown, hts, hK, hlocks⟩ := id X
  have hS : va_S A s.heap s.heap [] := va_S.rf
  have hl : lv_has ls 2 [(0, .ref (ad 0)), (1, .int p1)] := hl
  unfold m_RRef_named at hm
  refine lv_aload_n hx hb d_RRef_named_0 rfl (lv_at hl 0 rfl) ?_
  refine va_get (D := D) (ci := 6) (v := .int (g_Ropen g)) (C := R_RRef) (T := F_RRef) (N := 29) hx hb hts i_RRef hown hK hP 0 rfl rfl 2 (by decide) (hts _ wf_RRef_13) (fun _ h9 => h9) rfl d_RRef_named_1 ?_
  refine lv_if_eq (tgt := 15) hx hb d_RRef_named_4 (by decide) (fun c1 => ?_) (fun c1 => ?_)
  · replace hm := ip c1 hm
    refine lv_bipush (v := (-3)) hx hb d_RRef_named_15 (by decide) ?_
    cases hm
    exact ret_ri X hS d_RRef_named_17
  · replace hm := ineg c1 hm
    refine lv_aload_n hx hb d_RRef_named_7 rfl (lv_at hl 0 rfl) ?_
    refine lv_iload_n hx hb d_RRef_named_8 rfl (lv_at hl 1 rfl) ?_
    obtain ⟨q2, hq2, hm⟩ := ob hm
    refine inv_rVa (C := R_RRef) (As := [.int p1]) (rest := []) (v := .int q2) X (c_RRef_named0 l D ca ad _ g p1 q2 hq2) g_RRef_218 yo_RRef_named0 ⟨Nat.le_of_ble_eq_true rfl, Nat.le_of_ble_eq_true rfl⟩ hl hP hD (ci := 6) rfl rfl hS hA rfl rfl (Nat.le_of_ble_eq_true rfl) ⟨Nat.zero_le _, Nat.zero_le _⟩ d_RRef_named_9 (fun H locs hP hS => ?_)
    refine lv_goto (tgt := 17) hx hb d_RRef_named_12 (by decide) ?_
    cases hm
    exact ret_ri X hS d_RRef_named_17
set_option maxHeartbeats 4000000 in
set_option maxRecDepth 100000 in
theorem k_m_RRef_badAt_L143 {p : Program} {l : Launch} {e : Env} {s : State} {m : MethodId} {args : Array Value} {below : List Frame} {meth : Method} {c : Code} {D : va_G} {ca : Nat → ClassId} {ad : Nat → Nat} {A : Nat → Prop} (X : Cx p s m args meth c R_RRef b_RRef_badAt 5 (some .int) D ca) (hA : ∀ q, s.heap.size ≤ q → A q) {g : St_Ref} {k : Int32 → Int32 → Int32 → Option (Int32)} (hk : ∀ (w1 : Int32) (w2 : Int32) (w3 : Int32) (res : Int32), k w1 w2 w3 = some res → ∀ (H : Heap) (locs : List Loc), va_P D classes (wl_Ref ca ad g) H → va_D (fun _ => True) (wl_Ref ca ad g) → va_S A s.heap H locs → ∀ ls : Array Slot, lv_has ls 5 [(0, .ref (ad 0)), (1, .int w1), (2, .int w2), (3, .int w3)] → W p l e (RM 3 71) s m args below meth c H locs 0 0 (MQ below (QRr (.int res) A) args s 0 0 A) (F0 m 181 ls [])) : ∀ (n : Nat) (v1 : Int32) (v2 : Int32) (v3 : Int32) (v4 : Int32) (res : Int32), m_RRef_badAt_L143 g k n v1 v2 v3 v4 = some res → ∀ (H : Heap) (locs : List Loc), va_P D classes (wl_Ref ca ad g) H → va_D (fun _ => True) (wl_Ref ca ad g) → va_S A s.heap H locs → ∀ ls : Array Slot, lv_has ls 5 [(0, .ref (ad 0)), (1, .int v1), (2, .int v2), (3, .int v3), (4, .int v4)] → W p l e (RM 3 71) s m args below meth c H locs 0 0 (MQ below (QRr (.int res) A) args s 0 0 A) (F0 m 143 ls []) := by
  obtain ⟨hx, hb, hml, hr, hown, hts, hK, hlocks⟩ := id X
  intro n
  induction n with
  | zero =>
    intro v1 v2 v3 v4 res hm
    rw [m_RRef_badAt_L143] at hm
    cases hm
  | succ n ih =>
    intro v1 v2 v3 v4 res hm H locs hP hD hS ls hl
    rw [m_RRef_badAt_L143] at hm
    refine lv_iload hx hb d_RRef_badAt_143 (lv_at hl 4 rfl) ?_
    refine lv_bipush (v := 32) hx hb d_RRef_badAt_145 (by decide) ?_
    refine lv_icmp_ge (tgt := 181) hx hb d_RRef_badAt_147 (by decide) (fun c5 => ?_) (fun c5 => ?_)
    · replace hm := ip c5 hm
      exact hk v1 v2 v3 _ hm _ _ hP hD hS ls (lv_sub hl [0, 1, 2, 3] rfl)
    · replace hm := ineg c5 hm
      refine lv_iload_n hx hb d_RRef_badAt_150 rfl (lv_at hl 3 rfl) ?_
      refine lv_if_eq (tgt := 173) hx hb d_RRef_badAt_151 (by decide) (fun c6 => ?_) (fun c6 => ?_)
      · replace hm := ip c6 hm
        refine lv_iconst (v := 0) hx hb d_RRef_badAt_173 (by decide) ?_
        refine lv_istore_n (lv' := [(3, .int 0), (0, .ref (ad 0)), (1, .int v1), (2, .int v2), (4, .int v4)]) hx hb d_RRef_badAt_174 rfl hl (by decide) rfl (fun ls hl => ?_)
        refine lv_iinc (v := (v4 + 1)) (lv' := [(4, .int (v4 + 1)), (3, .int 0), (0, .ref (ad 0)), (1, .int v1), (2, .int v2)]) hx hb d_RRef_badAt_175 hl (k := 4) rfl rfl (by decide) rfl (fun ls hl => ?_)
        refine lv_goto (tgt := 143) hx hb d_RRef_badAt_178 (by decide) ?_
        exact ih  v1 v2 0 (v4 + 1) _ hm _ _ hP hD hS ls (lv_sub hl [2, 3, 4, 1, 0] rfl)
      · replace hm := ineg c6 hm
        refine lv_aload_n hx hb d_RRef_badAt_154 rfl (lv_at hl 0 rfl) ?_
        refine va_get (D := D) (ci := 6) (v := .ref (ad 1)) (C := R_RRef) (T := F_RRef) (N := 29) hx hb hts i_RRef hown hK hP 0 rfl rfl 0 (by decide) (hts _ wf_RRef_7) (fun _ h9 => h9) rfl d_RRef_badAt_155 ?_
        refine lv_bipush (v := 32) hx hb d_RRef_badAt_158 (by decide) ?_
        refine lv_iload_n hx hb d_RRef_badAt_160 rfl (lv_at hl 2 rfl) ?_
        refine lv_imul hx hb d_RRef_badAt_161 ?_
        refine lv_iload hx hb d_RRef_badAt_162 (lv_at hl 4 rfl) ?_
        refine lv_iadd hx hb d_RRef_badAt_164 ?_
        obtain ⟨b7, hm⟩ := on hm
        refine va_bald hx hb hK hP 1 0 rfl rfl b7 d_RRef_badAt_165 ?_
        refine lv_if_ne (tgt := 173) hx hb d_RRef_badAt_166 (by decide) (fun c8 => ?_) (fun c8 => ?_)
        · replace hm := ineg c8 hm
          refine lv_iconst (v := 0) hx hb d_RRef_badAt_173 (by decide) ?_
          refine lv_istore_n (lv' := [(3, .int 0), (0, .ref (ad 0)), (1, .int v1), (2, .int v2), (4, .int v4)]) hx hb d_RRef_badAt_174 rfl hl (by decide) rfl (fun ls hl => ?_)
          refine lv_iinc (v := (v4 + 1)) (lv' := [(4, .int (v4 + 1)), (3, .int 0), (0, .ref (ad 0)), (1, .int v1), (2, .int v2)]) hx hb d_RRef_badAt_175 hl (k := 4) rfl rfl (by decide) rfl (fun ls hl => ?_)
          refine lv_goto (tgt := 143) hx hb d_RRef_badAt_178 (by decide) ?_
          exact ih  v1 v2 0 (v4 + 1) _ hm _ _ hP hD hS ls (lv_sub hl [2, 3, 4, 1, 0] rfl)
        · replace hm := ip c8 hm
          refine lv_iconst (v := 1) hx hb d_RRef_badAt_169 (by decide) ?_
          refine lv_goto (tgt := 174) hx hb d_RRef_badAt_170 (by decide) ?_
          refine lv_istore_n (lv' := [(3, .int 1), (0, .ref (ad 0)), (1, .int v1), (2, .int v2), (4, .int v4)]) hx hb d_RRef_badAt_174 rfl hl (by decide) rfl (fun ls hl => ?_)
          refine lv_iinc (v := (v4 + 1)) (lv' := [(4, .int (v4 + 1)), (3, .int 1), (0, .ref (ad 0)), (1, .int v1), (2, .int v2)]) hx hb d_RRef_badAt_175 hl (k := 4) rfl rfl (by decide) rfl (fun ls hl => ?_)
          refine lv_goto (tgt := 143) hx hb d_RRef_badAt_178 (by decide) ?_
          exact ih  v1 v2 1 (v4 + 1) _ hm _ _ hP hD hS ls (lv_sub hl [2, 3, 4, 1, 0] rfl)
set_option maxHeartbeats 4000000 in
set_option maxRecDepth 100000 in
theorem k_m_RRef_badAt_L134 {p : Program} {l : Launch} {e : Env} {s : State} {m : MethodId} {args : Array Value} {below : List Frame} {meth : Method} {c : Code} {D : va_G} {ca : Nat → ClassId} {ad : Nat → Nat} {A : Nat → Prop} (X : Cx p s m args meth c R_RRef b_RRef_badAt 5 (some .int) D ca) (hA : ∀ q, s.heap.size ≤ q → A q) {g : St_Ref} : ∀ (n : Nat) (v1 : Int32) (v2 : Int32) (res : Int32), m_RRef_badAt_L134 g n v1 v2 = some res → ∀ (H : Heap) (locs : List Loc), va_P D classes (wl_Ref ca ad g) H → va_D (fun _ => True) (wl_Ref ca ad g) → va_S A s.heap H locs → ∀ ls : Array Slot, lv_has ls 5 [(0, .ref (ad 0)), (1, .int v1), (2, .int v2)] → W p l e (RM 3 71) s m args below meth c H locs 0 0 (MQ below (QRr (.int res) A) args s 0 0 A) (F0 m 134 ls []) := by
  obtain ⟨hx, hb, hml, hr, hown, hts, hK, hlocks⟩ := id X
  intro n
  induction n with
  | zero =>
    intro v1 v2 res hm
    rw [m_RRef_badAt_L134] at hm
    cases hm
  | succ n ih =>
    intro v1 v2 res hm H locs hP hD hS ls hl
    rw [m_RRef_badAt_L134] at hm
    refine lv_iload_n hx hb d_RRef_badAt_134 rfl (lv_at hl 2 rfl) ?_
    refine lv_if_lt (tgt := 205) hx hb d_RRef_badAt_135 (by decide) (fun c4 => ?_) (fun c4 => ?_)
    · replace hm := ip c4 hm
      refine lv_iload_n hx hb d_RRef_badAt_205 rfl (lv_at hl 1 rfl) ?_
      cases hm
      exact ret_ri X hS d_RRef_badAt_206
    · replace hm := ineg c4 hm
      refine lv_iconst (v := 1) hx hb d_RRef_badAt_138 (by decide) ?_
      refine lv_istore_n (lv' := [(3, .int 1), (0, .ref (ad 0)), (1, .int v1), (2, .int v2)]) hx hb d_RRef_badAt_139 rfl hl (by decide) rfl (fun ls hl => ?_)
      refine lv_iconst (v := 0) hx hb d_RRef_badAt_140 (by decide) ?_
      refine lv_istore (lv' := [(4, .int 0), (3, .int 1), (0, .ref (ad 0)), (1, .int v1), (2, .int v2)]) hx hb d_RRef_badAt_141 hl (by decide) rfl (fun ls hl => ?_)
      refine k_m_RRef_badAt_L143 X hA (k := (fun (v1_9 : Int32) (v2_10 : Int32) (v3_11 : Int32) => if v3_11 = 0 then
        ((m_RRef_isGood g v2_10).bind fun q13 => if q13 = 0 then
          (m_RRef_badAt_L134 g n v2_10 (v2_10 + (-1)))
          else
          (m_RRef_badAt_L134 g n v1_9 (v2_10 + (-1))))
        else
        (m_RRef_badAt_L134 g n v1_9 (v2_10 + (-1))))) (fun v1_9 v2_10 v3_11 res hm H locs hP hD hS ls hl => ?_) FU  v1 v2 1 0 _ hm _ _ hP hD hS ls (lv_sub hl [2, 3, 4, 1, 0] rfl)
      · have hm := hm
        refine lv_iload_n hx hb d_RRef_badAt_181 rfl (lv_at hl 3 rfl) ?_
        refine lv_if_ne (tgt := 197) hx hb d_RRef_badAt_182 (by decide) (fun c12 => ?_) (fun c12 => ?_)
        · replace hm := ineg c12 hm
          refine lv_iload_n hx hb d_RRef_badAt_197 rfl (lv_at hl 1 rfl) ?_
          refine lv_istore_n (lv' := [(1, .int v1_9), (0, .ref (ad 0)), (2, .int v2_10), (3, .int v3_11)]) hx hb d_RRef_badAt_198 rfl hl (by decide) rfl (fun ls hl => ?_)
          refine lv_iinc (v := (v2_10 + (-1))) (lv' := [(2, .int (v2_10 + (-1))), (1, .int v1_9), (0, .ref (ad 0)), (3, .int v3_11)]) hx hb d_RRef_badAt_199 hl (k := 2) rfl rfl (by decide) rfl (fun ls hl => ?_)
          refine lv_goto (tgt := 134) hx hb d_RRef_badAt_202 (by decide) ?_
          exact ih  v1_9 (v2_10 + (-1)) _ hm _ _ hP hD hS ls (lv_sub hl [2, 1, 0] rfl)
        · replace hm := ip c12 hm
          refine lv_aload_n hx hb d_RRef_badAt_185 rfl (lv_at hl 0 rfl) ?_
          refine lv_iload_n hx hb d_RRef_badAt_186 rfl (lv_at hl 2 rfl) ?_
          obtain ⟨q13, hq13, hm⟩ := ob hm
          refine inv_rVa (C := R_RRef) (As := [.int v2_10]) (rest := []) (v := .int q13) X (c_RRef_isGood l D ca ad _ g v2_10 q13 hq13) g_RRef_140 yo_RRef_isGood ⟨Nat.le_of_ble_eq_true rfl, Nat.le_of_ble_eq_true rfl⟩ hl hP hD (ci := 6) rfl rfl hS hA rfl rfl (Nat.le_of_ble_eq_true rfl) ⟨Nat.zero_le _, Nat.zero_le _⟩ d_RRef_badAt_187 (fun H locs hP hS => ?_)
          refine lv_if_ne (tgt := 197) hx hb d_RRef_badAt_190 (by decide) (fun c14 => ?_) (fun c14 => ?_)
          · replace hm := ineg c14 hm
            refine lv_iload_n hx hb d_RRef_badAt_197 rfl (lv_at hl 1 rfl) ?_
            refine lv_istore_n (lv' := [(1, .int v1_9), (0, .ref (ad 0)), (2, .int v2_10), (3, .int v3_11)]) hx hb d_RRef_badAt_198 rfl hl (by decide) rfl (fun ls hl => ?_)
            refine lv_iinc (v := (v2_10 + (-1))) (lv' := [(2, .int (v2_10 + (-1))), (1, .int v1_9), (0, .ref (ad 0)), (3, .int v3_11)]) hx hb d_RRef_badAt_199 hl (k := 2) rfl rfl (by decide) rfl (fun ls hl => ?_)
            refine lv_goto (tgt := 134) hx hb d_RRef_badAt_202 (by decide) ?_
            exact ih  v1_9 (v2_10 + (-1)) _ hm _ _ hP hD hS ls (lv_sub hl [2, 1, 0] rfl)
          · replace hm := ip c14 hm
            refine lv_iload_n hx hb d_RRef_badAt_193 rfl (lv_at hl 2 rfl) ?_
            refine lv_goto (tgt := 198) hx hb d_RRef_badAt_194 (by decide) ?_
            refine lv_istore_n (lv' := [(1, .int v2_10), (0, .ref (ad 0)), (2, .int v2_10), (3, .int v3_11)]) hx hb d_RRef_badAt_198 rfl hl (by decide) rfl (fun ls hl => ?_)
            refine lv_iinc (v := (v2_10 + (-1))) (lv' := [(2, .int (v2_10 + (-1))), (1, .int v2_10), (0, .ref (ad 0)), (3, .int v3_11)]) hx hb d_RRef_badAt_199 hl (k := 2) rfl rfl (by decide) rfl (fun ls hl => ?_)
            refine lv_goto (tgt := 134) hx hb d_RRef_badAt_202 (by decide) ?_
            exact ih  v2_10 (v2_10 + (-1)) _ hm _ _ hP hD hS ls (lv_sub hl [2, 1, 0] rfl)
set_option maxHeartbeats 4000000 in
set_option maxRecDepth 100000 in
theorem k_m_RRef_badAt_L84 {p : Program} {l : Launch} {e : Env} {s : State} {m : MethodId} {args : Array Value} {below : List Frame} {meth : Method} {c : Code} {D : va_G} {ca : Nat → ClassId} {ad : Nat → Nat} {A : Nat → Prop} (X : Cx p s m args meth c R_RRef b_RRef_badAt 5 (some .int) D ca) (hA : ∀ q, s.heap.size ≤ q → A q) {g : St_Ref} : ∀ (n : Nat) (v1 : Int32) (v2 : Int32) (res : Int32), m_RRef_badAt_L84 g n v1 v2 = some res → ∀ (H : Heap) (locs : List Loc), va_P D classes (wl_Ref ca ad g) H → va_D (fun _ => True) (wl_Ref ca ad g) → va_S A s.heap H locs → ∀ ls : Array Slot, lv_has ls 5 [(0, .ref (ad 0)), (1, .int v1), (2, .int v2)] → W p l e (RM 3 71) s m args below meth c H locs 0 0 (MQ below (QRr (.int res) A) args s 0 0 A) (F0 m 84 ls []) := by
  obtain ⟨hx, hb, hml, hr, hown, hts, hK, hlocks⟩ := id X
  intro n
  induction n with
  | zero =>
    intro v1 v2 res hm
    rw [m_RRef_badAt_L84] at hm
    cases hm
  | succ n ih =>
    intro v1 v2 res hm H locs hP hD hS ls hl
    rw [m_RRef_badAt_L84] at hm
    refine lv_iload_n hx hb d_RRef_badAt_84 rfl (lv_at hl 2 rfl) ?_
    refine lv_aload_n hx hb d_RRef_badAt_85 rfl (lv_at hl 0 rfl) ?_
    refine va_get (D := D) (ci := 6) (v := .int (g_Rparts g)) (C := R_RRef) (T := F_RRef) (N := 29) hx hb hts i_RRef hown hK hP 0 rfl rfl 12 (by decide) (hts _ wf_RRef_106) (fun _ h9 => h9) rfl d_RRef_badAt_86 ?_
    refine lv_icmp_ge (tgt := 132) hx hb d_RRef_badAt_89 (by decide) (fun c3 => ?_) (fun c3 => ?_)
    · replace hm := ip c3 hm
      refine lv_iconst (v := 1) hx hb d_RRef_badAt_132 (by decide) ?_
      refine lv_istore_n (lv' := [(2, .int 1), (0, .ref (ad 0)), (1, .int v1)]) hx hb d_RRef_badAt_133 rfl hl (by decide) rfl (fun ls hl => ?_)
      exact k_m_RRef_badAt_L134 X hA FU  v1 1 _ hm _ _ hP hD hS ls (lv_sub hl [1, 2, 0] rfl)
    · replace hm := ineg c3 hm
      refine lv_aload_n hx hb d_RRef_badAt_92 rfl (lv_at hl 0 rfl) ?_
      refine lv_iload_n hx hb d_RRef_badAt_93 rfl (lv_at hl 2 rfl) ?_
      obtain ⟨q15, hq15, hm⟩ := ob hm
      refine inv_rVa (C := R_RRef) (As := [.int v2]) (rest := []) (v := .int q15) X (c_RRef_isWholePart l D ca ad _ g v2 q15 hq15) g_RRef_132 yo_RRef_isWholePart ⟨Nat.le_of_ble_eq_true rfl, Nat.le_of_ble_eq_true rfl⟩ hl hP hD (ci := 6) rfl rfl hS hA rfl rfl (Nat.le_of_ble_eq_true rfl) ⟨Nat.zero_le _, Nat.zero_le _⟩ d_RRef_badAt_94 (fun H locs hP hS => ?_)
      refine lv_if_ne (tgt := 124) hx hb d_RRef_badAt_97 (by decide) (fun c16 => ?_) (fun c16 => ?_)
      · replace hm := ineg c16 hm
        refine lv_iload_n hx hb d_RRef_badAt_124 rfl (lv_at hl 1 rfl) ?_
        refine lv_istore_n (lv' := [(1, .int v1), (0, .ref (ad 0)), (2, .int v2)]) hx hb d_RRef_badAt_125 rfl hl (by decide) rfl (fun ls hl => ?_)
        refine lv_iinc (v := (v2 + 1)) (lv' := [(2, .int (v2 + 1)), (1, .int v1), (0, .ref (ad 0))]) hx hb d_RRef_badAt_126 hl (k := 2) rfl rfl (by decide) rfl (fun ls hl => ?_)
        refine lv_goto (tgt := 84) hx hb d_RRef_badAt_129 (by decide) ?_
        exact ih  v1 (v2 + 1) _ hm _ _ hP hD hS ls (lv_sub hl [2, 1, 0] rfl)
      · replace hm := ip c16 hm
        refine lv_iload_n hx hb d_RRef_badAt_100 rfl (lv_at hl 1 rfl) ?_
        refine lv_iconst (v := (-1)) hx hb d_RRef_badAt_101 (by decide) ?_
        refine lv_icmp_eq (tgt := 115) hx hb d_RRef_badAt_102 (by decide) (fun c17 => ?_) (fun c17 => ?_)
        · replace hm := ip c17 hm
          refine lv_aload_n hx hb d_RRef_badAt_115 rfl (lv_at hl 0 rfl) ?_
          refine va_get (D := D) (ci := 6) (v := .ref (ad 7)) (C := R_RRef) (T := F_RRef) (N := 29) hx hb hts i_RRef hown hK hP 0 rfl rfl 11 (by decide) (hts _ wf_RRef_38) (fun _ h9 => h9) rfl d_RRef_badAt_116 ?_
          refine lv_iload_n hx hb d_RRef_badAt_119 rfl (lv_at hl 2 rfl) ?_
          obtain ⟨b18, hm⟩ := on hm
          refine va_iald hx hb hK hP 7 2 rfl rfl b18 d_RRef_badAt_120 ?_
          refine lv_goto (tgt := 125) hx hb d_RRef_badAt_121 (by decide) ?_
          refine lv_istore_n (lv' := [(1, .int ((g_RpRow g).2 (v2).toNatClampNeg)), (0, .ref (ad 0)), (2, .int v2)]) hx hb d_RRef_badAt_125 rfl hl (by decide) rfl (fun ls hl => ?_)
          refine lv_iinc (v := (v2 + 1)) (lv' := [(2, .int (v2 + 1)), (1, .int ((g_RpRow g).2 (v2).toNatClampNeg)), (0, .ref (ad 0))]) hx hb d_RRef_badAt_126 hl (k := 2) rfl rfl (by decide) rfl (fun ls hl => ?_)
          refine lv_goto (tgt := 84) hx hb d_RRef_badAt_129 (by decide) ?_
          exact ih  ((g_RpRow g).2 (v2).toNatClampNeg) (v2 + 1) _ hm _ _ hP hD hS ls (lv_sub hl [2, 1, 0] rfl)
        · replace hm := ineg c17 hm
          refine lv_aload_n hx hb d_RRef_badAt_105 rfl (lv_at hl 0 rfl) ?_
          refine va_get (D := D) (ci := 6) (v := .ref (ad 7)) (C := R_RRef) (T := F_RRef) (N := 29) hx hb hts i_RRef hown hK hP 0 rfl rfl 11 (by decide) (hts _ wf_RRef_38) (fun _ h9 => h9) rfl d_RRef_badAt_106 ?_
          refine lv_iload_n hx hb d_RRef_badAt_109 rfl (lv_at hl 2 rfl) ?_
          obtain ⟨b19, hm⟩ := on hm
          refine va_iald hx hb hK hP 7 2 rfl rfl b19 d_RRef_badAt_110 ?_
          refine lv_iload_n hx hb d_RRef_badAt_111 rfl (lv_at hl 1 rfl) ?_
          refine lv_icmp_ge (tgt := 124) hx hb d_RRef_badAt_112 (by decide) (fun c20 => ?_) (fun c20 => ?_)
          · replace hm := ip c20 hm
            refine lv_iload_n hx hb d_RRef_badAt_124 rfl (lv_at hl 1 rfl) ?_
            refine lv_istore_n (lv' := [(1, .int v1), (0, .ref (ad 0)), (2, .int v2)]) hx hb d_RRef_badAt_125 rfl hl (by decide) rfl (fun ls hl => ?_)
            refine lv_iinc (v := (v2 + 1)) (lv' := [(2, .int (v2 + 1)), (1, .int v1), (0, .ref (ad 0))]) hx hb d_RRef_badAt_126 hl (k := 2) rfl rfl (by decide) rfl (fun ls hl => ?_)
            refine lv_goto (tgt := 84) hx hb d_RRef_badAt_129 (by decide) ?_
            exact ih  v1 (v2 + 1) _ hm _ _ hP hD hS ls (lv_sub hl [2, 1, 0] rfl)
          · replace hm := ineg c20 hm
            refine lv_aload_n hx hb d_RRef_badAt_115 rfl (lv_at hl 0 rfl) ?_
            refine va_get (D := D) (ci := 6) (v := .ref (ad 7)) (C := R_RRef) (T := F_RRef) (N := 29) hx hb hts i_RRef hown hK hP 0 rfl rfl 11 (by decide) (hts _ wf_RRef_38) (fun _ h9 => h9) rfl d_RRef_badAt_116 ?_
            refine lv_iload_n hx hb d_RRef_badAt_119 rfl (lv_at hl 2 rfl) ?_
            obtain ⟨b21, hm⟩ := on hm
            refine va_iald hx hb hK hP 7 2 rfl rfl b21 d_RRef_badAt_120 ?_
            refine lv_goto (tgt := 125) hx hb d_RRef_badAt_121 (by decide) ?_
            refine lv_istore_n (lv' := [(1, .int ((g_RpRow g).2 (v2).toNatClampNeg)), (0, .ref (ad 0)), (2, .int v2)]) hx hb d_RRef_badAt_125 rfl hl (by decide) rfl (fun ls hl => ?_)
            refine lv_iinc (v := (v2 + 1)) (lv' := [(2, .int (v2 + 1)), (1, .int ((g_RpRow g).2 (v2).toNatClampNeg)), (0, .ref (ad 0))]) hx hb d_RRef_badAt_126 hl (k := 2) rfl rfl (by decide) rfl (fun ls hl => ?_)
            refine lv_goto (tgt := 84) hx hb d_RRef_badAt_129 (by decide) ?_
            exact ih  ((g_RpRow g).2 (v2).toNatClampNeg) (v2 + 1) _ hm _ _ hP hD hS ls (lv_sub hl [2, 1, 0] rfl)
set_option maxHeartbeats 4000000 in
set_option maxRecDepth 100000 in
theorem k_m_RRef_badAt_L14 {p : Program} {l : Launch} {e : Env} {s : State} {m : MethodId} {args : Array Value} {below : List Frame} {meth : Method} {c : Code} {D : va_G} {ca : Nat → ClassId} {ad : Nat → Nat} {A : Nat → Prop} (X : Cx p s m args meth c R_RRef b_RRef_badAt 5 (some .int) D ca) (hA : ∀ q, s.heap.size ≤ q → A q) {g : St_Ref} : ∀ (n : Nat) (v1 : Int32) (v2 : Int32) (res : Int32), m_RRef_badAt_L14 g n v1 v2 = some res → ∀ (H : Heap) (locs : List Loc), va_P D classes (wl_Ref ca ad g) H → va_D (fun _ => True) (wl_Ref ca ad g) → va_S A s.heap H locs → ∀ ls : Array Slot, lv_has ls 5 [(0, .ref (ad 0)), (1, .int v1), (2, .int v2)] → W p l e (RM 3 71) s m args below meth c H locs 0 0 (MQ below (QRr (.int res) A) args s 0 0 A) (F0 m 14 ls []) := by
  obtain ⟨hx, hb, hml, hr, hown, hts, hK, hlocks⟩ := id X
  intro n
  induction n with
  | zero =>
    intro v1 v2 res hm
    rw [m_RRef_badAt_L14] at hm
    cases hm
  | succ n ih =>
    intro v1 v2 res hm H locs hP hD hS ls hl
    rw [m_RRef_badAt_L14] at hm
    refine lv_iload_n hx hb d_RRef_badAt_14 rfl (lv_at hl 2 rfl) ?_
    refine lv_aload_n hx hb d_RRef_badAt_15 rfl (lv_at hl 0 rfl) ?_
    refine va_get (D := D) (ci := 6) (v := .int (g_Rmarks g)) (C := R_RRef) (T := F_RRef) (N := 29) hx hb hts i_RRef hown hK hP 0 rfl rfl 20 (by decide) (hts _ wf_RRef_109) (fun _ h9 => h9) rfl d_RRef_badAt_16 ?_
    refine lv_icmp_ge (tgt := 82) hx hb d_RRef_badAt_19 (by decide) (fun c2 => ?_) (fun c2 => ?_)
    · replace hm := ip c2 hm
      refine lv_iconst (v := 0) hx hb d_RRef_badAt_82 (by decide) ?_
      refine lv_istore_n (lv' := [(2, .int 0), (0, .ref (ad 0)), (1, .int v1)]) hx hb d_RRef_badAt_83 rfl hl (by decide) rfl (fun ls hl => ?_)
      exact k_m_RRef_badAt_L84 X hA FU  v1 0 _ hm _ _ hP hD hS ls (lv_sub hl [1, 2, 0] rfl)
    · replace hm := ineg c2 hm
      refine lv_aload_n hx hb d_RRef_badAt_22 rfl (lv_at hl 0 rfl) ?_
      refine va_get (D := D) (ci := 6) (v := .ref (ad 9)) (C := R_RRef) (T := F_RRef) (N := 29) hx hb hts i_RRef hown hK hP 0 rfl rfl 14 (by decide) (hts _ wf_RRef_44) (fun _ h9 => h9) rfl d_RRef_badAt_23 ?_
      refine lv_iload_n hx hb d_RRef_badAt_26 rfl (lv_at hl 2 rfl) ?_
      obtain ⟨b22, hm⟩ := on hm
      refine va_iald hx hb hK hP 9 2 rfl rfl b22 d_RRef_badAt_27 ?_
      refine lv_iconst (v := (-1)) hx hb d_RRef_badAt_28 (by decide) ?_
      refine lv_icmp_eq (tgt := 44) hx hb d_RRef_badAt_29 (by decide) (fun c23 => ?_) (fun c23 => ?_)
      · replace hm := ip c23 hm
        refine lv_iconst (v := 0) hx hb d_RRef_badAt_44 (by decide) ?_
        refine lv_istore_n (lv' := [(3, .int 0), (0, .ref (ad 0)), (1, .int v1), (2, .int v2)]) hx hb d_RRef_badAt_45 rfl hl (by decide) rfl (fun ls hl => ?_)
        refine lv_iload_n hx hb d_RRef_badAt_46 rfl (lv_at hl 0 rfl) ?_
        refine lv_if_eq (tgt := 74) hx hb d_RRef_badAt_47 (by decide) (fun _ => ?_) (fun h9 => absurd h9 (by decide))
        refine lv_iload_n hx hb d_RRef_badAt_74 rfl (lv_at hl 2 rfl) ?_
        refine lv_istore_n (lv' := [(1, .int v1), (3, .int 0), (0, .ref (ad 0)), (2, .int v2)]) hx hb d_RRef_badAt_75 rfl hl (by decide) rfl (fun ls hl => ?_)
        refine lv_iinc (v := (v2 + 1)) (lv' := [(2, .int (v2 + 1)), (1, .int v1), (3, .int 0), (0, .ref (ad 0))]) hx hb d_RRef_badAt_76 hl (k := 3) rfl rfl (by decide) rfl (fun ls hl => ?_)
        refine lv_goto (tgt := 14) hx hb d_RRef_badAt_79 (by decide) ?_
        exact ih  v1 (v2 + 1) _ hm _ _ hP hD hS ls (lv_sub hl [3, 1, 0] rfl)
      · replace hm := ineg c23 hm
        refine lv_aload_n hx hb d_RRef_badAt_32 rfl (lv_at hl 0 rfl) ?_
        refine lv_iload_n hx hb d_RRef_badAt_33 rfl (lv_at hl 2 rfl) ?_
        obtain ⟨q24, hq24, hm⟩ := ob hm
        refine inv_rVa (C := R_RRef) (As := [.int v2]) (rest := []) (v := .int q24) X (c_RRef_isAsFound l D ca ad _ g v2 q24 hq24) g_RRef_126 yo_RRef_isAsFound ⟨Nat.le_of_ble_eq_true rfl, Nat.le_of_ble_eq_true rfl⟩ hl hP hD (ci := 6) rfl rfl hS hA rfl rfl (Nat.le_of_ble_eq_true rfl) ⟨Nat.zero_le _, Nat.zero_le _⟩ d_RRef_badAt_34 (fun H locs hP hS => ?_)
        refine lv_if_ne (tgt := 44) hx hb d_RRef_badAt_37 (by decide) (fun c25 => ?_) (fun c25 => ?_)
        · replace hm := ineg c25 hm
          refine lv_iconst (v := 0) hx hb d_RRef_badAt_44 (by decide) ?_
          refine lv_istore_n (lv' := [(3, .int 0), (0, .ref (ad 0)), (1, .int v1), (2, .int v2)]) hx hb d_RRef_badAt_45 rfl hl (by decide) rfl (fun ls hl => ?_)
          refine lv_iload_n hx hb d_RRef_badAt_46 rfl (lv_at hl 0 rfl) ?_
          refine lv_if_eq (tgt := 74) hx hb d_RRef_badAt_47 (by decide) (fun _ => ?_) (fun h9 => absurd h9 (by decide))
          refine lv_iload_n hx hb d_RRef_badAt_74 rfl (lv_at hl 2 rfl) ?_
          refine lv_istore_n (lv' := [(1, .int v1), (3, .int 0), (0, .ref (ad 0)), (2, .int v2)]) hx hb d_RRef_badAt_75 rfl hl (by decide) rfl (fun ls hl => ?_)
          refine lv_iinc (v := (v2 + 1)) (lv' := [(2, .int (v2 + 1)), (1, .int v1), (3, .int 0), (0, .ref (ad 0))]) hx hb d_RRef_badAt_76 hl (k := 3) rfl rfl (by decide) rfl (fun ls hl => ?_)
          refine lv_goto (tgt := 14) hx hb d_RRef_badAt_79 (by decide) ?_
          exact ih  v1 (v2 + 1) _ hm _ _ hP hD hS ls (lv_sub hl [3, 1, 0] rfl)
        · replace hm := ip c25 hm
          refine lv_iconst (v := 1) hx hb d_RRef_badAt_40 (by decide) ?_
          refine lv_goto (tgt := 45) hx hb d_RRef_badAt_41 (by decide) ?_
          refine lv_istore_n (lv' := [(3, .int 1), (0, .ref (ad 0)), (1, .int v1), (2, .int v2)]) hx hb d_RRef_badAt_45 rfl hl (by decide) rfl (fun ls hl => ?_)
          refine lv_iload_n hx hb d_RRef_badAt_46 rfl (lv_at hl 0 rfl) ?_
          refine lv_if_eq (tgt := 74) hx hb d_RRef_badAt_47 (by decide) (fun h9 => absurd h9 (by decide)) (fun _ => ?_)
          refine lv_iload_n hx hb d_RRef_badAt_50 rfl (lv_at hl 2 rfl) ?_
          refine lv_iconst (v := (-1)) hx hb d_RRef_badAt_51 (by decide) ?_
          refine lv_icmp_eq (tgt := 65) hx hb d_RRef_badAt_52 (by decide) (fun c26 => ?_) (fun c26 => ?_)
          · replace hm := ip c26 hm
            refine lv_aload_n hx hb d_RRef_badAt_65 rfl (lv_at hl 1 rfl) ?_
            refine va_get (D := D) (ci := 6) (v := .ref (ad 9)) (C := R_RRef) (T := F_RRef) (N := 29) hx hb hts i_RRef hown hK hP 0 rfl rfl 14 (by decide) (hts _ wf_RRef_44) (fun _ h9 => h9) rfl d_RRef_badAt_66 ?_
            refine lv_iload_n hx hb d_RRef_badAt_69 rfl (lv_at hl 3 rfl) ?_
            obtain ⟨b27, hm⟩ := on hm
            refine va_iald hx hb hK hP 9 2 rfl rfl b27 d_RRef_badAt_70 ?_
            refine lv_goto (tgt := 75) hx hb d_RRef_badAt_71 (by decide) ?_
            refine lv_istore_n (lv' := [(1, .int ((g_RmRow g).2 (v2).toNatClampNeg)), (3, .int 1), (0, .ref (ad 0)), (2, .int v2)]) hx hb d_RRef_badAt_75 rfl hl (by decide) rfl (fun ls hl => ?_)
            refine lv_iinc (v := (v2 + 1)) (lv' := [(2, .int (v2 + 1)), (1, .int ((g_RmRow g).2 (v2).toNatClampNeg)), (3, .int 1), (0, .ref (ad 0))]) hx hb d_RRef_badAt_76 hl (k := 3) rfl rfl (by decide) rfl (fun ls hl => ?_)
            refine lv_goto (tgt := 14) hx hb d_RRef_badAt_79 (by decide) ?_
            exact ih  ((g_RmRow g).2 (v2).toNatClampNeg) (v2 + 1) _ hm _ _ hP hD hS ls (lv_sub hl [3, 1, 0] rfl)
          · replace hm := ineg c26 hm
            refine lv_aload_n hx hb d_RRef_badAt_55 rfl (lv_at hl 1 rfl) ?_
            refine va_get (D := D) (ci := 6) (v := .ref (ad 9)) (C := R_RRef) (T := F_RRef) (N := 29) hx hb hts i_RRef hown hK hP 0 rfl rfl 14 (by decide) (hts _ wf_RRef_44) (fun _ h9 => h9) rfl d_RRef_badAt_56 ?_
            refine lv_iload_n hx hb d_RRef_badAt_59 rfl (lv_at hl 3 rfl) ?_
            obtain ⟨b28, hm⟩ := on hm
            refine va_iald hx hb hK hP 9 2 rfl rfl b28 d_RRef_badAt_60 ?_
            refine lv_iload_n hx hb d_RRef_badAt_61 rfl (lv_at hl 2 rfl) ?_
            refine lv_icmp_ge (tgt := 74) hx hb d_RRef_badAt_62 (by decide) (fun c29 => ?_) (fun c29 => ?_)
            · replace hm := ip c29 hm
              refine lv_iload_n hx hb d_RRef_badAt_74 rfl (lv_at hl 2 rfl) ?_
              refine lv_istore_n (lv' := [(1, .int v1), (3, .int 1), (0, .ref (ad 0)), (2, .int v2)]) hx hb d_RRef_badAt_75 rfl hl (by decide) rfl (fun ls hl => ?_)
              refine lv_iinc (v := (v2 + 1)) (lv' := [(2, .int (v2 + 1)), (1, .int v1), (3, .int 1), (0, .ref (ad 0))]) hx hb d_RRef_badAt_76 hl (k := 3) rfl rfl (by decide) rfl (fun ls hl => ?_)
              refine lv_goto (tgt := 14) hx hb d_RRef_badAt_79 (by decide) ?_
              exact ih  v1 (v2 + 1) _ hm _ _ hP hD hS ls (lv_sub hl [3, 1, 0] rfl)
            · replace hm := ineg c29 hm
              refine lv_aload_n hx hb d_RRef_badAt_65 rfl (lv_at hl 1 rfl) ?_
              refine va_get (D := D) (ci := 6) (v := .ref (ad 9)) (C := R_RRef) (T := F_RRef) (N := 29) hx hb hts i_RRef hown hK hP 0 rfl rfl 14 (by decide) (hts _ wf_RRef_44) (fun _ h9 => h9) rfl d_RRef_badAt_66 ?_
              refine lv_iload_n hx hb d_RRef_badAt_69 rfl (lv_at hl 3 rfl) ?_
              obtain ⟨b30, hm⟩ := on hm
              refine va_iald hx hb hK hP 9 2 rfl rfl b30 d_RRef_badAt_70 ?_
              refine lv_goto (tgt := 75) hx hb d_RRef_badAt_71 (by decide) ?_
              refine lv_istore_n (lv' := [(1, .int ((g_RmRow g).2 (v2).toNatClampNeg)), (3, .int 1), (0, .ref (ad 0)), (2, .int v2)]) hx hb d_RRef_badAt_75 rfl hl (by decide) rfl (fun ls hl => ?_)
              refine lv_iinc (v := (v2 + 1)) (lv' := [(2, .int (v2 + 1)), (1, .int ((g_RmRow g).2 (v2).toNatClampNeg)), (3, .int 1), (0, .ref (ad 0))]) hx hb d_RRef_badAt_76 hl (k := 3) rfl rfl (by decide) rfl (fun ls hl => ?_)
              refine lv_goto (tgt := 14) hx hb d_RRef_badAt_79 (by decide) ?_
              exact ih  ((g_RmRow g).2 (v2).toNatClampNeg) (v2 + 1) _ hm _ _ hP hD hS ls (lv_sub hl [3, 1, 0] rfl)
set_option maxHeartbeats 4000000 in
set_option maxRecDepth 100000 in
theorem c_RRef_badAt (l : Launch) (D : va_G) (ca : Nat → ClassId) (ad : Nat → Nat) (sz : Nat) (g : St_Ref)  (res : Int32) (hm : m_RRef_badAt g = some res) : Met l y_RRef_badAt (cws y_RRef_badAt b_RRef_badAt 5 (some .int)) (RM 3 71) (PreW D ca (wl_Ref ca ad g) [.ref (ad 0)] sz) (QRr (.int res) (va_A [] sz)) 0 0 (va_A [] sz) := by
  refine met_ofR (own := R_RRef) (by decide) rfl (Nat.le_of_ble_eq_true rfl) ?_
  intro p e s m below meth c A X hA hP hD ls hl
  obtain ⟨hx, hb, hml, hr, hown, hts, hK, hlocks⟩ := id X
  have hS : va_S A s.heap s.heap [] := va_S.rf
  have hl : lv_has ls 5 [(0, .ref (ad 0))] := hl
  unfold m_RRef_badAt at hm
  refine lv_aload_n hx hb d_RRef_badAt_0 rfl (lv_at hl 0 rfl) ?_
  refine va_get (D := D) (ci := 6) (v := .int (g_Ropen g)) (C := R_RRef) (T := F_RRef) (N := 29) hx hb hts i_RRef hown hK hP 0 rfl rfl 2 (by decide) (hts _ wf_RRef_13) (fun _ h9 => h9) rfl d_RRef_badAt_1 ?_
  refine lv_if_ne (tgt := 10) hx hb d_RRef_badAt_4 (by decide) (fun c1 => ?_) (fun c1 => ?_)
  · replace hm := ineg c1 hm
    refine lv_iconst (v := (-1)) hx hb d_RRef_badAt_10 (by decide) ?_
    refine lv_istore_n (lv' := [(1, .int (-1)), (0, .ref (ad 0))]) hx hb d_RRef_badAt_11 rfl hl (by decide) rfl (fun ls hl => ?_)
    refine lv_iconst (v := 0) hx hb d_RRef_badAt_12 (by decide) ?_
    refine lv_istore_n (lv' := [(2, .int 0), (1, .int (-1)), (0, .ref (ad 0))]) hx hb d_RRef_badAt_13 rfl hl (by decide) rfl (fun ls hl => ?_)
    exact k_m_RRef_badAt_L14 X hA FU  (-1) 0 _ hm _ _ hP hD hS ls (lv_sub hl [2, 1, 0] rfl)
  · replace hm := ip c1 hm
    refine lv_bipush (v := (-3)) hx hb d_RRef_badAt_7 (by decide) ?_
    cases hm
    exact ret_ri X hS d_RRef_badAt_9
set_option maxHeartbeats 4000000 in
set_option maxRecDepth 100000 in
theorem c_RRef_poke (l : Launch) (D : va_G) (ca : Nat → ClassId) (ad : Nat → Nat) (sz : Nat) (g : St_Ref) (p1 : Int32) (p2 : Int32) (p3 : Int32) (res : Int32 × St_Ref) (hm : m_RRef_poke g p1 p2 p3 = some res) : Met l y_RRef_poke (cws y_RRef_poke b_RRef_poke 4 (some .int)) (RM 1 22) (PreW D ca (wl_Ref ca ad g) [.ref (ad 0), .int p1, .int p2, .int p3] sz) (QRm D (some (.int res.1)) (wl_Ref ca ad res.2) (va_A (wl_Ref ca ad g) sz)) 0 0 (va_A (wl_Ref ca ad g) sz) := by
  refine met_ofM (own := R_RRef) (by decide) rfl (Nat.le_of_ble_eq_true rfl) ?_
  intro p e s m below meth c A X hA hP hD ls hl
  obtain ⟨hx, hb, hml, hr, hown, hts, hK, hlocks⟩ := id X
  have hS : va_S A s.heap s.heap [] := va_S.rf
  have hl : lv_has ls 4 [(0, .ref (ad 0)), (1, .int p1), (2, .int p2), (3, .int p3)] := hl
  unfold m_RRef_poke at hm
  refine lv_iload_n hx hb d_RRef_poke_0 rfl (lv_at hl 1 rfl) ?_
  refine lv_iconst (v := 0) hx hb d_RRef_poke_1 (by decide) ?_
  refine lv_aload_n hx hb d_RRef_poke_2 rfl (lv_at hl 0 rfl) ?_
  refine va_get (D := D) (ci := 6) (v := .int (g_Rrows g)) (C := R_RRef) (T := F_RRef) (N := 29) hx hb hts i_RRef hown hK hP 0 rfl rfl 1 (by decide) (hts _ wf_RRef_78) (fun _ h9 => h9) rfl d_RRef_poke_3 ?_
  refine lv_iconst (v := 1) hx hb d_RRef_poke_6 (by decide) ?_
  refine lv_isub hx hb d_RRef_poke_7 ?_
  obtain ⟨q1, hq1, hm⟩ := ob hm
  refine inv_rS (As := [.int p1, .int 0, .int ((g_Rrows g) - 1)]) (rest := []) (v := .int q1) X (c_RRef_isIn l D ca  _ p1 0 ((g_Rrows g) - 1) q1 hq1) g_RRef_172 yo_RRef_isIn ⟨Nat.le_of_ble_eq_true rfl, Nat.le_of_ble_eq_true rfl⟩ hl hP hD [] rfl rfl hS hA rfl rfl (Nat.le_of_ble_eq_true rfl) ⟨Nat.zero_le _, Nat.zero_le _⟩ d_RRef_poke_8 (fun H locs hP hS => ?_)
  refine lv_if_eq (tgt := 35) hx hb d_RRef_poke_11 (by decide) (fun c2 => ?_) (fun c2 => ?_)
  · replace hm := ip c2 hm
    refine lv_bipush (v := (-2)) hx hb d_RRef_poke_35 (by decide) ?_
    cases hm
    exact ret_mi X hP hS d_RRef_poke_37
  · replace hm := ineg c2 hm
    refine lv_iload_n hx hb d_RRef_poke_14 rfl (lv_at hl 2 rfl) ?_
    refine lv_iconst (v := 0) hx hb d_RRef_poke_15 (by decide) ?_
    refine lv_bipush (v := 31) hx hb d_RRef_poke_16 (by decide) ?_
    obtain ⟨q3, hq3, hm⟩ := ob hm
    refine inv_rS (As := [.int p2, .int 0, .int 31]) (rest := []) (v := .int q3) X (c_RRef_isIn l D ca  _ p2 0 31 q3 hq3) g_RRef_172 yo_RRef_isIn ⟨Nat.le_of_ble_eq_true rfl, Nat.le_of_ble_eq_true rfl⟩ hl hP hD [] rfl rfl hS hA rfl rfl (Nat.le_of_ble_eq_true rfl) ⟨Nat.zero_le _, Nat.zero_le _⟩ d_RRef_poke_18 (fun H locs hP hS => ?_)
    refine lv_if_eq (tgt := 35) hx hb d_RRef_poke_21 (by decide) (fun c4 => ?_) (fun c4 => ?_)
    · replace hm := ip c4 hm
      refine lv_bipush (v := (-2)) hx hb d_RRef_poke_35 (by decide) ?_
      cases hm
      exact ret_mi X hP hS d_RRef_poke_37
    · replace hm := ineg c4 hm
      refine lv_iload_n hx hb d_RRef_poke_24 rfl (lv_at hl 3 rfl) ?_
      refine lv_iconst (v := 1) hx hb d_RRef_poke_25 (by decide) ?_
      refine lv_sipush (v := 255) hx hb d_RRef_poke_26 (by decide) ?_
      obtain ⟨q5, hq5, hm⟩ := ob hm
      refine inv_rS (As := [.int p3, .int 1, .int 255]) (rest := []) (v := .int q5) X (c_RRef_isIn l D ca  _ p3 1 255 q5 hq5) g_RRef_172 yo_RRef_isIn ⟨Nat.le_of_ble_eq_true rfl, Nat.le_of_ble_eq_true rfl⟩ hl hP hD [] rfl rfl hS hA rfl rfl (Nat.le_of_ble_eq_true rfl) ⟨Nat.zero_le _, Nat.zero_le _⟩ d_RRef_poke_29 (fun H locs hP hS => ?_)
      refine lv_if_ne (tgt := 38) hx hb d_RRef_poke_32 (by decide) (fun c6 => ?_) (fun c6 => ?_)
      · replace hm := ineg c6 hm
        refine lv_aload_n hx hb d_RRef_poke_38 rfl (lv_at hl 0 rfl) ?_
        refine va_get (D := D) (ci := 6) (v := .ref (ad 1)) (C := R_RRef) (T := F_RRef) (N := 29) hx hb hts i_RRef hown hK hP 0 rfl rfl 0 (by decide) (hts _ wf_RRef_7) (fun _ h9 => h9) rfl d_RRef_poke_39 ?_
        refine lv_bipush (v := 32) hx hb d_RRef_poke_42 (by decide) ?_
        refine lv_iload_n hx hb d_RRef_poke_44 rfl (lv_at hl 1 rfl) ?_
        refine lv_imul hx hb d_RRef_poke_45 ?_
        refine lv_iload_n hx hb d_RRef_poke_46 rfl (lv_at hl 2 rfl) ?_
        refine lv_iadd hx hb d_RRef_poke_47 ?_
        refine lv_dup2_11 hx hb d_RRef_poke_48 rfl rfl ?_
        obtain ⟨b7, hm⟩ := on hm
        refine va_bald hx hb hK hP 1 0 rfl rfl b7 d_RRef_poke_49 ?_
        refine lv_iload_n hx hb d_RRef_poke_50 rfl (lv_at hl 3 rfl) ?_
        refine lv_ixor hx hb d_RRef_poke_51 ?_
        refine lv_i2b (v := (((((g_Rmedium g).2 (((32 * p1) + p2)).toNatClampNeg) ^^^ p3)).toInt8.toInt32)) hx hb d_RRef_poke_52 rfl ?_
        obtain ⟨b8, hm⟩ := on hm
        refine va_bast hx hb hK hP hD hS 1 0 rfl rfl b8 d_RRef_poke_53 (fun H locs hP hD hS => ?_)
        replace hP : va_P D classes (wl_Ref ca ad (s_Rmedium g ((g_Rmedium g).1, upd (g_Rmedium g).2 (((32 * p1) + p2)).toNatClampNeg (vp_nar .byte (((((g_Rmedium g).2 (((32 * p1) + p2)).toNatClampNeg) ^^^ p3)).toInt8.toInt32))))) H := hP
        replace hD : va_D A (wl_Ref ca ad (s_Rmedium g ((g_Rmedium g).1, upd (g_Rmedium g).2 (((32 * p1) + p2)).toNatClampNeg (vp_nar .byte (((((g_Rmedium g).2 (((32 * p1) + p2)).toNatClampNeg) ^^^ p3)).toInt8.toInt32))))) := hD
        refine lv_aload_n hx hb d_RRef_poke_54 rfl (lv_at hl 0 rfl) ?_
        refine va_get (D := D) (ci := 6) (v := .ref (ad 1)) (C := R_RRef) (T := F_RRef) (N := 29) hx hb hts i_RRef hown hK hP 0 rfl rfl 0 (by decide) (hts _ wf_RRef_7) (fun _ h9 => h9) rfl d_RRef_poke_55 ?_
        refine lv_bipush (v := 32) hx hb d_RRef_poke_58 (by decide) ?_
        refine lv_iload_n hx hb d_RRef_poke_60 rfl (lv_at hl 1 rfl) ?_
        refine lv_imul hx hb d_RRef_poke_61 ?_
        refine lv_iload_n hx hb d_RRef_poke_62 rfl (lv_at hl 2 rfl) ?_
        refine lv_iadd hx hb d_RRef_poke_63 ?_
        obtain ⟨b9, hm⟩ := on hm
        refine va_bald hx hb hK hP 1 0 rfl rfl b9 d_RRef_poke_64 ?_
        refine lv_sipush (v := 255) hx hb d_RRef_poke_65 (by decide) ?_
        refine lv_iand hx hb d_RRef_poke_68 ?_
        cases hm
        exact ret_mi X hP hS d_RRef_poke_69
      · replace hm := ip c6 hm
        refine lv_bipush (v := (-2)) hx hb d_RRef_poke_35 (by decide) ?_
        cases hm
        exact ret_mi X hP hS d_RRef_poke_37
set_option maxHeartbeats 4000000 in
set_option maxRecDepth 100000 in
theorem c_RRef_byteAt (l : Launch) (D : va_G) (ca : Nat → ClassId) (ad : Nat → Nat) (sz : Nat) (g : St_Ref) (p1 : Int32) (p2 : Int32) (res : Int32) (hm : m_RRef_byteAt g p1 p2 = some res) : Met l y_RRef_byteAt (cws y_RRef_byteAt b_RRef_byteAt 3 (some .int)) (RM 1 22) (PreW D ca (wl_Ref ca ad g) [.ref (ad 0), .int p1, .int p2] sz) (QRr (.int res) (va_A [] sz)) 0 0 (va_A [] sz) := by
  refine met_ofR (own := R_RRef) (by decide) rfl (Nat.le_of_ble_eq_true rfl) ?_
  intro p e s m below meth c A X hA hP hD ls hl
  obtain ⟨hx, hb, hml, hr, hown, hts, hK, hlocks⟩ := id X
  have hS : va_S A s.heap s.heap [] := va_S.rf
  have hl : lv_has ls 3 [(0, .ref (ad 0)), (1, .int p1), (2, .int p2)] := hl
  unfold m_RRef_byteAt at hm
  refine lv_iload_n hx hb d_RRef_byteAt_0 rfl (lv_at hl 1 rfl) ?_
  refine lv_iconst (v := 0) hx hb d_RRef_byteAt_1 (by decide) ?_
  refine lv_aload_n hx hb d_RRef_byteAt_2 rfl (lv_at hl 0 rfl) ?_
  refine va_get (D := D) (ci := 6) (v := .int (g_Rrows g)) (C := R_RRef) (T := F_RRef) (N := 29) hx hb hts i_RRef hown hK hP 0 rfl rfl 1 (by decide) (hts _ wf_RRef_78) (fun _ h9 => h9) rfl d_RRef_byteAt_3 ?_
  refine lv_iconst (v := 1) hx hb d_RRef_byteAt_6 (by decide) ?_
  refine lv_isub hx hb d_RRef_byteAt_7 ?_
  obtain ⟨q1, hq1, hm⟩ := ob hm
  refine inv_rS (As := [.int p1, .int 0, .int ((g_Rrows g) - 1)]) (rest := []) (v := .int q1) X (c_RRef_isIn l D ca  _ p1 0 ((g_Rrows g) - 1) q1 hq1) g_RRef_172 yo_RRef_isIn ⟨Nat.le_of_ble_eq_true rfl, Nat.le_of_ble_eq_true rfl⟩ hl hP hD [] rfl rfl hS hA rfl rfl (Nat.le_of_ble_eq_true rfl) ⟨Nat.zero_le _, Nat.zero_le _⟩ d_RRef_byteAt_8 (fun H locs hP hS => ?_)
  refine lv_if_eq (tgt := 24) hx hb d_RRef_byteAt_11 (by decide) (fun c2 => ?_) (fun c2 => ?_)
  · replace hm := ip c2 hm
    refine lv_bipush (v := (-2)) hx hb d_RRef_byteAt_24 (by decide) ?_
    refine lv_goto (tgt := 44) hx hb d_RRef_byteAt_26 (by decide) ?_
    cases hm
    exact ret_ri X hS d_RRef_byteAt_44
  · replace hm := ineg c2 hm
    refine lv_iload_n hx hb d_RRef_byteAt_14 rfl (lv_at hl 2 rfl) ?_
    refine lv_iconst (v := 0) hx hb d_RRef_byteAt_15 (by decide) ?_
    refine lv_bipush (v := 31) hx hb d_RRef_byteAt_16 (by decide) ?_
    obtain ⟨q3, hq3, hm⟩ := ob hm
    refine inv_rS (As := [.int p2, .int 0, .int 31]) (rest := []) (v := .int q3) X (c_RRef_isIn l D ca  _ p2 0 31 q3 hq3) g_RRef_172 yo_RRef_isIn ⟨Nat.le_of_ble_eq_true rfl, Nat.le_of_ble_eq_true rfl⟩ hl hP hD [] rfl rfl hS hA rfl rfl (Nat.le_of_ble_eq_true rfl) ⟨Nat.zero_le _, Nat.zero_le _⟩ d_RRef_byteAt_18 (fun H locs hP hS => ?_)
    refine lv_if_ne (tgt := 29) hx hb d_RRef_byteAt_21 (by decide) (fun c4 => ?_) (fun c4 => ?_)
    · replace hm := ineg c4 hm
      refine lv_aload_n hx hb d_RRef_byteAt_29 rfl (lv_at hl 0 rfl) ?_
      refine va_get (D := D) (ci := 6) (v := .ref (ad 1)) (C := R_RRef) (T := F_RRef) (N := 29) hx hb hts i_RRef hown hK hP 0 rfl rfl 0 (by decide) (hts _ wf_RRef_7) (fun _ h9 => h9) rfl d_RRef_byteAt_30 ?_
      refine lv_bipush (v := 32) hx hb d_RRef_byteAt_33 (by decide) ?_
      refine lv_iload_n hx hb d_RRef_byteAt_35 rfl (lv_at hl 1 rfl) ?_
      refine lv_imul hx hb d_RRef_byteAt_36 ?_
      refine lv_iload_n hx hb d_RRef_byteAt_37 rfl (lv_at hl 2 rfl) ?_
      refine lv_iadd hx hb d_RRef_byteAt_38 ?_
      obtain ⟨b5, hm⟩ := on hm
      refine va_bald hx hb hK hP 1 0 rfl rfl b5 d_RRef_byteAt_39 ?_
      refine lv_sipush (v := 255) hx hb d_RRef_byteAt_40 (by decide) ?_
      refine lv_iand hx hb d_RRef_byteAt_43 ?_
      cases hm
      exact ret_ri X hS d_RRef_byteAt_44
    · replace hm := ip c4 hm
      refine lv_bipush (v := (-2)) hx hb d_RRef_byteAt_24 (by decide) ?_
      refine lv_goto (tgt := 44) hx hb d_RRef_byteAt_26 (by decide) ?_
      cases hm
      exact ret_ri X hS d_RRef_byteAt_44
set_option maxHeartbeats 4000000 in
set_option maxRecDepth 100000 in
theorem k_m_RRef_savepoint_L111 {p : Program} {l : Launch} {e : Env} {s : State} {m : MethodId} {args : Array Value} {below : List Frame} {meth : Method} {c : Code} {D : va_G} {ca : Nat → ClassId} {ad : Nat → Nat} {A : Nat → Prop} (X : Cx p s m args meth c R_RRef b_RRef_savepoint 6 (some .int) D ca) (hA : ∀ q, s.heap.size ≤ q → A q)  {k : St_Ref → Int32 → Int32 → Int32 → Option (Int32 × St_Ref)} (hk : ∀ (g9 : St_Ref) (w1 : Int32) (w2 : Int32) (w3 : Int32) (res : Int32 × St_Ref), k g9 w1 w2 w3 = some res → ∀ (H : Heap) (locs : List Loc), va_P D classes (wl_Ref ca ad g9) H → va_D A (wl_Ref ca ad g9) → va_S A s.heap H locs → ∀ ls : Array Slot, lv_has ls 6 [(0, .ref (ad 0)), (1, .int w1), (2, .int w2), (3, .int w3)] → W p l e (RM 1 27) s m args below meth c H locs 0 0 (MQ below (QRm D (some (.int res.1)) (wl_Ref ca ad res.2) A) args s 0 0 A) (F0 m 147 ls [])) : ∀ (n : Nat) (g : St_Ref) (v1 : Int32) (v2 : Int32) (v3 : Int32) (v4 : Int32) (v5 : Int32) (res : Int32 × St_Ref), m_RRef_savepoint_L111  k n g v1 v2 v3 v4 v5 = some res → ∀ (H : Heap) (locs : List Loc), va_P D classes (wl_Ref ca ad g) H → va_D A (wl_Ref ca ad g) → va_S A s.heap H locs → ∀ ls : Array Slot, lv_has ls 6 [(0, .ref (ad 0)), (1, .int v1), (2, .int v2), (3, .int v3), (4, .int v4), (5, .int v5)] → W p l e (RM 1 27) s m args below meth c H locs 0 0 (MQ below (QRm D (some (.int res.1)) (wl_Ref ca ad res.2) A) args s 0 0 A) (F0 m 111 ls []) := by
  obtain ⟨hx, hb, hml, hr, hown, hts, hK, hlocks⟩ := id X
  intro n
  induction n with
  | zero =>
    intro g v1 v2 v3 v4 v5 res hm
    rw [m_RRef_savepoint_L111] at hm
    cases hm
  | succ n ih =>
    intro g v1 v2 v3 v4 v5 res hm H locs hP hD hS ls hl
    rw [m_RRef_savepoint_L111] at hm
    refine lv_iload hx hb d_RRef_savepoint_111 (lv_at hl 5 rfl) ?_
    refine lv_aload_n hx hb d_RRef_savepoint_113 rfl (lv_at hl 0 rfl) ?_
    refine va_get (D := D) (ci := 6) (v := .ref (ad 6)) (C := R_RRef) (T := F_RRef) (N := 29) hx hb hts i_RRef hown hK hP 0 rfl rfl 10 (by decide) (hts _ wf_RRef_35) (fun _ h9 => h9) rfl d_RRef_savepoint_114 ?_
    refine lv_iload hx hb d_RRef_savepoint_117 (lv_at hl 4 rfl) ?_
    obtain ⟨b16, hm⟩ := on hm
    refine va_iald hx hb hK hP 6 2 rfl rfl b16 d_RRef_savepoint_119 ?_
    refine lv_icmp_ge (tgt := 147) hx hb d_RRef_savepoint_120 (by decide) (fun c17 => ?_) (fun c17 => ?_)
    · replace hm := ip c17 hm
      exact hk g v1 v2 v3 _ hm _ _ hP hD hS ls (lv_sub hl [0, 1, 2, 3] rfl)
    · replace hm := ineg c17 hm
      refine lv_aload_n hx hb d_RRef_savepoint_123 rfl (lv_at hl 0 rfl) ?_
      refine va_get (D := D) (ci := 6) (v := .ref (ad 18)) (C := R_RRef) (T := F_RRef) (N := 29) hx hb hts i_RRef hown hK hP 0 rfl rfl 27 (by decide) (hts _ wf_RRef_72) (fun _ h9 => h9) rfl d_RRef_savepoint_124 ?_
      refine lv_iload_n hx hb d_RRef_savepoint_127 rfl (lv_at hl 2 rfl) ?_
      refine lv_aload_n hx hb d_RRef_savepoint_128 rfl (lv_at hl 0 rfl) ?_
      refine lv_iload hx hb d_RRef_savepoint_129 (lv_at hl 4 rfl) ?_
      refine lv_iload hx hb d_RRef_savepoint_131 (lv_at hl 5 rfl) ?_
      obtain ⟨q18, hq18, hm⟩ := ob hm
      refine inv_rVa (C := R_RRef) (As := [.int v4, .int v5]) (rest := [.int v2, .ref (ad 18)]) (v := .int q18) X (c_RRef_byteOf l D ca ad _ g v4 v5 q18 hq18) g_RRef_233 yo_RRef_byteOf ⟨Nat.le_of_ble_eq_true rfl, Nat.le_of_ble_eq_true rfl⟩ hl hP hD (ci := 6) rfl rfl hS hA rfl rfl (Nat.le_of_ble_eq_true rfl) ⟨Nat.zero_le _, Nat.zero_le _⟩ d_RRef_savepoint_133 (fun H locs hP hS => ?_)
      refine lv_i2b (v := ((q18).toInt8.toInt32)) hx hb d_RRef_savepoint_136 rfl ?_
      obtain ⟨b19, hm⟩ := on hm
      refine va_bast hx hb hK hP hD hS 18 0 rfl rfl b19 d_RRef_savepoint_137 (fun H locs hP hD hS => ?_)
      replace hP : va_P D classes (wl_Ref ca ad (s_Rspoint g ((g_Rspoint g).1, upd (g_Rspoint g).2 (v2).toNatClampNeg (vp_nar .byte ((q18).toInt8.toInt32))))) H := hP
      replace hD : va_D A (wl_Ref ca ad (s_Rspoint g ((g_Rspoint g).1, upd (g_Rspoint g).2 (v2).toNatClampNeg (vp_nar .byte ((q18).toInt8.toInt32))))) := hD
      refine lv_iinc (v := (v2 + 1)) (lv' := [(2, .int (v2 + 1)), (0, .ref (ad 0)), (1, .int v1), (3, .int v3), (4, .int v4), (5, .int v5)]) hx hb d_RRef_savepoint_138 hl (k := 2) rfl rfl (by decide) rfl (fun ls hl => ?_)
      refine lv_iinc (v := (v5 + 1)) (lv' := [(5, .int (v5 + 1)), (2, .int (v2 + 1)), (0, .ref (ad 0)), (1, .int v1), (3, .int v3), (4, .int v4)]) hx hb d_RRef_savepoint_141 hl (k := 5) rfl rfl (by decide) rfl (fun ls hl => ?_)
      refine lv_goto (tgt := 111) hx hb d_RRef_savepoint_144 (by decide) ?_
      exact ih (s_Rspoint g ((g_Rspoint g).1, upd (g_Rspoint g).2 (v2).toNatClampNeg (vp_nar .byte ((q18).toInt8.toInt32)))) v1 (v2 + 1) v3 v4 (v5 + 1) _ hm _ _ hP hD hS ls (lv_sub hl [2, 3, 1, 4, 5, 0] rfl)
set_option maxHeartbeats 4000000 in
set_option maxRecDepth 100000 in
theorem k_m_RRef_savepoint_L25 {p : Program} {l : Launch} {e : Env} {s : State} {m : MethodId} {args : Array Value} {below : List Frame} {meth : Method} {c : Code} {D : va_G} {ca : Nat → ClassId} {ad : Nat → Nat} {A : Nat → Prop} (X : Cx p s m args meth c R_RRef b_RRef_savepoint 6 (some .int) D ca) (hA : ∀ q, s.heap.size ≤ q → A q)  : ∀ (n : Nat) (g : St_Ref) (v1 : Int32) (v2 : Int32) (v3 : Int32) (res : Int32 × St_Ref), m_RRef_savepoint_L25  n g v1 v2 v3 = some res → ∀ (H : Heap) (locs : List Loc), va_P D classes (wl_Ref ca ad g) H → va_D A (wl_Ref ca ad g) → va_S A s.heap H locs → ∀ ls : Array Slot, lv_has ls 6 [(0, .ref (ad 0)), (1, .int v1), (2, .int v2), (3, .int v3)] → W p l e (RM 1 27) s m args below meth c H locs 0 0 (MQ below (QRm D (some (.int res.1)) (wl_Ref ca ad res.2) A) args s 0 0 A) (F0 m 25 ls []) := by
  obtain ⟨hx, hb, hml, hr, hown, hts, hK, hlocks⟩ := id X
  intro n
  induction n with
  | zero =>
    intro g v1 v2 v3 res hm
    rw [m_RRef_savepoint_L25] at hm
    cases hm
  | succ n ih =>
    intro g v1 v2 v3 res hm H locs hP hD hS ls hl
    rw [m_RRef_savepoint_L25] at hm
    refine lv_iload_n hx hb d_RRef_savepoint_25 rfl (lv_at hl 3 rfl) ?_
    refine lv_aload_n hx hb d_RRef_savepoint_26 rfl (lv_at hl 0 rfl) ?_
    refine va_get (D := D) (ci := 6) (v := .ref (ad 10)) (C := R_RRef) (T := F_RRef) (N := 29) hx hb hts i_RRef hown hK hP 0 rfl rfl 15 (by decide) (hts _ wf_RRef_47) (fun _ h9 => h9) rfl d_RRef_savepoint_27 ?_
    refine lv_iload_n hx hb d_RRef_savepoint_30 rfl (lv_at hl 1 rfl) ?_
    obtain ⟨b4, hm⟩ := on hm
    refine va_iald hx hb hK hP 10 2 rfl rfl b4 d_RRef_savepoint_31 ?_
    refine lv_icmp_ge (tgt := 153) hx hb d_RRef_savepoint_32 (by decide) (fun c5 => ?_) (fun c5 => ?_)
    · replace hm := ip c5 hm
      refine lv_aload_n hx hb d_RRef_savepoint_153 rfl (lv_at hl 0 rfl) ?_
      refine va_get (D := D) (ci := 6) (v := .ref (ad 18)) (C := R_RRef) (T := F_RRef) (N := 29) hx hb hts i_RRef hown hK hP 0 rfl rfl 27 (by decide) (hts _ wf_RRef_72) (fun _ h9 => h9) rfl d_RRef_savepoint_154 ?_
      refine lv_iload_n hx hb d_RRef_savepoint_157 rfl (lv_at hl 2 rfl) ?_
      refine lv_bipush (v := 8) hx hb d_RRef_savepoint_158 (by decide) ?_
      refine lv_aload_n hx hb d_RRef_savepoint_160 rfl (lv_at hl 0 rfl) ?_
      refine va_get (D := D) (ci := 6) (v := .ref (ad 18)) (C := R_RRef) (T := F_RRef) (N := 29) hx hb hts i_RRef hown hK hP 0 rfl rfl 27 (by decide) (hts _ wf_RRef_72) (fun _ h9 => h9) rfl d_RRef_savepoint_161 ?_
      refine lv_iconst (v := 0) hx hb d_RRef_savepoint_164 (by decide) ?_
      refine lv_iload_n hx hb d_RRef_savepoint_165 rfl (lv_at hl 2 rfl) ?_
      obtain ⟨q6, hq6, hm⟩ := ob hm
      refine inv_rS (As := [.ref (ad 18), .int 0, .int v2]) (rest := [.int 8, .int v2, .ref (ad 18)]) (v := .long q6) X (c_RRef_digest l D ca (ad 18) _ (g_Rspoint g) 0 v2 q6 hq6) g_RRef_89 yo_RRef_digest ⟨Nat.le_of_ble_eq_true rfl, Nat.le_of_ble_eq_true rfl⟩ hl hP hD [18] rfl rfl hS hA rfl rfl (Nat.le_of_ble_eq_true rfl) ⟨Nat.zero_le _, Nat.zero_le _⟩ d_RRef_savepoint_166 (fun H locs hP hS => ?_)
      obtain ⟨q7, hq7, hm⟩ := ob hm
      refine inv_mS (As := [.ref (ad 18), .int v2, .int 8, .long q6]) (rest := []) (ws' := wl_Ref ca ad (s_Rspoint g q7)) X (c_RRef_put l D ca (ad 18) _ (g_Rspoint g) v2 8 q6 q7 hq7) g_RRef_102 yo_RRef_put ⟨Nat.le_of_ble_eq_true rfl, Nat.le_of_ble_eq_true rfl⟩ hl hP hD [18] rfl rfl rfl rfl hS hA rfl rfl (Nat.le_of_ble_eq_true rfl) ⟨Nat.zero_le _, Nat.zero_le _⟩ d_RRef_savepoint_169 (fun H locs hP hD hS => ?_)
      refine lv_iload_n hx hb d_RRef_savepoint_172 rfl (lv_at hl 2 rfl) ?_
      refine lv_bipush (v := 8) hx hb d_RRef_savepoint_173 (by decide) ?_
      refine lv_iadd hx hb d_RRef_savepoint_175 ?_
      cases hm
      exact ret_mi X hP hS d_RRef_savepoint_176
    · replace hm := ineg c5 hm
      refine lv_aload_n hx hb d_RRef_savepoint_35 rfl (lv_at hl 0 rfl) ?_
      refine lv_aload_n hx hb d_RRef_savepoint_36 rfl (lv_at hl 0 rfl) ?_
      refine va_get (D := D) (ci := 6) (v := .ref (ad 12)) (C := R_RRef) (T := F_RRef) (N := 29) hx hb hts i_RRef hown hK hP 0 rfl rfl 17 (by decide) (hts _ wf_RRef_53) (fun _ h9 => h9) rfl d_RRef_savepoint_37 ?_
      refine lv_bipush (v := 12) hx hb d_RRef_savepoint_40 (by decide) ?_
      refine lv_iload_n hx hb d_RRef_savepoint_42 rfl (lv_at hl 1 rfl) ?_
      refine lv_imul hx hb d_RRef_savepoint_43 ?_
      refine lv_iload_n hx hb d_RRef_savepoint_44 rfl (lv_at hl 3 rfl) ?_
      refine lv_iadd hx hb d_RRef_savepoint_45 ?_
      obtain ⟨b8, hm⟩ := on hm
      refine va_iald hx hb hK hP 12 2 rfl rfl b8 d_RRef_savepoint_46 ?_
      obtain ⟨q9, hq9, hm⟩ := ob hm
      refine inv_rVa (C := R_RRef) (As := [.int ((g_RmPart g).2 (((12 * v1) + v3)).toNatClampNeg)]) (rest := []) (v := .int q9) X (c_RRef_findPart l D ca ad _ g ((g_RmPart g).2 (((12 * v1) + v3)).toNatClampNeg) q9 hq9) g_RRef_129 yo_RRef_findPart ⟨Nat.le_of_ble_eq_true rfl, Nat.le_of_ble_eq_true rfl⟩ hl hP hD (ci := 6) rfl rfl hS hA rfl rfl (Nat.le_of_ble_eq_true rfl) ⟨Nat.zero_le _, Nat.zero_le _⟩ d_RRef_savepoint_47 (fun H locs hP hS => ?_)
      refine lv_istore (lv' := [(4, .int q9), (0, .ref (ad 0)), (1, .int v1), (2, .int v2), (3, .int v3)]) hx hb d_RRef_savepoint_50 hl (by decide) rfl (fun ls hl => ?_)
      refine lv_aload_n hx hb d_RRef_savepoint_52 rfl (lv_at hl 1 rfl) ?_
      refine va_get (D := D) (ci := 6) (v := .ref (ad 18)) (C := R_RRef) (T := F_RRef) (N := 29) hx hb hts i_RRef hown hK hP 0 rfl rfl 27 (by decide) (hts _ wf_RRef_72) (fun _ h9 => h9) rfl d_RRef_savepoint_53 ?_
      refine lv_iload_n hx hb d_RRef_savepoint_56 rfl (lv_at hl 3 rfl) ?_
      refine lv_aload_n hx hb d_RRef_savepoint_57 rfl (lv_at hl 1 rfl) ?_
      refine va_get (D := D) (ci := 6) (v := .ref (ad 4)) (C := R_RRef) (T := F_RRef) (N := 29) hx hb hts i_RRef hown hK hP 0 rfl rfl 8 (by decide) (hts _ wf_RRef_28) (fun _ h9 => h9) rfl d_RRef_savepoint_58 ?_
      refine lv_iload hx hb d_RRef_savepoint_61 (lv_at hl 0 rfl) ?_
      obtain ⟨b10, hm⟩ := on hm
      refine va_iald hx hb hK hP 4 2 rfl rfl b10 d_RRef_savepoint_63 ?_
      refine lv_i2b (v := ((((g_RpGroup g).2 (q9).toNatClampNeg)).toInt8.toInt32)) hx hb d_RRef_savepoint_64 rfl ?_
      obtain ⟨b11, hm⟩ := on hm
      refine va_bast hx hb hK hP hD hS 18 0 rfl rfl b11 d_RRef_savepoint_65 (fun H locs hP hD hS => ?_)
      replace hP : va_P D classes (wl_Ref ca ad (s_Rspoint g ((g_Rspoint g).1, upd (g_Rspoint g).2 (v2).toNatClampNeg (vp_nar .byte ((((g_RpGroup g).2 (q9).toNatClampNeg)).toInt8.toInt32))))) H := hP
      replace hD : va_D A (wl_Ref ca ad (s_Rspoint g ((g_Rspoint g).1, upd (g_Rspoint g).2 (v2).toNatClampNeg (vp_nar .byte ((((g_RpGroup g).2 (q9).toNatClampNeg)).toInt8.toInt32))))) := hD
      refine lv_aload_n hx hb d_RRef_savepoint_66 rfl (lv_at hl 1 rfl) ?_
      refine va_get (D := D) (ci := 6) (v := .ref (ad 18)) (C := R_RRef) (T := F_RRef) (N := 29) hx hb hts i_RRef hown hK hP 0 rfl rfl 27 (by decide) (hts _ wf_RRef_72) (fun _ h9 => h9) rfl d_RRef_savepoint_67 ?_
      refine lv_iload_n hx hb d_RRef_savepoint_70 rfl (lv_at hl 3 rfl) ?_
      refine lv_iconst (v := 1) hx hb d_RRef_savepoint_71 (by decide) ?_
      refine lv_iadd hx hb d_RRef_savepoint_72 ?_
      refine lv_bipush (v := 8) hx hb d_RRef_savepoint_73 (by decide) ?_
      refine lv_aload_n hx hb d_RRef_savepoint_75 rfl (lv_at hl 1 rfl) ?_
      refine va_get (D := D) (ci := 6) (v := .ref (ad 5)) (C := R_RRef) (T := F_RRef) (N := 29) hx hb hts i_RRef hown hK hP 0 rfl rfl 9 (by decide) (hts _ wf_RRef_31) (fun _ h9 => h9) rfl d_RRef_savepoint_76 ?_
      refine lv_iload hx hb d_RRef_savepoint_79 (lv_at hl 0 rfl) ?_
      obtain ⟨b12, hm⟩ := on hm
      refine va_lald hx hb hK hP 5 3 rfl rfl b12 d_RRef_savepoint_81 ?_
      obtain ⟨q13, hq13, hm⟩ := ob hm
      refine inv_mS (As := [.ref (ad 18), .int (v2 + 1), .int 8, .long ((g_RpPosition g).2 (q9).toNatClampNeg)]) (rest := []) (ws' := wl_Ref ca ad (s_Rspoint (s_Rspoint g ((g_Rspoint g).1, upd (g_Rspoint g).2 (v2).toNatClampNeg (vp_nar .byte ((((g_RpGroup g).2 (q9).toNatClampNeg)).toInt8.toInt32)))) q13)) X (c_RRef_put l D ca (ad 18) _ ((g_Rspoint g).1, upd (g_Rspoint g).2 (v2).toNatClampNeg (vp_nar .byte ((((g_RpGroup g).2 (q9).toNatClampNeg)).toInt8.toInt32))) (v2 + 1) 8 ((g_RpPosition g).2 (q9).toNatClampNeg) q13 hq13) g_RRef_102 yo_RRef_put ⟨Nat.le_of_ble_eq_true rfl, Nat.le_of_ble_eq_true rfl⟩ hl hP hD [18] rfl rfl rfl rfl hS hA rfl rfl (Nat.le_of_ble_eq_true rfl) ⟨Nat.zero_le _, Nat.zero_le _⟩ d_RRef_savepoint_82 (fun H locs hP hD hS => ?_)
      refine lv_aload_n hx hb d_RRef_savepoint_85 rfl (lv_at hl 1 rfl) ?_
      refine va_get (D := D) (ci := 6) (v := .ref (ad 18)) (C := R_RRef) (T := F_RRef) (N := 29) hx hb hts i_RRef hown hK hP 0 rfl rfl 27 (by decide) (hts _ wf_RRef_72) (fun _ h9 => h9) rfl d_RRef_savepoint_86 ?_
      refine lv_iload_n hx hb d_RRef_savepoint_89 rfl (lv_at hl 3 rfl) ?_
      refine lv_bipush (v := 9) hx hb d_RRef_savepoint_90 (by decide) ?_
      refine lv_iadd hx hb d_RRef_savepoint_92 ?_
      refine lv_iconst (v := 2) hx hb d_RRef_savepoint_93 (by decide) ?_
      refine lv_aload_n hx hb d_RRef_savepoint_94 rfl (lv_at hl 1 rfl) ?_
      refine va_get (D := D) (ci := 6) (v := .ref (ad 6)) (C := R_RRef) (T := F_RRef) (N := 29) hx hb hts i_RRef hown hK hP 0 rfl rfl 10 (by decide) (hts _ wf_RRef_35) (fun _ h9 => h9) rfl d_RRef_savepoint_95 ?_
      refine lv_iload hx hb d_RRef_savepoint_98 (lv_at hl 0 rfl) ?_
      obtain ⟨b14, hm⟩ := on hm
      refine va_iald hx hb hK hP 6 2 rfl rfl b14 d_RRef_savepoint_100 ?_
      refine lv_i2l (v := ((((g_RpLength g).2 (q9).toNatClampNeg)).toInt64)) hx hb d_RRef_savepoint_101 rfl ?_
      obtain ⟨q15, hq15, hm⟩ := ob hm
      refine inv_mS (As := [.ref (ad 18), .int (v2 + 9), .int 2, .long ((((g_RpLength g).2 (q9).toNatClampNeg)).toInt64)]) (rest := []) (ws' := wl_Ref ca ad (s_Rspoint (s_Rspoint (s_Rspoint g ((g_Rspoint g).1, upd (g_Rspoint g).2 (v2).toNatClampNeg (vp_nar .byte ((((g_RpGroup g).2 (q9).toNatClampNeg)).toInt8.toInt32)))) q13) q15)) X (c_RRef_put l D ca (ad 18) _ q13 (v2 + 9) 2 ((((g_RpLength g).2 (q9).toNatClampNeg)).toInt64) q15 hq15) g_RRef_102 yo_RRef_put ⟨Nat.le_of_ble_eq_true rfl, Nat.le_of_ble_eq_true rfl⟩ hl hP hD [18] rfl rfl rfl rfl hS hA rfl rfl (Nat.le_of_ble_eq_true rfl) ⟨Nat.zero_le _, Nat.zero_le _⟩ d_RRef_savepoint_102 (fun H locs hP hD hS => ?_)
      refine lv_iinc (v := (v2 + 11)) (lv' := [(2, .int (v2 + 11)), (4, .int q9), (0, .ref (ad 0)), (1, .int v1), (3, .int v3)]) hx hb d_RRef_savepoint_105 hl (k := 3) rfl rfl (by decide) rfl (fun ls hl => ?_)
      refine lv_iconst (v := 0) hx hb d_RRef_savepoint_108 (by decide) ?_
      refine lv_istore (lv' := [(5, .int 0), (2, .int (v2 + 11)), (4, .int q9), (0, .ref (ad 0)), (1, .int v1), (3, .int v3)]) hx hb d_RRef_savepoint_109 hl (by decide) rfl (fun ls hl => ?_)
      refine k_m_RRef_savepoint_L111 X hA (k := (fun (g20 : St_Ref) (v1_21 : Int32) (v2_22 : Int32) (v3_23 : Int32) => m_RRef_savepoint_L25 n g20 v1_21 v2_22 (v3_23 + 1))) (fun g20 v1_21 v2_22 v3_23 res hm H locs hP hD hS ls hl => ?_) FU (s_Rspoint (s_Rspoint (s_Rspoint g ((g_Rspoint g).1, upd (g_Rspoint g).2 (v2).toNatClampNeg (vp_nar .byte ((((g_RpGroup g).2 (q9).toNatClampNeg)).toInt8.toInt32)))) q13) q15) v1 (v2 + 11) v3 q9 0 _ hm _ _ hP hD hS ls (lv_sub hl [3, 4, 1, 5, 2, 0] rfl)
      · have hm := hm
        refine lv_iinc (v := (v3_23 + 1)) (lv' := [(3, .int (v3_23 + 1)), (0, .ref (ad 0)), (1, .int v1_21), (2, .int v2_22)]) hx hb d_RRef_savepoint_147 hl (k := 3) rfl rfl (by decide) rfl (fun ls hl => ?_)
        refine lv_goto (tgt := 25) hx hb d_RRef_savepoint_150 (by decide) ?_
        exact ih g20 v1_21 v2_22 (v3_23 + 1) _ hm _ _ hP hD hS ls (lv_sub hl [1, 2, 3, 0] rfl)
set_option maxHeartbeats 4000000 in
set_option maxRecDepth 100000 in
theorem c_RRef_savepoint (l : Launch) (D : va_G) (ca : Nat → ClassId) (ad : Nat → Nat) (sz : Nat) (g : St_Ref) (p1 : Int32) (res : Int32 × St_Ref) (hm : m_RRef_savepoint g p1 = some res) : Met l y_RRef_savepoint (cws y_RRef_savepoint b_RRef_savepoint 6 (some .int)) (RM 1 27) (PreW D ca (wl_Ref ca ad g) [.ref (ad 0), .int p1] sz) (QRm D (some (.int res.1)) (wl_Ref ca ad res.2) (va_A (wl_Ref ca ad g) sz)) 0 0 (va_A (wl_Ref ca ad g) sz) := by
  refine met_ofM (own := R_RRef) (by decide) rfl (Nat.le_of_ble_eq_true rfl) ?_
  intro p e s m below meth c A X hA hP hD ls hl
  obtain ⟨hx, hb, hml, hr, hown, hts, hK, hlocks⟩ := id X
  have hS : va_S A s.heap s.heap [] := va_S.rf
  have hl : lv_has ls 6 [(0, .ref (ad 0)), (1, .int p1)] := hl
  unfold m_RRef_savepoint at hm
  refine lv_aload_n hx hb d_RRef_savepoint_0 rfl (lv_at hl 0 rfl) ?_
  refine va_get (D := D) (ci := 6) (v := .ref (ad 18)) (C := R_RRef) (T := F_RRef) (N := 29) hx hb hts i_RRef hown hK hP 0 rfl rfl 27 (by decide) (hts _ wf_RRef_72) (fun _ h9 => h9) rfl d_RRef_savepoint_1 ?_
  refine lv_iconst (v := 0) hx hb d_RRef_savepoint_4 (by decide) ?_
  refine lv_bipush (v := 77) hx hb d_RRef_savepoint_5 (by decide) ?_
  obtain ⟨b1, hm⟩ := on hm
  refine va_bast hx hb hK hP hD hS 18 0 rfl rfl b1 d_RRef_savepoint_7 (fun H locs hP hD hS => ?_)
  replace hP : va_P D classes (wl_Ref ca ad (s_Rspoint g ((g_Rspoint g).1, upd (g_Rspoint g).2 (0 : Int32).toNatClampNeg (vp_nar .byte 77)))) H := hP
  replace hD : va_D A (wl_Ref ca ad (s_Rspoint g ((g_Rspoint g).1, upd (g_Rspoint g).2 (0 : Int32).toNatClampNeg (vp_nar .byte 77)))) := hD
  refine lv_aload_n hx hb d_RRef_savepoint_8 rfl (lv_at hl 0 rfl) ?_
  refine va_get (D := D) (ci := 6) (v := .ref (ad 18)) (C := R_RRef) (T := F_RRef) (N := 29) hx hb hts i_RRef hown hK hP 0 rfl rfl 27 (by decide) (hts _ wf_RRef_72) (fun _ h9 => h9) rfl d_RRef_savepoint_9 ?_
  refine lv_iconst (v := 1) hx hb d_RRef_savepoint_12 (by decide) ?_
  refine lv_aload_n hx hb d_RRef_savepoint_13 rfl (lv_at hl 0 rfl) ?_
  refine va_get (D := D) (ci := 6) (v := .ref (ad 10)) (C := R_RRef) (T := F_RRef) (N := 29) hx hb hts i_RRef hown hK hP 0 rfl rfl 15 (by decide) (hts _ wf_RRef_47) (fun _ h9 => h9) rfl d_RRef_savepoint_14 ?_
  refine lv_iload_n hx hb d_RRef_savepoint_17 rfl (lv_at hl 1 rfl) ?_
  obtain ⟨b2, hm⟩ := on hm
  refine va_iald hx hb hK hP 10 2 rfl rfl b2 d_RRef_savepoint_18 ?_
  refine lv_i2b (v := ((((g_RmCount g).2 (p1).toNatClampNeg)).toInt8.toInt32)) hx hb d_RRef_savepoint_19 rfl ?_
  obtain ⟨b3, hm⟩ := on hm
  refine va_bast hx hb hK hP hD hS 18 0 rfl rfl b3 d_RRef_savepoint_20 (fun H locs hP hD hS => ?_)
  replace hP : va_P D classes (wl_Ref ca ad (s_Rspoint (s_Rspoint g ((g_Rspoint g).1, upd (g_Rspoint g).2 (0 : Int32).toNatClampNeg (vp_nar .byte 77))) (((g_Rspoint g).1, upd (g_Rspoint g).2 (0 : Int32).toNatClampNeg (vp_nar .byte 77)).1, upd ((g_Rspoint g).1, upd (g_Rspoint g).2 (0 : Int32).toNatClampNeg (vp_nar .byte 77)).2 (1 : Int32).toNatClampNeg (vp_nar .byte ((((g_RmCount g).2 (p1).toNatClampNeg)).toInt8.toInt32))))) H := hP
  replace hD : va_D A (wl_Ref ca ad (s_Rspoint (s_Rspoint g ((g_Rspoint g).1, upd (g_Rspoint g).2 (0 : Int32).toNatClampNeg (vp_nar .byte 77))) (((g_Rspoint g).1, upd (g_Rspoint g).2 (0 : Int32).toNatClampNeg (vp_nar .byte 77)).1, upd ((g_Rspoint g).1, upd (g_Rspoint g).2 (0 : Int32).toNatClampNeg (vp_nar .byte 77)).2 (1 : Int32).toNatClampNeg (vp_nar .byte ((((g_RmCount g).2 (p1).toNatClampNeg)).toInt8.toInt32))))) := hD
  refine lv_iconst (v := 2) hx hb d_RRef_savepoint_21 (by decide) ?_
  refine lv_istore_n (lv' := [(2, .int 2), (0, .ref (ad 0)), (1, .int p1)]) hx hb d_RRef_savepoint_22 rfl hl (by decide) rfl (fun ls hl => ?_)
  refine lv_iconst (v := 0) hx hb d_RRef_savepoint_23 (by decide) ?_
  refine lv_istore_n (lv' := [(3, .int 0), (2, .int 2), (0, .ref (ad 0)), (1, .int p1)]) hx hb d_RRef_savepoint_24 rfl hl (by decide) rfl (fun ls hl => ?_)
  exact k_m_RRef_savepoint_L25 X hA FU (s_Rspoint (s_Rspoint g ((g_Rspoint g).1, upd (g_Rspoint g).2 (0 : Int32).toNatClampNeg (vp_nar .byte 77))) (((g_Rspoint g).1, upd (g_Rspoint g).2 (0 : Int32).toNatClampNeg (vp_nar .byte 77)).1, upd ((g_Rspoint g).1, upd (g_Rspoint g).2 (0 : Int32).toNatClampNeg (vp_nar .byte 77)).2 (1 : Int32).toNatClampNeg (vp_nar .byte ((((g_RmCount g).2 (p1).toNatClampNeg)).toInt8.toInt32)))) p1 2 0 _ hm _ _ hP hD hS ls (lv_sub hl [2, 3, 1, 0] rfl)
set_option maxHeartbeats 4000000 in
set_option maxRecDepth 100000 in
theorem c_RRef_out (l : Launch) (D : va_G) (ca : Nat → ClassId) (ad : Nat → Nat) (sz : Nat) (g : St_Ref) (p1 : Int32) (p2 : Int32) (res : Int32 × St_Ref) (hm : m_RRef_out g p1 p2 = some res) : Met l y_RRef_out (cws y_RRef_out b_RRef_out 5 (some .int)) (RM 4 95) (PreW D ca (wl_Ref ca ad g) [.ref (ad 0), .int p1, .int p2] sz) (QRm D (some (.int res.1)) (wl_Ref ca ad res.2) (va_A (wl_Ref ca ad g) sz)) 0 0 (va_A (wl_Ref ca ad g) sz) := by
  refine met_ofM (own := R_RRef) (by decide) rfl (Nat.le_of_ble_eq_true rfl) ?_
  intro p e s m below meth c A X hA hP hD ls hl
  obtain ⟨hx, hb, hml, hr, hown, hts, hK, hlocks⟩ := id X
  have hS : va_S A s.heap s.heap [] := va_S.rf
  have hl : lv_has ls 5 [(0, .ref (ad 0)), (1, .int p1), (2, .int p2)] := hl
  unfold m_RRef_out at hm
  refine lv_aload_n hx hb d_RRef_out_0 rfl (lv_at hl 0 rfl) ?_
  refine lv_iload_n hx hb d_RRef_out_1 rfl (lv_at hl 1 rfl) ?_
  obtain ⟨q1, hq1, hm⟩ := ob hm
  refine inv_rVa (C := R_RRef) (As := [.int p1]) (rest := []) (v := .int q1) X (c_RRef_findMark l D ca ad _ g p1 q1 hq1) g_RRef_150 yo_RRef_findMark ⟨Nat.le_of_ble_eq_true rfl, Nat.le_of_ble_eq_true rfl⟩ hl hP hD (ci := 6) rfl rfl hS hA rfl rfl (Nat.le_of_ble_eq_true rfl) ⟨Nat.zero_le _, Nat.zero_le _⟩ d_RRef_out_2 (fun H locs hP hS => ?_)
  refine lv_istore_n (lv' := [(3, .int q1), (0, .ref (ad 0)), (1, .int p1), (2, .int p2)]) hx hb d_RRef_out_5 rfl hl (by decide) rfl (fun ls hl => ?_)
  refine lv_aload_n hx hb d_RRef_out_6 rfl (lv_at hl 1 rfl) ?_
  refine va_get (D := D) (ci := 6) (v := .int (g_Ropen g)) (C := R_RRef) (T := F_RRef) (N := 29) hx hb hts i_RRef hown hK hP 0 rfl rfl 2 (by decide) (hts _ wf_RRef_13) (fun _ h9 => h9) rfl d_RRef_out_7 ?_
  refine lv_if_ne (tgt := 16) hx hb d_RRef_out_10 (by decide) (fun c2 => ?_) (fun c2 => ?_)
  · replace hm := ineg c2 hm
    refine lv_iload_n hx hb d_RRef_out_16 rfl (lv_at hl 0 rfl) ?_
    refine lv_iconst (v := (-1)) hx hb d_RRef_out_17 (by decide) ?_
    refine lv_icmp_ne (tgt := 23) hx hb d_RRef_out_18 (by decide) (fun c3 => ?_) (fun c3 => ?_)
    · replace hm := ineg c3 hm
      refine lv_aload_n hx hb d_RRef_out_23 rfl (lv_at hl 1 rfl) ?_
      refine lv_iload_n hx hb d_RRef_out_24 rfl (lv_at hl 0 rfl) ?_
      obtain ⟨q4, hq4, hm⟩ := ob hm
      refine inv_rVa (C := R_RRef) (As := [.int q1]) (rest := []) (v := .int q4) X (c_RRef_isWholeMark l D ca ad _ g q1 q4 hq4) g_RRef_224 yo_RRef_isWholeMark ⟨Nat.le_of_ble_eq_true rfl, Nat.le_of_ble_eq_true rfl⟩ hl hP hD (ci := 6) rfl rfl hS hA rfl rfl (Nat.le_of_ble_eq_true rfl) ⟨Nat.zero_le _, Nat.zero_le _⟩ d_RRef_out_25 (fun H locs hP hS => ?_)
      refine lv_if_ne (tgt := 34) hx hb d_RRef_out_28 (by decide) (fun c5 => ?_) (fun c5 => ?_)
      · replace hm := ineg c5 hm
        refine lv_aload_n hx hb d_RRef_out_34 rfl (lv_at hl 1 rfl) ?_
        refine lv_iload_n hx hb d_RRef_out_35 rfl (lv_at hl 0 rfl) ?_
        obtain ⟨q6, hq6, hm⟩ := ob hm
        refine inv_mVa (C := R_RRef) (As := [.int q1]) (rest := []) (v := .int q6.1) X (c_RRef_savepoint l D ca ad _ g q1 q6 hq6) g_RRef_236 yo_RRef_savepoint ⟨Nat.le_of_ble_eq_true rfl, Nat.le_of_ble_eq_true rfl⟩ hl hP hD rfl (ci := 6) rfl rfl hS hA rfl rfl (Nat.le_of_ble_eq_true rfl) ⟨Nat.zero_le _, Nat.zero_le _⟩ d_RRef_out_36 (fun H locs hP hD hS => ?_)
        refine lv_istore (lv' := [(4, .int q6.1), (3, .int q1), (0, .ref (ad 0)), (1, .int p1), (2, .int p2)]) hx hb d_RRef_out_39 hl (by decide) rfl (fun ls hl => ?_)
        refine lv_iload_n hx hb d_RRef_out_41 rfl (lv_at hl 4 rfl) ?_
        refine lv_iconst (v := (-1)) hx hb d_RRef_out_42 (by decide) ?_
        refine lv_icmp_ne (tgt := 51) hx hb d_RRef_out_43 (by decide) (fun c7 => ?_) (fun c7 => ?_)
        · replace hm := ineg c7 hm
          refine lv_iload_n hx hb d_RRef_out_51 rfl (lv_at hl 4 rfl) ?_
          refine lv_iconst (v := 0) hx hb d_RRef_out_52 (by decide) ?_
          refine lv_iload hx hb d_RRef_out_53 (lv_at hl 0 rfl) ?_
          refine lv_iconst (v := 1) hx hb d_RRef_out_55 (by decide) ?_
          refine lv_isub hx hb d_RRef_out_56 ?_
          obtain ⟨q8, hq8, hm⟩ := ob hm
          refine inv_rS (As := [.int p2, .int 0, .int (q6.1 - 1)]) (rest := []) (v := .int q8) X (c_RRef_isIn l D ca  _ p2 0 (q6.1 - 1) q8 hq8) g_RRef_172 yo_RRef_isIn ⟨Nat.le_of_ble_eq_true rfl, Nat.le_of_ble_eq_true rfl⟩ hl hP hD [] rfl rfl hS hA rfl rfl (Nat.le_of_ble_eq_true rfl) ⟨Nat.zero_le _, Nat.zero_le _⟩ d_RRef_out_57 (fun H locs hP hS => ?_)
          refine lv_if_eq (tgt := 76) hx hb d_RRef_out_60 (by decide) (fun c9 => ?_) (fun c9 => ?_)
          · replace hm := ip c9 hm
            refine lv_iconst (v := (-1)) hx hb d_RRef_out_76 (by decide) ?_
            cases hm
            exact ret_mi X hP hS d_RRef_out_77
          · replace hm := ineg c9 hm
            refine lv_aload_n hx hb d_RRef_out_63 rfl (lv_at hl 2 rfl) ?_
            refine va_get (D := D) (ci := 6) (v := .ref (ad 18)) (C := R_RRef) (T := F_RRef) (N := 29) hx hb hts i_RRef hown hK hP 0 rfl rfl 27 (by decide) (hts _ wf_RRef_72) (fun _ h9 => h9) rfl d_RRef_out_64 ?_
            refine lv_iload_n hx hb d_RRef_out_67 rfl (lv_at hl 4 rfl) ?_
            obtain ⟨b10, hm⟩ := on hm
            refine va_bald hx hb hK hP 18 0 rfl rfl b10 d_RRef_out_68 ?_
            refine lv_sipush (v := 255) hx hb d_RRef_out_69 (by decide) ?_
            refine lv_iand hx hb d_RRef_out_72 ?_
            refine lv_goto (tgt := 77) hx hb d_RRef_out_73 (by decide) ?_
            cases hm
            exact ret_mi X hP hS d_RRef_out_77
        · replace hm := ip c7 hm
          refine lv_iload hx hb d_RRef_out_46 (lv_at hl 0 rfl) ?_
          refine lv_goto (tgt := 77) hx hb d_RRef_out_48 (by decide) ?_
          cases hm
          exact ret_mi X hP hS d_RRef_out_77
      · replace hm := ip c5 hm
        refine lv_bipush (v := (-2)) hx hb d_RRef_out_31 (by decide) ?_
        cases hm
        exact ret_mi X hP hS d_RRef_out_33
    · replace hm := ip c3 hm
      refine lv_iconst (v := (-1)) hx hb d_RRef_out_21 (by decide) ?_
      cases hm
      exact ret_mi X hP hS d_RRef_out_22
  · replace hm := ip c2 hm
    refine lv_bipush (v := (-3)) hx hb d_RRef_out_13 (by decide) ?_
    cases hm
    exact ret_mi X hP hS d_RRef_out_15
set_option maxHeartbeats 4000000 in
set_option maxRecDepth 100000 in
theorem k_m_RRef_isSavepoint_L38 {p : Program} {l : Launch} {e : Env} {s : State} {m : MethodId} {args : Array Value} {below : List Frame} {meth : Method} {c : Code} {D : va_G} {ca : Nat → ClassId} {ad : Nat → Nat} {A : Nat → Prop} (X : Cx p s m args meth c R_RRef b_RRef_isSavepoint 5 (some .boolean) D ca) (hA : ∀ q, s.heap.size ≤ q → A q) {g : St_Ref} : ∀ (n : Nat) (v1 : Int32) (v2 : Int32) (v3 : Int32) (res : Int32), m_RRef_isSavepoint_L38 g n v1 v2 v3 = some res → ∀ (H : Heap) (locs : List Loc), va_P D classes (wl_Ref ca ad g) H → va_D (fun _ => True) (wl_Ref ca ad g) → va_S A s.heap H locs → ∀ ls : Array Slot, lv_has ls 5 [(0, .ref (ad 0)), (1, .int v1), (2, .int v2), (3, .int v3)] → W p l e (RM 1 27) s m args below meth c H locs 0 0 (MQ below (QRr (.int res) A) args s 0 0 A) (F0 m 38 ls []) := by
  obtain ⟨hx, hb, hml, hr, hown, hts, hK, hlocks⟩ := id X
  intro n
  induction n with
  | zero =>
    intro v1 v2 v3 res hm
    rw [m_RRef_isSavepoint_L38] at hm
    cases hm
  | succ n ih =>
    intro v1 v2 v3 res hm H locs hP hD hS ls hl
    rw [m_RRef_isSavepoint_L38] at hm
    refine lv_iload_n hx hb d_RRef_isSavepoint_38 rfl (lv_at hl 3 rfl) ?_
    refine lv_aload_n hx hb d_RRef_isSavepoint_39 rfl (lv_at hl 0 rfl) ?_
    refine va_get (D := D) (ci := 6) (v := .ref (ad 2)) (C := R_RRef) (T := F_RRef) (N := 29) hx hb hts i_RRef hown hK hP 0 rfl rfl 5 (by decide) (hts _ wf_RRef_21) (fun _ h9 => h9) rfl d_RRef_isSavepoint_40 ?_
    refine lv_iconst (v := 1) hx hb d_RRef_isSavepoint_43 (by decide) ?_
    obtain ⟨b7, hm⟩ := on hm
    refine va_bald hx hb hK hP 2 0 rfl rfl b7 d_RRef_isSavepoint_44 ?_
    refine lv_icmp_ge (tgt := 123) hx hb d_RRef_isSavepoint_45 (by decide) (fun c8 => ?_) (fun c8 => ?_)
    · replace hm := ip c8 hm
      refine lv_iload_n hx hb d_RRef_isSavepoint_123 rfl (lv_at hl 2 rfl) ?_
      refine lv_bipush (v := 8) hx hb d_RRef_isSavepoint_124 (by decide) ?_
      refine lv_iadd hx hb d_RRef_isSavepoint_126 ?_
      refine lv_iload_n hx hb d_RRef_isSavepoint_127 rfl (lv_at hl 1 rfl) ?_
      refine lv_icmp_ne (tgt := 158) hx hb d_RRef_isSavepoint_128 (by decide) (fun c9 => ?_) (fun c9 => ?_)
      · replace hm := ineg c9 hm
        refine lv_iconst (v := 0) hx hb d_RRef_isSavepoint_158 (by decide) ?_
        cases hm
        exact ret_rz X nz0 hS d_RRef_isSavepoint_159
      · replace hm := ip c9 hm
        refine lv_aload_n hx hb d_RRef_isSavepoint_131 rfl (lv_at hl 0 rfl) ?_
        refine va_get (D := D) (ci := 6) (v := .ref (ad 2)) (C := R_RRef) (T := F_RRef) (N := 29) hx hb hts i_RRef hown hK hP 0 rfl rfl 5 (by decide) (hts _ wf_RRef_21) (fun _ h9 => h9) rfl d_RRef_isSavepoint_132 ?_
        refine lv_iload_n hx hb d_RRef_isSavepoint_135 rfl (lv_at hl 2 rfl) ?_
        refine lv_bipush (v := 8) hx hb d_RRef_isSavepoint_136 (by decide) ?_
        obtain ⟨q10, hq10, hm⟩ := ob hm
        refine inv_rS (As := [.ref (ad 2), .int v2, .int 8]) (rest := []) (v := .long q10) X (c_RRef_number l D ca (ad 2) _ (g_Rtape g) v2 8 q10 hq10) g_RRef_85 yo_RRef_number ⟨Nat.le_of_ble_eq_true rfl, Nat.le_of_ble_eq_true rfl⟩ hl hP hD [2] rfl rfl hS hA rfl rfl (Nat.le_of_ble_eq_true rfl) ⟨Nat.zero_le _, Nat.zero_le _⟩ d_RRef_isSavepoint_138 (fun H locs hP hS => ?_)
        refine lv_aload_n hx hb d_RRef_isSavepoint_141 rfl (lv_at hl 0 rfl) ?_
        refine va_get (D := D) (ci := 6) (v := .ref (ad 2)) (C := R_RRef) (T := F_RRef) (N := 29) hx hb hts i_RRef hown hK hP 0 rfl rfl 5 (by decide) (hts _ wf_RRef_21) (fun _ h9 => h9) rfl d_RRef_isSavepoint_142 ?_
        refine lv_iconst (v := 0) hx hb d_RRef_isSavepoint_145 (by decide) ?_
        refine lv_iload_n hx hb d_RRef_isSavepoint_146 rfl (lv_at hl 2 rfl) ?_
        obtain ⟨q11, hq11, hm⟩ := ob hm
        refine inv_rS (As := [.ref (ad 2), .int 0, .int v2]) (rest := [.long q10]) (v := .long q11) X (c_RRef_digest l D ca (ad 2) _ (g_Rtape g) 0 v2 q11 hq11) g_RRef_89 yo_RRef_digest ⟨Nat.le_of_ble_eq_true rfl, Nat.le_of_ble_eq_true rfl⟩ hl hP hD [2] rfl rfl hS hA rfl rfl (Nat.le_of_ble_eq_true rfl) ⟨Nat.zero_le _, Nat.zero_le _⟩ d_RRef_isSavepoint_147 (fun H locs hP hS => ?_)
        refine W.lcmp hx hb d_RRef_isSavepoint_150 ?_
        refine lv_if_ne (tgt := 158) hx hb d_RRef_isSavepoint_151 (by decide) (fun c12 => ?_) (fun c12 => ?_)
        · replace hm := ineg c12 hm
          refine lv_iconst (v := 0) hx hb d_RRef_isSavepoint_158 (by decide) ?_
          cases hm
          exact ret_rz X nz0 hS d_RRef_isSavepoint_159
        · replace hm := ip c12 hm
          refine lv_iconst (v := 1) hx hb d_RRef_isSavepoint_154 (by decide) ?_
          refine lv_goto (tgt := 159) hx hb d_RRef_isSavepoint_155 (by decide) ?_
          cases hm
          exact ret_rz X nz1 hS d_RRef_isSavepoint_159
    · replace hm := ineg c8 hm
      refine lv_iload_n hx hb d_RRef_isSavepoint_48 rfl (lv_at hl 2 rfl) ?_
      refine lv_bipush (v := 11) hx hb d_RRef_isSavepoint_49 (by decide) ?_
      refine lv_iadd hx hb d_RRef_isSavepoint_51 ?_
      refine lv_iload_n hx hb d_RRef_isSavepoint_52 rfl (lv_at hl 1 rfl) ?_
      refine lv_icmp_gt (tgt := 71) hx hb d_RRef_isSavepoint_53 (by decide) (fun c13 => ?_) (fun c13 => ?_)
      · replace hm := ip c13 hm
        refine lv_iconst (v := 0) hx hb d_RRef_isSavepoint_71 (by decide) ?_
        cases hm
        exact ret_rz X nz0 hS d_RRef_isSavepoint_72
      · replace hm := ineg c13 hm
        refine lv_aload_n hx hb d_RRef_isSavepoint_56 rfl (lv_at hl 0 rfl) ?_
        refine va_get (D := D) (ci := 6) (v := .ref (ad 2)) (C := R_RRef) (T := F_RRef) (N := 29) hx hb hts i_RRef hown hK hP 0 rfl rfl 5 (by decide) (hts _ wf_RRef_21) (fun _ h9 => h9) rfl d_RRef_isSavepoint_57 ?_
        refine lv_iload_n hx hb d_RRef_isSavepoint_60 rfl (lv_at hl 2 rfl) ?_
        obtain ⟨b14, hm⟩ := on hm
        refine va_bald hx hb hK hP 2 0 rfl rfl b14 d_RRef_isSavepoint_61 ?_
        refine lv_sipush (v := 255) hx hb d_RRef_isSavepoint_62 (by decide) ?_
        refine lv_iand hx hb d_RRef_isSavepoint_65 ?_
        refine lv_bipush (v := 7) hx hb d_RRef_isSavepoint_66 (by decide) ?_
        refine lv_icmp_le (tgt := 73) hx hb d_RRef_isSavepoint_68 (by decide) (fun c15 => ?_) (fun c15 => ?_)
        · replace hm := ip c15 hm
          refine lv_aload_n hx hb d_RRef_isSavepoint_73 rfl (lv_at hl 0 rfl) ?_
          refine va_get (D := D) (ci := 6) (v := .ref (ad 2)) (C := R_RRef) (T := F_RRef) (N := 29) hx hb hts i_RRef hown hK hP 0 rfl rfl 5 (by decide) (hts _ wf_RRef_21) (fun _ h9 => h9) rfl d_RRef_isSavepoint_74 ?_
          refine lv_iload_n hx hb d_RRef_isSavepoint_77 rfl (lv_at hl 2 rfl) ?_
          refine lv_bipush (v := 9) hx hb d_RRef_isSavepoint_78 (by decide) ?_
          refine lv_iadd hx hb d_RRef_isSavepoint_80 ?_
          refine lv_iconst (v := 2) hx hb d_RRef_isSavepoint_81 (by decide) ?_
          obtain ⟨q16, hq16, hm⟩ := ob hm
          refine inv_rS (As := [.ref (ad 2), .int (v2 + 9), .int 2]) (rest := []) (v := .long q16) X (c_RRef_number l D ca (ad 2) _ (g_Rtape g) (v2 + 9) 2 q16 hq16) g_RRef_85 yo_RRef_number ⟨Nat.le_of_ble_eq_true rfl, Nat.le_of_ble_eq_true rfl⟩ hl hP hD [2] rfl rfl hS hA rfl rfl (Nat.le_of_ble_eq_true rfl) ⟨Nat.zero_le _, Nat.zero_le _⟩ d_RRef_isSavepoint_82 (fun H locs hP hS => ?_)
          refine lv_l2i (v := ((q16).toInt32)) hx hb d_RRef_isSavepoint_85 rfl ?_
          refine lv_istore (lv' := [(4, .int ((q16).toInt32)), (0, .ref (ad 0)), (1, .int v1), (2, .int v2), (3, .int v3)]) hx hb d_RRef_isSavepoint_86 hl (by decide) rfl (fun ls hl => ?_)
          refine lv_iload hx hb d_RRef_isSavepoint_88 (lv_at hl 0 rfl) ?_
          refine lv_sipush (v := 155) hx hb d_RRef_isSavepoint_90 (by decide) ?_
          refine lv_icmp_gt (tgt := 107) hx hb d_RRef_isSavepoint_93 (by decide) (fun c17 => ?_) (fun c17 => ?_)
          · replace hm := ip c17 hm
            refine lv_iconst (v := 0) hx hb d_RRef_isSavepoint_107 (by decide) ?_
            cases hm
            exact ret_rz X nz0 hS d_RRef_isSavepoint_108
          · replace hm := ineg c17 hm
            refine lv_iload_n hx hb d_RRef_isSavepoint_96 rfl (lv_at hl 3 rfl) ?_
            refine lv_bipush (v := 11) hx hb d_RRef_isSavepoint_97 (by decide) ?_
            refine lv_iadd hx hb d_RRef_isSavepoint_99 ?_
            refine lv_iload hx hb d_RRef_isSavepoint_100 (lv_at hl 0 rfl) ?_
            refine lv_iadd hx hb d_RRef_isSavepoint_102 ?_
            refine lv_iload_n hx hb d_RRef_isSavepoint_103 rfl (lv_at hl 2 rfl) ?_
            refine lv_icmp_le (tgt := 109) hx hb d_RRef_isSavepoint_104 (by decide) (fun c18 => ?_) (fun c18 => ?_)
            · replace hm := ip c18 hm
              refine lv_iload_n hx hb d_RRef_isSavepoint_109 rfl (lv_at hl 3 rfl) ?_
              refine lv_bipush (v := 11) hx hb d_RRef_isSavepoint_110 (by decide) ?_
              refine lv_iload hx hb d_RRef_isSavepoint_112 (lv_at hl 0 rfl) ?_
              refine lv_iadd hx hb d_RRef_isSavepoint_114 ?_
              refine lv_iadd hx hb d_RRef_isSavepoint_115 ?_
              refine lv_istore_n (lv' := [(2, .int (v2 + (11 + ((q16).toInt32)))), (4, .int ((q16).toInt32)), (0, .ref (ad 0)), (1, .int v1), (3, .int v3)]) hx hb d_RRef_isSavepoint_116 rfl hl (by decide) rfl (fun ls hl => ?_)
              refine lv_iinc (v := (v3 + 1)) (lv' := [(3, .int (v3 + 1)), (2, .int (v2 + (11 + ((q16).toInt32)))), (4, .int ((q16).toInt32)), (0, .ref (ad 0)), (1, .int v1)]) hx hb d_RRef_isSavepoint_117 hl (k := 4) rfl rfl (by decide) rfl (fun ls hl => ?_)
              refine lv_goto (tgt := 38) hx hb d_RRef_isSavepoint_120 (by decide) ?_
              exact ih  v1 (v2 + (11 + ((q16).toInt32))) (v3 + 1) _ hm _ _ hP hD hS ls (lv_sub hl [3, 4, 1, 0] rfl)
            · replace hm := ineg c18 hm
              refine lv_iconst (v := 0) hx hb d_RRef_isSavepoint_107 (by decide) ?_
              cases hm
              exact ret_rz X nz0 hS d_RRef_isSavepoint_108
        · replace hm := ineg c15 hm
          refine lv_iconst (v := 0) hx hb d_RRef_isSavepoint_71 (by decide) ?_
          cases hm
          exact ret_rz X nz0 hS d_RRef_isSavepoint_72
set_option maxHeartbeats 4000000 in
set_option maxRecDepth 100000 in
theorem c_RRef_isSavepoint (l : Launch) (D : va_G) (ca : Nat → ClassId) (ad : Nat → Nat) (sz : Nat) (g : St_Ref) (p1 : Int32) (res : Int32) (hm : m_RRef_isSavepoint g p1 = some res) : Met l y_RRef_isSavepoint (cws y_RRef_isSavepoint b_RRef_isSavepoint 5 (some .boolean)) (RM 1 27) (PreW D ca (wl_Ref ca ad g) [.ref (ad 0), .int p1] sz) (QRr (.int res) (va_A [] sz)) 0 0 (va_A [] sz) := by
  refine met_ofR (own := R_RRef) (by decide) rfl (Nat.le_of_ble_eq_true rfl) ?_
  intro p e s m below meth c A X hA hP hD ls hl
  obtain ⟨hx, hb, hml, hr, hown, hts, hK, hlocks⟩ := id X
  have hS : va_S A s.heap s.heap [] := va_S.rf
  have hl : lv_has ls 5 [(0, .ref (ad 0)), (1, .int p1)] := hl
  unfold m_RRef_isSavepoint at hm
  refine lv_iload_n hx hb d_RRef_isSavepoint_0 rfl (lv_at hl 1 rfl) ?_
  refine lv_bipush (v := 10) hx hb d_RRef_isSavepoint_1 (by decide) ?_
  refine lv_icmp_lt (tgt := 32) hx hb d_RRef_isSavepoint_3 (by decide) (fun c1 => ?_) (fun c1 => ?_)
  · replace hm := ip c1 hm
    refine lv_iconst (v := 0) hx hb d_RRef_isSavepoint_32 (by decide) ?_
    cases hm
    exact ret_rz X nz0 hS d_RRef_isSavepoint_33
  · replace hm := ineg c1 hm
    refine lv_aload_n hx hb d_RRef_isSavepoint_6 rfl (lv_at hl 0 rfl) ?_
    refine va_get (D := D) (ci := 6) (v := .ref (ad 2)) (C := R_RRef) (T := F_RRef) (N := 29) hx hb hts i_RRef hown hK hP 0 rfl rfl 5 (by decide) (hts _ wf_RRef_21) (fun _ h9 => h9) rfl d_RRef_isSavepoint_7 ?_
    refine lv_iconst (v := 0) hx hb d_RRef_isSavepoint_10 (by decide) ?_
    obtain ⟨b2, hm⟩ := on hm
    refine va_bald hx hb hK hP 2 0 rfl rfl b2 d_RRef_isSavepoint_11 ?_
    refine lv_bipush (v := 77) hx hb d_RRef_isSavepoint_12 (by decide) ?_
    refine lv_icmp_ne (tgt := 32) hx hb d_RRef_isSavepoint_14 (by decide) (fun c3 => ?_) (fun c3 => ?_)
    · replace hm := ineg c3 hm
      refine lv_iconst (v := 0) hx hb d_RRef_isSavepoint_32 (by decide) ?_
      cases hm
      exact ret_rz X nz0 hS d_RRef_isSavepoint_33
    · replace hm := ip c3 hm
      refine lv_aload_n hx hb d_RRef_isSavepoint_17 rfl (lv_at hl 0 rfl) ?_
      refine va_get (D := D) (ci := 6) (v := .ref (ad 2)) (C := R_RRef) (T := F_RRef) (N := 29) hx hb hts i_RRef hown hK hP 0 rfl rfl 5 (by decide) (hts _ wf_RRef_21) (fun _ h9 => h9) rfl d_RRef_isSavepoint_18 ?_
      refine lv_iconst (v := 1) hx hb d_RRef_isSavepoint_21 (by decide) ?_
      obtain ⟨b4, hm⟩ := on hm
      refine va_bald hx hb hK hP 2 0 rfl rfl b4 d_RRef_isSavepoint_22 ?_
      refine lv_iconst (v := 1) hx hb d_RRef_isSavepoint_23 (by decide) ?_
      refine lv_bipush (v := 12) hx hb d_RRef_isSavepoint_24 (by decide) ?_
      obtain ⟨q5, hq5, hm⟩ := ob hm
      refine inv_rS (As := [.int ((g_Rtape g).2 (1 : Int32).toNatClampNeg), .int 1, .int 12]) (rest := []) (v := .int q5) X (c_RRef_isIn l D ca  _ ((g_Rtape g).2 (1 : Int32).toNatClampNeg) 1 12 q5 hq5) g_RRef_172 yo_RRef_isIn ⟨Nat.le_of_ble_eq_true rfl, Nat.le_of_ble_eq_true rfl⟩ hl hP hD [] rfl rfl hS hA rfl rfl (Nat.le_of_ble_eq_true rfl) ⟨Nat.zero_le _, Nat.zero_le _⟩ d_RRef_isSavepoint_26 (fun H locs hP hS => ?_)
      refine lv_if_ne (tgt := 34) hx hb d_RRef_isSavepoint_29 (by decide) (fun c6 => ?_) (fun c6 => ?_)
      · replace hm := ineg c6 hm
        refine lv_iconst (v := 2) hx hb d_RRef_isSavepoint_34 (by decide) ?_
        refine lv_istore_n (lv' := [(2, .int 2), (0, .ref (ad 0)), (1, .int p1)]) hx hb d_RRef_isSavepoint_35 rfl hl (by decide) rfl (fun ls hl => ?_)
        refine lv_iconst (v := 0) hx hb d_RRef_isSavepoint_36 (by decide) ?_
        refine lv_istore_n (lv' := [(3, .int 0), (2, .int 2), (0, .ref (ad 0)), (1, .int p1)]) hx hb d_RRef_isSavepoint_37 rfl hl (by decide) rfl (fun ls hl => ?_)
        exact k_m_RRef_isSavepoint_L38 X hA FU  p1 2 0 _ hm _ _ hP hD hS ls (lv_sub hl [2, 3, 1, 0] rfl)
      · replace hm := ip c6 hm
        refine lv_iconst (v := 0) hx hb d_RRef_isSavepoint_32 (by decide) ?_
        cases hm
        exact ret_rz X nz0 hS d_RRef_isSavepoint_33
set_option maxHeartbeats 4000000 in
set_option maxRecDepth 100000 in
theorem k_m_RRef_in__L181 {p : Program} {l : Launch} {e : Env} {s : State} {m : MethodId} {args : Array Value} {below : List Frame} {meth : Method} {c : Code} {D : va_G} {ca : Nat → ClassId} {ad : Nat → Nat} {A : Nat → Prop} (X : Cx p s m args meth c R_RRef b_RRef_in_ 8 (some .int) D ca) (hA : ∀ q, s.heap.size ≤ q → A q)  : ∀ (n : Nat) (g : St_Ref) (v2 : Int32) (v3 : Int32) (v4 : Int32) (res : Int32 × St_Ref), m_RRef_in__L181  n g v2 v3 v4 = some res → ∀ (H : Heap) (locs : List Loc), va_P D classes (wl_Ref ca ad g) H → va_D A (wl_Ref ca ad g) → va_S A s.heap H locs → ∀ ls : Array Slot, lv_has ls 8 [(0, .ref (ad 0)), (2, .int v2), (3, .int v3), (4, .int v4)] → W p l e (RM 3 75) s m args below meth c H locs 0 0 (MQ below (QRm D (some (.int res.1)) (wl_Ref ca ad res.2) A) args s 0 0 A) (F0 m 181 ls []) := by
  obtain ⟨hx, hb, hml, hr, hown, hts, hK, hlocks⟩ := id X
  intro n
  induction n with
  | zero =>
    intro g v2 v3 v4 res hm
    rw [m_RRef_in__L181] at hm
    cases hm
  | succ n ih =>
    intro g v2 v3 v4 res hm H locs hP hD hS ls hl
    rw [m_RRef_in__L181] at hm
    refine lv_iload hx hb d_RRef_in__181 (lv_at hl 3 rfl) ?_
    refine lv_iload_n hx hb d_RRef_in__183 rfl (lv_at hl 1 rfl) ?_
    refine lv_icmp_ge (tgt := 288) hx hb d_RRef_in__184 (by decide) (fun c11 => ?_) (fun c11 => ?_)
    · replace hm := ip c11 hm
      refine lv_aload_n hx hb d_RRef_in__288 rfl (lv_at hl 0 rfl) ?_
      refine lv_iload_n hx hb d_RRef_in__289 rfl (lv_at hl 1 rfl) ?_
      obtain ⟨q12, hq12, hm⟩ := ob hm
      refine inv_mVa (C := R_RRef) (As := [.int v2]) (rest := []) (v := .int q12.1) X (c_RRef_newMark l D ca ad _ g v2 q12 hq12) g_RRef_204 yo_RRef_newMark ⟨Nat.le_of_ble_eq_true rfl, Nat.le_of_ble_eq_true rfl⟩ hl hP hD rfl (ci := 6) rfl rfl hS hA rfl rfl (Nat.le_of_ble_eq_true rfl) ⟨Nat.zero_le _, Nat.zero_le _⟩ d_RRef_in__290 (fun H locs hP hD hS => ?_)
      cases hm
      exact ret_mi X hP hS d_RRef_in__293
    · replace hm := ineg c11 hm
      refine lv_aload_n hx hb d_RRef_in__187 rfl (lv_at hl 0 rfl) ?_
      refine va_get (D := D) (ci := 6) (v := .ref (ad 2)) (C := R_RRef) (T := F_RRef) (N := 29) hx hb hts i_RRef hown hK hP 0 rfl rfl 5 (by decide) (hts _ wf_RRef_21) (fun _ h9 => h9) rfl d_RRef_in__188 ?_
      refine lv_iload_n hx hb d_RRef_in__191 rfl (lv_at hl 2 rfl) ?_
      refine lv_bipush (v := 9) hx hb d_RRef_in__192 (by decide) ?_
      refine lv_iadd hx hb d_RRef_in__194 ?_
      refine lv_iconst (v := 2) hx hb d_RRef_in__195 (by decide) ?_
      obtain ⟨q13, hq13, hm⟩ := ob hm
      refine inv_rS (As := [.ref (ad 2), .int (v3 + 9), .int 2]) (rest := []) (v := .long q13) X (c_RRef_number l D ca (ad 2) _ (g_Rtape g) (v3 + 9) 2 q13 hq13) g_RRef_85 yo_RRef_number ⟨Nat.le_of_ble_eq_true rfl, Nat.le_of_ble_eq_true rfl⟩ hl hP hD [2] rfl rfl hS hA rfl rfl (Nat.le_of_ble_eq_true rfl) ⟨Nat.zero_le _, Nat.zero_le _⟩ d_RRef_in__196 (fun H locs hP hS => ?_)
      refine lv_l2i (v := ((q13).toInt32)) hx hb d_RRef_in__199 rfl ?_
      refine lv_istore (lv' := [(5, .int ((q13).toInt32)), (0, .ref (ad 0)), (2, .int v2), (3, .int v3), (4, .int v4)]) hx hb d_RRef_in__200 hl (by decide) rfl (fun ls hl => ?_)
      refine lv_aload_n hx hb d_RRef_in__202 rfl (lv_at hl 1 rfl) ?_
      refine lv_aload_n hx hb d_RRef_in__203 rfl (lv_at hl 1 rfl) ?_
      refine va_get (D := D) (ci := 6) (v := .ref (ad 2)) (C := R_RRef) (T := F_RRef) (N := 29) hx hb hts i_RRef hown hK hP 0 rfl rfl 5 (by decide) (hts _ wf_RRef_21) (fun _ h9 => h9) rfl d_RRef_in__204 ?_
      refine lv_iload_n hx hb d_RRef_in__207 rfl (lv_at hl 3 rfl) ?_
      obtain ⟨b14, hm⟩ := on hm
      refine va_bald hx hb hK hP 2 0 rfl rfl b14 d_RRef_in__208 ?_
      refine lv_sipush (v := 255) hx hb d_RRef_in__209 (by decide) ?_
      refine lv_iand hx hb d_RRef_in__212 ?_
      refine lv_aload_n hx hb d_RRef_in__213 rfl (lv_at hl 1 rfl) ?_
      refine va_get (D := D) (ci := 6) (v := .ref (ad 2)) (C := R_RRef) (T := F_RRef) (N := 29) hx hb hts i_RRef hown hK hP 0 rfl rfl 5 (by decide) (hts _ wf_RRef_21) (fun _ h9 => h9) rfl d_RRef_in__214 ?_
      refine lv_iload_n hx hb d_RRef_in__217 rfl (lv_at hl 3 rfl) ?_
      refine lv_iconst (v := 1) hx hb d_RRef_in__218 (by decide) ?_
      refine lv_iadd hx hb d_RRef_in__219 ?_
      refine lv_bipush (v := 8) hx hb d_RRef_in__220 (by decide) ?_
      obtain ⟨q15, hq15, hm⟩ := ob hm
      refine inv_rS (As := [.ref (ad 2), .int (v3 + 1), .int 8]) (rest := [.int (((g_Rtape g).2 (v3).toNatClampNeg) &&& 255), .ref (ad 0)]) (v := .long q15) X (c_RRef_number l D ca (ad 2) _ (g_Rtape g) (v3 + 1) 8 q15 hq15) g_RRef_85 yo_RRef_number ⟨Nat.le_of_ble_eq_true rfl, Nat.le_of_ble_eq_true rfl⟩ hl hP hD [2] rfl rfl hS hA rfl rfl (Nat.le_of_ble_eq_true rfl) ⟨Nat.zero_le _, Nat.zero_le _⟩ d_RRef_in__222 (fun H locs hP hS => ?_)
      refine lv_aload_n hx hb d_RRef_in__225 rfl (lv_at hl 1 rfl) ?_
      refine va_get (D := D) (ci := 6) (v := .ref (ad 2)) (C := R_RRef) (T := F_RRef) (N := 29) hx hb hts i_RRef hown hK hP 0 rfl rfl 5 (by decide) (hts _ wf_RRef_21) (fun _ h9 => h9) rfl d_RRef_in__226 ?_
      refine lv_iload_n hx hb d_RRef_in__229 rfl (lv_at hl 3 rfl) ?_
      refine lv_bipush (v := 11) hx hb d_RRef_in__230 (by decide) ?_
      refine lv_iadd hx hb d_RRef_in__232 ?_
      refine lv_iload hx hb d_RRef_in__233 (lv_at hl 0 rfl) ?_
      refine lv_aload_n hx hb d_RRef_in__235 rfl (lv_at hl 1 rfl) ?_
      refine va_get (D := D) (ci := 6) (v := .ref (ad 19)) (C := R_RRef) (T := F_RRef) (N := 29) hx hb hts i_RRef hown hK hP 0 rfl rfl 28 (by decide) (hts _ wf_RRef_75) (fun _ h9 => h9) rfl d_RRef_in__236 ?_
      refine lv_iload hx hb d_RRef_in__239 (lv_at hl 4 rfl) ?_
      obtain ⟨b16, hm⟩ := on hm
      refine va_iald hx hb hK hP 19 2 rfl rfl b16 d_RRef_in__241 ?_
      obtain ⟨q17, hq17, hm⟩ := ob hm
      refine inv_mVa (C := R_RRef) (As := [.int (((g_Rtape g).2 (v3).toNatClampNeg) &&& 255), .long q15, .ref (ad 2), .int (v3 + 11), .int ((q13).toInt32), .int ((g_Rplaces g).2 (v4).toNatClampNeg)]) (rest := []) (v := .int q17.1) X (c_RRef_writePart_tape l D ca ad _ g (((g_Rtape g).2 (v3).toNatClampNeg) &&& 255) q15 (v3 + 11) ((q13).toInt32) ((g_Rplaces g).2 (v4).toNatClampNeg) q17 hq17) g_RRef_192 yo_RRef_writePart ⟨Nat.le_of_ble_eq_true rfl, Nat.le_of_ble_eq_true rfl⟩ hl hP hD rfl (ci := 6) rfl rfl hS hA rfl rfl (Nat.le_of_ble_eq_true rfl) ⟨Nat.zero_le _, Nat.zero_le _⟩ d_RRef_in__242 (fun H locs hP hD hS => ?_)
      refine lv_istore (lv' := [(6, .int q17.1), (5, .int ((q13).toInt32)), (0, .ref (ad 0)), (2, .int v2), (3, .int v3), (4, .int v4)]) hx hb d_RRef_in__245 hl (by decide) rfl (fun ls hl => ?_)
      refine lv_iload hx hb d_RRef_in__247 (lv_at hl 0 rfl) ?_
      refine lv_bipush (v := (-5)) hx hb d_RRef_in__249 (by decide) ?_
      refine lv_icmp_ne (tgt := 257) hx hb d_RRef_in__251 (by decide) (fun c18 => ?_) (fun c18 => ?_)
      · replace hm := ineg c18 hm
        refine lv_aload_n hx hb d_RRef_in__257 rfl (lv_at hl 2 rfl) ?_
        refine va_get (D := D) (ci := 6) (v := .ref (ad 12)) (C := R_RRef) (T := F_RRef) (N := 29) hx hb hts i_RRef hown hK hP 0 rfl rfl 17 (by decide) (hts _ wf_RRef_53) (fun _ h9 => h9) rfl d_RRef_in__258 ?_
        refine lv_bipush (v := 12) hx hb d_RRef_in__261 (by decide) ?_
        refine lv_aload_n hx hb d_RRef_in__263 rfl (lv_at hl 2 rfl) ?_
        refine va_get (D := D) (ci := 6) (v := .int (g_Rmarks q17.2)) (C := R_RRef) (T := F_RRef) (N := 29) hx hb hts i_RRef hown hK hP 0 rfl rfl 20 (by decide) (hts _ wf_RRef_109) (fun _ h9 => h9) rfl d_RRef_in__264 ?_
        refine lv_imul hx hb d_RRef_in__267 ?_
        refine lv_iload hx hb d_RRef_in__268 (lv_at hl 5 rfl) ?_
        refine lv_iadd hx hb d_RRef_in__270 ?_
        refine lv_iload hx hb d_RRef_in__271 (lv_at hl 0 rfl) ?_
        obtain ⟨b19, hm⟩ := on hm
        refine va_iast hx hb hK hP hD hS 12 2 rfl rfl b19 d_RRef_in__273 (fun H locs hP hD hS => ?_)
        replace hP : va_P D classes (wl_Ref ca ad (s_RmPart q17.2 ((g_RmPart q17.2).1, upd (g_RmPart q17.2).2 (((12 * (g_Rmarks q17.2)) + v4)).toNatClampNeg q17.1))) H := hP
        replace hD : va_D A (wl_Ref ca ad (s_RmPart q17.2 ((g_RmPart q17.2).1, upd (g_RmPart q17.2).2 (((12 * (g_Rmarks q17.2)) + v4)).toNatClampNeg q17.1))) := hD
        refine lv_iload_n hx hb d_RRef_in__274 rfl (lv_at hl 4 rfl) ?_
        refine lv_bipush (v := 11) hx hb d_RRef_in__275 (by decide) ?_
        refine lv_iload hx hb d_RRef_in__277 (lv_at hl 1 rfl) ?_
        refine lv_iadd hx hb d_RRef_in__279 ?_
        refine lv_iadd hx hb d_RRef_in__280 ?_
        refine lv_istore_n (lv' := [(3, .int (v3 + (11 + ((q13).toInt32)))), (6, .int q17.1), (5, .int ((q13).toInt32)), (0, .ref (ad 0)), (2, .int v2), (4, .int v4)]) hx hb d_RRef_in__281 rfl hl (by decide) rfl (fun ls hl => ?_)
        refine lv_iinc (v := (v4 + 1)) (lv' := [(4, .int (v4 + 1)), (3, .int (v3 + (11 + ((q13).toInt32)))), (6, .int q17.1), (5, .int ((q13).toInt32)), (0, .ref (ad 0)), (2, .int v2)]) hx hb d_RRef_in__282 hl (k := 5) rfl rfl (by decide) rfl (fun ls hl => ?_)
        refine lv_goto (tgt := 181) hx hb d_RRef_in__285 (by decide) ?_
        exact ih (s_RmPart q17.2 ((g_RmPart q17.2).1, upd (g_RmPart q17.2).2 (((12 * (g_Rmarks q17.2)) + v4)).toNatClampNeg q17.1)) v2 (v3 + (11 + ((q13).toInt32))) (v4 + 1) _ hm _ _ hP hD hS ls (lv_sub hl [4, 5, 1, 0] rfl)
      · replace hm := ip c18 hm
        refine lv_bipush (v := (-5)) hx hb d_RRef_in__254 (by decide) ?_
        cases hm
        exact ret_mi X hP hS d_RRef_in__256
set_option maxHeartbeats 4000000 in
set_option maxRecDepth 100000 in
theorem k_m_RRef_in__L135 {p : Program} {l : Launch} {e : Env} {s : State} {m : MethodId} {args : Array Value} {below : List Frame} {meth : Method} {c : Code} {D : va_G} {ca : Nat → ClassId} {ad : Nat → Nat} {A : Nat → Prop} (X : Cx p s m args meth c R_RRef b_RRef_in_ 8 (some .int) D ca) (hA : ∀ q, s.heap.size ≤ q → A q)  {k : St_Ref → Int32 → Int32 → Int32 → Int32 → Option (Int32 × St_Ref)} (hk : ∀ (g9 : St_Ref) (w2 : Int32) (w3 : Int32) (w4 : Int32) (w5 : Int32) (res : Int32 × St_Ref), k g9 w2 w3 w4 w5 = some res → ∀ (H : Heap) (locs : List Loc), va_P D classes (wl_Ref ca ad g9) H → va_D A (wl_Ref ca ad g9) → va_S A s.heap H locs → ∀ ls : Array Slot, lv_has ls 8 [(0, .ref (ad 0)), (2, .int w2), (3, .int w3), (4, .int w4), (5, .int w5)] → W p l e (RM 3 75) s m args below meth c H locs 0 0 (MQ below (QRm D (some (.int res.1)) (wl_Ref ca ad res.2) A) args s 0 0 A) (F0 m 162 ls [])) : ∀ (n : Nat) (g : St_Ref) (v2 : Int32) (v3 : Int32) (v4 : Int32) (v5 : Int32) (v6 : Int32) (v7 : Int32) (res : Int32 × St_Ref), m_RRef_in__L135  k n g v2 v3 v4 v5 v6 v7 = some res → ∀ (H : Heap) (locs : List Loc), va_P D classes (wl_Ref ca ad g) H → va_D A (wl_Ref ca ad g) → va_S A s.heap H locs → ∀ ls : Array Slot, lv_has ls 8 [(0, .ref (ad 0)), (2, .int v2), (3, .int v3), (4, .int v4), (5, .int v5), (6, .int v6), (7, .int v7)] → W p l e (RM 3 75) s m args below meth c H locs 0 0 (MQ below (QRm D (some (.int res.1)) (wl_Ref ca ad res.2) A) args s 0 0 A) (F0 m 135 ls []) := by
  obtain ⟨hx, hb, hml, hr, hown, hts, hK, hlocks⟩ := id X
  intro n
  induction n with
  | zero =>
    intro g v2 v3 v4 v5 v6 v7 res hm
    rw [m_RRef_in__L135] at hm
    cases hm
  | succ n ih =>
    intro g v2 v3 v4 v5 v6 v7 res hm H locs hP hD hS ls hl
    rw [m_RRef_in__L135] at hm
    refine lv_iload hx hb d_RRef_in__135 (lv_at hl 6 rfl) ?_
    refine lv_iload hx hb d_RRef_in__137 (lv_at hl 4 rfl) ?_
    obtain ⟨q25, hq25, hm⟩ := ob hm
    refine inv_rS (As := [.int v5]) (rest := [.int v7]) (v := .int q25) X (c_RRef_bodies l D ca  _ v5 q25 hq25) g_RRef_112 yo_RRef_bodies ⟨Nat.le_of_ble_eq_true rfl, Nat.le_of_ble_eq_true rfl⟩ hl hP hD [] rfl rfl hS hA rfl rfl (Nat.le_of_ble_eq_true rfl) ⟨Nat.zero_le _, Nat.zero_le _⟩ d_RRef_in__139 (fun H locs hP hS => ?_)
    refine lv_icmp_gt (tgt := 162) hx hb d_RRef_in__142 (by decide) (fun c26 => ?_) (fun c26 => ?_)
    · replace hm := ip c26 hm
      exact hk g v2 v3 v4 v5 _ hm _ _ hP hD hS ls (lv_sub hl [0, 1, 2, 3, 4] rfl)
    · replace hm := ineg c26 hm
      refine lv_aload_n hx hb d_RRef_in__145 rfl (lv_at hl 0 rfl) ?_
      refine va_get (D := D) (ci := 6) (v := .ref (ad 16)) (C := R_RRef) (T := F_RRef) (N := 29) hx hb hts i_RRef hown hK hP 0 rfl rfl 25 (by decide) (hts _ wf_RRef_65) (fun _ h9 => h9) rfl d_RRef_in__146 ?_
      refine lv_iload hx hb d_RRef_in__149 (lv_at hl 5 rfl) ?_
      refine lv_iload hx hb d_RRef_in__151 (lv_at hl 6 rfl) ?_
      refine lv_iadd hx hb d_RRef_in__153 ?_
      refine lv_iconst (v := 1) hx hb d_RRef_in__154 (by decide) ?_
      obtain ⟨b27, hm⟩ := on hm
      refine va_zast hx hb hK hP hD hS 16 1 rfl rfl b27 d_RRef_in__155 (fun H locs hP hD hS => ?_)
      replace hP : va_P D classes (wl_Ref ca ad (s_Rused g ((g_Rused g).1, upd (g_Rused g).2 ((v6 + v7)).toNatClampNeg (vp_nar .boolean 1)))) H := hP
      replace hD : va_D A (wl_Ref ca ad (s_Rused g ((g_Rused g).1, upd (g_Rused g).2 ((v6 + v7)).toNatClampNeg (vp_nar .boolean 1)))) := hD
      refine lv_iinc (v := (v7 + 1)) (lv' := [(7, .int (v7 + 1)), (0, .ref (ad 0)), (2, .int v2), (3, .int v3), (4, .int v4), (5, .int v5), (6, .int v6)]) hx hb d_RRef_in__156 hl (k := 6) rfl rfl (by decide) rfl (fun ls hl => ?_)
      refine lv_goto (tgt := 135) hx hb d_RRef_in__159 (by decide) ?_
      exact ih (s_Rused g ((g_Rused g).1, upd (g_Rused g).2 ((v6 + v7)).toNatClampNeg (vp_nar .boolean 1))) v2 v3 v4 v5 v6 (v7 + 1) _ hm _ _ hP hD hS ls (lv_sub hl [1, 2, 3, 4, 5, 6, 0] rfl)
set_option maxHeartbeats 4000000 in
set_option maxRecDepth 100000 in
theorem k_m_RRef_in__L80 {p : Program} {l : Launch} {e : Env} {s : State} {m : MethodId} {args : Array Value} {below : List Frame} {meth : Method} {c : Code} {D : va_G} {ca : Nat → ClassId} {ad : Nat → Nat} {A : Nat → Prop} (X : Cx p s m args meth c R_RRef b_RRef_in_ 8 (some .int) D ca) (hA : ∀ q, s.heap.size ≤ q → A q)  : ∀ (n : Nat) (g : St_Ref) (v2 : Int32) (v3 : Int32) (v4 : Int32) (res : Int32 × St_Ref), m_RRef_in__L80  n g v2 v3 v4 = some res → ∀ (H : Heap) (locs : List Loc), va_P D classes (wl_Ref ca ad g) H → va_D A (wl_Ref ca ad g) → va_S A s.heap H locs → ∀ ls : Array Slot, lv_has ls 8 [(0, .ref (ad 0)), (2, .int v2), (3, .int v3), (4, .int v4)] → W p l e (RM 3 75) s m args below meth c H locs 0 0 (MQ below (QRm D (some (.int res.1)) (wl_Ref ca ad res.2) A) args s 0 0 A) (F0 m 80 ls []) := by
  obtain ⟨hx, hb, hml, hr, hown, hts, hK, hlocks⟩ := id X
  intro n
  induction n with
  | zero =>
    intro g v2 v3 v4 res hm
    rw [m_RRef_in__L80] at hm
    cases hm
  | succ n ih =>
    intro g v2 v3 v4 res hm H locs hP hD hS ls hl
    rw [m_RRef_in__L80] at hm
    refine lv_iload hx hb d_RRef_in__80 (lv_at hl 3 rfl) ?_
    refine lv_iload_n hx hb d_RRef_in__82 rfl (lv_at hl 1 rfl) ?_
    refine lv_icmp_ge (tgt := 176) hx hb d_RRef_in__83 (by decide) (fun c10 => ?_) (fun c10 => ?_)
    · replace hm := ip c10 hm
      refine lv_iconst (v := 2) hx hb d_RRef_in__176 (by decide) ?_
      refine lv_istore_n (lv' := [(3, .int 2), (0, .ref (ad 0)), (2, .int v2), (4, .int v4)]) hx hb d_RRef_in__177 rfl hl (by decide) rfl (fun ls hl => ?_)
      refine lv_iconst (v := 0) hx hb d_RRef_in__178 (by decide) ?_
      refine lv_istore (lv' := [(4, .int 0), (3, .int 2), (0, .ref (ad 0)), (2, .int v2)]) hx hb d_RRef_in__179 hl (by decide) rfl (fun ls hl => ?_)
      exact k_m_RRef_in__L181 X hA FU g v2 2 0 _ hm _ _ hP hD hS ls (lv_sub hl [2, 3, 1, 0] rfl)
    · replace hm := ineg c10 hm
      refine lv_aload_n hx hb d_RRef_in__86 rfl (lv_at hl 0 rfl) ?_
      refine va_get (D := D) (ci := 6) (v := .ref (ad 2)) (C := R_RRef) (T := F_RRef) (N := 29) hx hb hts i_RRef hown hK hP 0 rfl rfl 5 (by decide) (hts _ wf_RRef_21) (fun _ h9 => h9) rfl d_RRef_in__87 ?_
      refine lv_iload_n hx hb d_RRef_in__90 rfl (lv_at hl 2 rfl) ?_
      refine lv_bipush (v := 9) hx hb d_RRef_in__91 (by decide) ?_
      refine lv_iadd hx hb d_RRef_in__93 ?_
      refine lv_iconst (v := 2) hx hb d_RRef_in__94 (by decide) ?_
      obtain ⟨q20, hq20, hm⟩ := ob hm
      refine inv_rS (As := [.ref (ad 2), .int (v3 + 9), .int 2]) (rest := []) (v := .long q20) X (c_RRef_number l D ca (ad 2) _ (g_Rtape g) (v3 + 9) 2 q20 hq20) g_RRef_85 yo_RRef_number ⟨Nat.le_of_ble_eq_true rfl, Nat.le_of_ble_eq_true rfl⟩ hl hP hD [2] rfl rfl hS hA rfl rfl (Nat.le_of_ble_eq_true rfl) ⟨Nat.zero_le _, Nat.zero_le _⟩ d_RRef_in__95 (fun H locs hP hS => ?_)
      refine lv_l2i (v := ((q20).toInt32)) hx hb d_RRef_in__98 rfl ?_
      refine lv_istore (lv' := [(5, .int ((q20).toInt32)), (0, .ref (ad 0)), (2, .int v2), (3, .int v3), (4, .int v4)]) hx hb d_RRef_in__99 hl (by decide) rfl (fun ls hl => ?_)
      refine lv_aload_n hx hb d_RRef_in__101 rfl (lv_at hl 1 rfl) ?_
      refine lv_iconst (v := 1) hx hb d_RRef_in__102 (by decide) ?_
      refine lv_iload hx hb d_RRef_in__103 (lv_at hl 0 rfl) ?_
      obtain ⟨q21, hq21, hm⟩ := ob hm
      refine inv_rS (As := [.int ((q20).toInt32)]) (rest := [.int 1, .ref (ad 0)]) (v := .int q21) X (c_RRef_bodies l D ca  _ ((q20).toInt32) q21 hq21) g_RRef_112 yo_RRef_bodies ⟨Nat.le_of_ble_eq_true rfl, Nat.le_of_ble_eq_true rfl⟩ hl hP hD [] rfl rfl hS hA rfl rfl (Nat.le_of_ble_eq_true rfl) ⟨Nat.zero_le _, Nat.zero_le _⟩ d_RRef_in__105 (fun H locs hP hS => ?_)
      refine lv_iadd hx hb d_RRef_in__108 ?_
      obtain ⟨q22, hq22, hm⟩ := ob hm
      refine inv_rVa (C := R_RRef) (As := [.int (1 + q21)]) (rest := []) (v := .int q22) X (c_RRef_room l D ca ad _ g (1 + q21) q22 hq22) g_RRef_188 yo_RRef_room ⟨Nat.le_of_ble_eq_true rfl, Nat.le_of_ble_eq_true rfl⟩ hl hP hD (ci := 6) rfl rfl hS hA rfl rfl (Nat.le_of_ble_eq_true rfl) ⟨Nat.zero_le _, Nat.zero_le _⟩ d_RRef_in__109 (fun H locs hP hS => ?_)
      refine lv_istore (lv' := [(6, .int q22), (5, .int ((q20).toInt32)), (0, .ref (ad 0)), (2, .int v2), (3, .int v3), (4, .int v4)]) hx hb d_RRef_in__112 hl (by decide) rfl (fun ls hl => ?_)
      refine lv_iload hx hb d_RRef_in__114 (lv_at hl 0 rfl) ?_
      refine lv_iconst (v := (-1)) hx hb d_RRef_in__116 (by decide) ?_
      refine lv_icmp_ne (tgt := 123) hx hb d_RRef_in__117 (by decide) (fun c23 => ?_) (fun c23 => ?_)
      · replace hm := ineg c23 hm
        refine lv_aload_n hx hb d_RRef_in__123 rfl (lv_at hl 2 rfl) ?_
        refine va_get (D := D) (ci := 6) (v := .ref (ad 19)) (C := R_RRef) (T := F_RRef) (N := 29) hx hb hts i_RRef hown hK hP 0 rfl rfl 28 (by decide) (hts _ wf_RRef_75) (fun _ h9 => h9) rfl d_RRef_in__124 ?_
        refine lv_iload hx hb d_RRef_in__127 (lv_at hl 5 rfl) ?_
        refine lv_iload hx hb d_RRef_in__129 (lv_at hl 0 rfl) ?_
        obtain ⟨b24, hm⟩ := on hm
        refine va_iast hx hb hK hP hD hS 19 2 rfl rfl b24 d_RRef_in__131 (fun H locs hP hD hS => ?_)
        replace hP : va_P D classes (wl_Ref ca ad (s_Rplaces g ((g_Rplaces g).1, upd (g_Rplaces g).2 (v4).toNatClampNeg q22))) H := hP
        replace hD : va_D A (wl_Ref ca ad (s_Rplaces g ((g_Rplaces g).1, upd (g_Rplaces g).2 (v4).toNatClampNeg q22))) := hD
        refine lv_iconst (v := 0) hx hb d_RRef_in__132 (by decide) ?_
        refine lv_istore (lv' := [(7, .int 0), (6, .int q22), (5, .int ((q20).toInt32)), (0, .ref (ad 0)), (2, .int v2), (3, .int v3), (4, .int v4)]) hx hb d_RRef_in__133 hl (by decide) rfl (fun ls hl => ?_)
        refine k_m_RRef_in__L135 X hA (k := (fun (g28 : St_Ref) (v2_29 : Int32) (v3_30 : Int32) (v4_31 : Int32) (v5_32 : Int32) => m_RRef_in__L80 n g28 v2_29 (v3_30 + (11 + v5_32)) (v4_31 + 1))) (fun g28 v2_29 v3_30 v4_31 v5_32 res hm H locs hP hD hS ls hl => ?_) FU (s_Rplaces g ((g_Rplaces g).1, upd (g_Rplaces g).2 (v4).toNatClampNeg q22)) v2 v3 v4 ((q20).toInt32) q22 0 _ hm _ _ hP hD hS ls (lv_sub hl [3, 4, 5, 6, 2, 1, 0] rfl)
        · have hm := hm
          refine lv_iload_n hx hb d_RRef_in__162 rfl (lv_at hl 2 rfl) ?_
          refine lv_bipush (v := 11) hx hb d_RRef_in__163 (by decide) ?_
          refine lv_iload hx hb d_RRef_in__165 (lv_at hl 4 rfl) ?_
          refine lv_iadd hx hb d_RRef_in__167 ?_
          refine lv_iadd hx hb d_RRef_in__168 ?_
          refine lv_istore_n (lv' := [(3, .int (v3_30 + (11 + v5_32))), (0, .ref (ad 0)), (2, .int v2_29), (4, .int v4_31), (5, .int v5_32)]) hx hb d_RRef_in__169 rfl hl (by decide) rfl (fun ls hl => ?_)
          refine lv_iinc (v := (v4_31 + 1)) (lv' := [(4, .int (v4_31 + 1)), (3, .int (v3_30 + (11 + v5_32))), (0, .ref (ad 0)), (2, .int v2_29), (5, .int v5_32)]) hx hb d_RRef_in__170 hl (k := 3) rfl rfl (by decide) rfl (fun ls hl => ?_)
          refine lv_goto (tgt := 80) hx hb d_RRef_in__173 (by decide) ?_
          exact ih g28 v2_29 (v3_30 + (11 + v5_32)) (v4_31 + 1) _ hm _ _ hP hD hS ls (lv_sub hl [2, 3, 1, 0] rfl)
      · replace hm := ip c23 hm
        refine lv_bipush (v := (-4)) hx hb d_RRef_in__120 (by decide) ?_
        cases hm
        exact ret_mi X hP hS d_RRef_in__122
set_option maxHeartbeats 4000000 in
set_option maxRecDepth 100000 in
theorem c_RRef_in_ (l : Launch) (D : va_G) (ca : Nat → ClassId) (ad : Nat → Nat) (sz : Nat) (g : St_Ref)  (res : Int32 × St_Ref) (hm : m_RRef_in_ g = some res) : Met l y_RRef_in_ (cws y_RRef_in_ b_RRef_in_ 8 (some .int)) (RM 3 75) (PreW D ca (wl_Ref ca ad g) [.ref (ad 0)] sz) (QRm D (some (.int res.1)) (wl_Ref ca ad res.2) (va_A (wl_Ref ca ad g) sz)) 0 0 (va_A (wl_Ref ca ad g) sz) := by
  refine met_ofM (own := R_RRef) (by decide) rfl (Nat.le_of_ble_eq_true rfl) ?_
  intro p e s m below meth c A X hA hP hD ls hl
  obtain ⟨hx, hb, hml, hr, hown, hts, hK, hlocks⟩ := id X
  have hS : va_S A s.heap s.heap [] := va_S.rf
  have hl : lv_has ls 8 [(0, .ref (ad 0))] := hl
  unfold m_RRef_in_ at hm
  refine lv_aload_n hx hb d_RRef_in__0 rfl (lv_at hl 0 rfl) ?_
  refine va_get (D := D) (ci := 6) (v := .int (g_Rtaped g)) (C := R_RRef) (T := F_RRef) (N := 29) hx hb hts i_RRef hown hK hP 0 rfl rfl 6 (by decide) (hts _ wf_RRef_176) (fun _ h9 => h9) rfl d_RRef_in__1 ?_
  refine lv_istore_n (lv' := [(1, .int (g_Rtaped g)), (0, .ref (ad 0))]) hx hb d_RRef_in__4 rfl hl (by decide) rfl (fun ls hl => ?_)
  refine lv_aload_n hx hb d_RRef_in__5 rfl (lv_at hl 1 rfl) ?_
  refine lv_iconst (v := 0) hx hb d_RRef_in__6 (by decide) ?_
  refine va_put (D := D) (ci := 6) (v := .int 0) (ty := .int) (C := R_RRef) (T := F_RRef) (N := 29) hx hb hts i_RRef t_RRef t_RRef_ok n_RRef hown hK hP hD hS 0 rfl rfl 6 (by decide) (hts _ wf_RRef_176) (fun _ h9 => h9) rfl (by decide +kernel) rfl rfl (Nat.le_of_ble_eq_true rfl) d_RRef_in__7 (fun H locs hP hD hS => ?_)
  replace hP : va_P D classes (wl_Ref ca ad (s_Rtaped g 0)) H := hP
  replace hD : va_D A (wl_Ref ca ad (s_Rtaped g 0)) := hD
  refine lv_aload_n hx hb d_RRef_in__10 rfl (lv_at hl 1 rfl) ?_
  refine va_get (D := D) (ci := 6) (v := .int (g_Ropen g)) (C := R_RRef) (T := F_RRef) (N := 29) hx hb hts i_RRef hown hK hP 0 rfl rfl 2 (by decide) (hts _ wf_RRef_13) (fun _ h9 => h9) rfl d_RRef_in__11 ?_
  refine lv_if_ne (tgt := 20) hx hb d_RRef_in__14 (by decide) (fun c1 => ?_) (fun c1 => ?_)
  · replace hm := ineg c1 hm
    refine lv_aload_n hx hb d_RRef_in__20 rfl (lv_at hl 1 rfl) ?_
    refine lv_iload_n hx hb d_RRef_in__21 rfl (lv_at hl 0 rfl) ?_
    obtain ⟨q2, hq2, hm⟩ := ob hm
    refine inv_rVa (C := R_RRef) (As := [.int (g_Rtaped g)]) (rest := []) (v := .int q2) X (c_RRef_isSavepoint l D ca ad _ (s_Rtaped g 0) (g_Rtaped g) q2 hq2) g_RRef_239 yo_RRef_isSavepoint ⟨Nat.le_of_ble_eq_true rfl, Nat.le_of_ble_eq_true rfl⟩ hl hP hD (ci := 6) rfl rfl hS hA rfl rfl (Nat.le_of_ble_eq_true rfl) ⟨Nat.zero_le _, Nat.zero_le _⟩ d_RRef_in__22 (fun H locs hP hS => ?_)
    refine lv_if_ne (tgt := 31) hx hb d_RRef_in__25 (by decide) (fun c3 => ?_) (fun c3 => ?_)
    · replace hm := ineg c3 hm
      refine lv_aload_n hx hb d_RRef_in__31 rfl (lv_at hl 1 rfl) ?_
      refine va_get (D := D) (ci := 6) (v := .ref (ad 2)) (C := R_RRef) (T := F_RRef) (N := 29) hx hb hts i_RRef hown hK hP 0 rfl rfl 5 (by decide) (hts _ wf_RRef_21) (fun _ h9 => h9) rfl d_RRef_in__32 ?_
      refine lv_iconst (v := 1) hx hb d_RRef_in__35 (by decide) ?_
      obtain ⟨b4, hm⟩ := on hm
      refine va_bald hx hb hK hP 2 0 rfl rfl b4 d_RRef_in__36 ?_
      refine lv_istore_n (lv' := [(2, .int ((g_Rtape g).2 (1 : Int32).toNatClampNeg)), (1, .int (g_Rtaped g)), (0, .ref (ad 0))]) hx hb d_RRef_in__37 rfl hl (by decide) rfl (fun ls hl => ?_)
      refine lv_aload_n hx hb d_RRef_in__38 rfl (lv_at hl 2 rfl) ?_
      refine lv_iconst (v := 0) hx hb d_RRef_in__39 (by decide) ?_
      obtain ⟨q5, hq5, hm⟩ := ob hm
      refine inv_rVa (C := R_RRef) (As := [.int 0]) (rest := []) (v := .int q5) X (c_RRef_count l D ca ad _ (s_Rtaped g 0) 0 q5 hq5) g_RRef_196 yo_RRef_count ⟨Nat.le_of_ble_eq_true rfl, Nat.le_of_ble_eq_true rfl⟩ hl hP hD (ci := 6) rfl rfl hS hA rfl rfl (Nat.le_of_ble_eq_true rfl) ⟨Nat.zero_le _, Nat.zero_le _⟩ d_RRef_in__40 (fun H locs hP hS => ?_)
      refine lv_bipush (v := 6) hx hb d_RRef_in__43 (by decide) ?_
      refine lv_icmp_eq (tgt := 68) hx hb d_RRef_in__45 (by decide) (fun c6 => ?_) (fun c6 => ?_)
      · replace hm := ip c6 hm
        refine lv_bipush (v := (-4)) hx hb d_RRef_in__68 (by decide) ?_
        cases hm
        exact ret_mi X hP hS d_RRef_in__70
      · replace hm := ineg c6 hm
        refine lv_aload_n hx hb d_RRef_in__48 rfl (lv_at hl 2 rfl) ?_
        refine va_get (D := D) (ci := 6) (v := .int (g_RlastMark g)) (C := R_RRef) (T := F_RRef) (N := 29) hx hb hts i_RRef hown hK hP 0 rfl rfl 24 (by decide) (hts _ wf_RRef_153) (fun _ h9 => h9) rfl d_RRef_in__49 ?_
        refine lv_ldc hx hb hown (hts _ wc_RRef_191) d_RRef_in__52 ?_
        refine lv_icmp_eq (tgt := 68) hx hb d_RRef_in__54 (by decide) (fun c7 => ?_) (fun c7 => ?_)
        · replace hm := ip c7 hm
          refine lv_bipush (v := (-4)) hx hb d_RRef_in__68 (by decide) ?_
          cases hm
          exact ret_mi X hP hS d_RRef_in__70
        · replace hm := ineg c7 hm
          refine lv_aload_n hx hb d_RRef_in__57 rfl (lv_at hl 2 rfl) ?_
          refine va_get (D := D) (ci := 6) (v := .int (g_RlastPart g)) (C := R_RRef) (T := F_RRef) (N := 29) hx hb hts i_RRef hown hK hP 0 rfl rfl 23 (by decide) (hts _ wf_RRef_147) (fun _ h9 => h9) rfl d_RRef_in__58 ?_
          refine lv_iload_n hx hb d_RRef_in__61 rfl (lv_at hl 0 rfl) ?_
          refine lv_iadd hx hb d_RRef_in__62 ?_
          refine lv_ldc hx hb hown (hts _ wc_RRef_191) d_RRef_in__63 ?_
          refine lv_icmp_le (tgt := 71) hx hb d_RRef_in__65 (by decide) (fun c8 => ?_) (fun c8 => ?_)
          · replace hm := ip c8 hm
            refine lv_aload_n hx hb d_RRef_in__71 rfl (lv_at hl 2 rfl) ?_
            obtain ⟨q9, hq9, hm⟩ := ob hm
            refine inv_mUa (C := R_RRef) (As := []) (rest := []) X (c_RRef_marksUsed l D ca ad _ (s_Rtaped g 0) q9 hq9) g_RRef_185 yo_RRef_marksUsed ⟨Nat.le_of_ble_eq_true rfl, Nat.le_of_ble_eq_true rfl⟩ hl hP hD rfl (ci := 6) rfl rfl hS hA rfl rfl (Nat.le_of_ble_eq_true rfl) ⟨Nat.zero_le _, Nat.zero_le _⟩ d_RRef_in__72 (fun H locs hP hD hS => ?_)
            refine lv_iconst (v := 2) hx hb d_RRef_in__75 (by decide) ?_
            refine lv_istore_n (lv' := [(3, .int 2), (2, .int ((g_Rtape g).2 (1 : Int32).toNatClampNeg)), (1, .int (g_Rtaped g)), (0, .ref (ad 0))]) hx hb d_RRef_in__76 rfl hl (by decide) rfl (fun ls hl => ?_)
            refine lv_iconst (v := 0) hx hb d_RRef_in__77 (by decide) ?_
            refine lv_istore (lv' := [(4, .int 0), (3, .int 2), (2, .int ((g_Rtape g).2 (1 : Int32).toNatClampNeg)), (1, .int (g_Rtaped g)), (0, .ref (ad 0))]) hx hb d_RRef_in__78 hl (by decide) rfl (fun ls hl => ?_)
            exact k_m_RRef_in__L80 X hA FU q9 ((g_Rtape g).2 (1 : Int32).toNatClampNeg) 2 0 _ hm _ _ hP hD hS ls (lv_sub hl [4, 2, 1, 0] rfl)
          · replace hm := ineg c8 hm
            refine lv_bipush (v := (-4)) hx hb d_RRef_in__68 (by decide) ?_
            cases hm
            exact ret_mi X hP hS d_RRef_in__70
    · replace hm := ip c3 hm
      refine lv_bipush (v := (-2)) hx hb d_RRef_in__28 (by decide) ?_
      cases hm
      exact ret_mi X hP hS d_RRef_in__30
  · replace hm := ip c1 hm
    refine lv_bipush (v := (-3)) hx hb d_RRef_in__17 (by decide) ?_
    cases hm
    exact ret_mi X hP hS d_RRef_in__19
