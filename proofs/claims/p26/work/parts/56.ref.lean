set_option maxHeartbeats 4000000 in
set_option maxRecDepth 100000 in
theorem k_m_RRef_open__L31 {p : Program} {l : Launch} {e : Env} {s : State} {m : MethodId} {args : Array Value} {below : List Frame} {meth : Method} {c : Code} {D : va_G} {ca : Nat → ClassId} {ad : Nat → Nat} {A : Nat → Prop} (X : Cx p s m args meth c R_RRef b_RRef_open_ 4 (some .int) D ca) (hA : ∀ q, s.heap.size ≤ q → A q)  : ∀ (n : Nat) (g : St_Ref) (v1 : Int32) (res : Int32 × St_Ref), m_RRef_open__L31  n g v1 = some res → ∀ (H : Heap) (locs : List Loc), va_P D classes (wl_Ref ca ad g) H → va_D A (wl_Ref ca ad g) → va_S A s.heap H locs → ∀ ls : Array Slot, lv_has ls 4 [(0, .ref (ad 0)), (1, .int v1)] → W p l e (RM 4 94) s m args below meth c H locs 0 0 (MQ below (QRm D (some (.int res.1)) (wl_Ref ca ad res.2) A) args s 0 0 A) (F0 m 31 ls []) := by
  obtain ⟨hx, hb, hml, hr, hown, hts, hK, hlocks⟩ := id X
  intro n
  induction n with
  | zero =>
    intro g v1 res hm
    rw [m_RRef_open__L31] at hm
    cases hm
  | succ n ih =>
    intro g v1 res hm H locs hP hD hS ls hl
    rw [m_RRef_open__L31] at hm
    refine lv_iload_n hx hb d_RRef_open__31 rfl (lv_at hl 1 rfl) ?_
    refine lv_aload_n hx hb d_RRef_open__32 rfl (lv_at hl 0 rfl) ?_
    refine va_get (D := D) (ci := 6) (v := .int (g_Rrows g)) (C := R_RRef) (T := F_RRef) (N := 29) hx hb hts i_RRef hown hK hP 0 rfl rfl 1 (by decide) (hts _ wf_RRef_78) (fun _ h9 => h9) rfl d_RRef_open__33 ?_
    refine lv_icmp_ge (tgt := 99) hx hb d_RRef_open__36 (by decide) (fun c2 => ?_) (fun c2 => ?_)
    · replace hm := ip c2 hm
      refine lv_aload_n hx hb d_RRef_open__99 rfl (lv_at hl 0 rfl) ?_
      refine va_get (D := D) (ci := 6) (v := .int (g_Rmarks g)) (C := R_RRef) (T := F_RRef) (N := 29) hx hb hts i_RRef hown hK hP 0 rfl rfl 20 (by decide) (hts _ wf_RRef_109) (fun _ h9 => h9) rfl d_RRef_open__100 ?_
      cases hm
      exact ret_mi X hP hS d_RRef_open__103
    · replace hm := ineg c2 hm
      refine lv_aload_n hx hb d_RRef_open__39 rfl (lv_at hl 0 rfl) ?_
      refine lv_iload_n hx hb d_RRef_open__40 rfl (lv_at hl 1 rfl) ?_
      obtain ⟨q3, hq3, hm⟩ := ob hm
      refine inv_rVa (C := R_RRef) (As := [.int v1]) (rest := []) (v := .int q3) X (c_RRef_partAt l D ca ad _ g v1 q3 hq3) g_RRef_159 yo_RRef_partAt ⟨Nat.le_of_ble_eq_true rfl, Nat.le_of_ble_eq_true rfl⟩ hl hP hD (ci := 6) rfl rfl hS hA rfl rfl (Nat.le_of_ble_eq_true rfl) ⟨Nat.zero_le _, Nat.zero_le _⟩ d_RRef_open__41 (fun H locs hP hS => ?_)
      refine lv_istore_n (lv' := [(2, .int q3), (0, .ref (ad 0)), (1, .int v1)]) hx hb d_RRef_open__44 rfl hl (by decide) rfl (fun ls hl => ?_)
      refine lv_iload_n hx hb d_RRef_open__45 rfl (lv_at hl 0 rfl) ?_
      refine lv_if_ne (tgt := 57) hx hb d_RRef_open__46 (by decide) (fun c4 => ?_) (fun c4 => ?_)
      · replace hm := ineg c4 hm
        refine lv_iconst (v := 0) hx hb d_RRef_open__57 (by decide) ?_
        refine lv_istore_n (lv' := [(3, .int 0), (2, .int q3), (0, .ref (ad 0)), (1, .int v1)]) hx hb d_RRef_open__58 rfl hl (by decide) rfl (fun ls hl => ?_)
        refine lv_iload_n hx hb d_RRef_open__59 rfl (lv_at hl 1 rfl) ?_
        refine lv_if_le (tgt := 71) hx hb d_RRef_open__60 (by decide) (fun c5 => ?_) (fun c5 => ?_)
        · replace hm := ip c5 hm
          refine lv_iload_n hx hb d_RRef_open__71 rfl (lv_at hl 0 rfl) ?_
          refine lv_if_le (tgt := 80) hx hb d_RRef_open__72 (by decide) (fun _ => ?_) (fun h9 => absurd h9 (by decide))
          refine lv_iload_n hx hb d_RRef_open__80 rfl (lv_at hl 3 rfl) ?_
          refine lv_iload_n hx hb d_RRef_open__81 rfl (lv_at hl 1 rfl) ?_
          refine lv_iload_n hx hb d_RRef_open__82 rfl (lv_at hl 0 rfl) ?_
          refine lv_iadd hx hb d_RRef_open__83 ?_
          refine lv_if_ne (tgt := 91) hx hb d_RRef_open__84 (by decide) (fun c6 => ?_) (fun c6 => ?_)
          · replace hm := ineg c6 hm
            refine lv_iload_n hx hb d_RRef_open__91 rfl (lv_at hl 1 rfl) ?_
            refine lv_iload_n hx hb d_RRef_open__92 rfl (lv_at hl 0 rfl) ?_
            refine lv_iadd hx hb d_RRef_open__93 ?_
            refine lv_iadd hx hb d_RRef_open__94 ?_
            refine lv_istore_n (lv' := [(1, .int (v1 + (q3 + 0))), (3, .int 0), (2, .int q3), (0, .ref (ad 0))]) hx hb d_RRef_open__95 rfl hl (by decide) rfl (fun ls hl => ?_)
            refine lv_goto (tgt := 31) hx hb d_RRef_open__96 (by decide) ?_
            exact ih g (v1 + (q3 + 0)) _ hm _ _ hP hD hS ls (lv_sub hl [3, 0] rfl)
          · replace hm := ip c6 hm
            refine lv_iconst (v := 1) hx hb d_RRef_open__87 (by decide) ?_
            refine lv_goto (tgt := 94) hx hb d_RRef_open__88 (by decide) ?_
            refine lv_iadd hx hb d_RRef_open__94 ?_
            refine lv_istore_n (lv' := [(1, .int (v1 + 1)), (3, .int 0), (2, .int q3), (0, .ref (ad 0))]) hx hb d_RRef_open__95 rfl hl (by decide) rfl (fun ls hl => ?_)
            refine lv_goto (tgt := 31) hx hb d_RRef_open__96 (by decide) ?_
            exact ih g (v1 + 1) _ hm _ _ hP hD hS ls (lv_sub hl [3, 0] rfl)
        · replace hm := ineg c5 hm
          refine lv_aload_n hx hb d_RRef_open__63 rfl (lv_at hl 2 rfl) ?_
          refine lv_iload_n hx hb d_RRef_open__64 rfl (lv_at hl 3 rfl) ?_
          obtain ⟨q7, hq7, hm⟩ := ob hm
          refine inv_mUa (C := R_RRef) (As := [.int v1]) (rest := []) X (c_RRef_learnPart l D ca ad _ g v1 q7 hq7) g_RRef_165 yo_RRef_learnPart ⟨Nat.le_of_ble_eq_true rfl, Nat.le_of_ble_eq_true rfl⟩ hl hP hD rfl (ci := 6) rfl rfl hS hA rfl rfl (Nat.le_of_ble_eq_true rfl) ⟨Nat.zero_le _, Nat.zero_le _⟩ d_RRef_open__65 (fun H locs hP hD hS => ?_)
          refine lv_goto (tgt := 80) hx hb d_RRef_open__68 (by decide) ?_
          refine lv_iload_n hx hb d_RRef_open__80 rfl (lv_at hl 3 rfl) ?_
          refine lv_iload_n hx hb d_RRef_open__81 rfl (lv_at hl 1 rfl) ?_
          refine lv_iload_n hx hb d_RRef_open__82 rfl (lv_at hl 0 rfl) ?_
          refine lv_iadd hx hb d_RRef_open__83 ?_
          refine lv_if_ne (tgt := 91) hx hb d_RRef_open__84 (by decide) (fun c8 => ?_) (fun c8 => ?_)
          · replace hm := ineg c8 hm
            refine lv_iload_n hx hb d_RRef_open__91 rfl (lv_at hl 1 rfl) ?_
            refine lv_iload_n hx hb d_RRef_open__92 rfl (lv_at hl 0 rfl) ?_
            refine lv_iadd hx hb d_RRef_open__93 ?_
            refine lv_iadd hx hb d_RRef_open__94 ?_
            refine lv_istore_n (lv' := [(1, .int (v1 + (q3 + 0))), (3, .int 0), (2, .int q3), (0, .ref (ad 0))]) hx hb d_RRef_open__95 rfl hl (by decide) rfl (fun ls hl => ?_)
            refine lv_goto (tgt := 31) hx hb d_RRef_open__96 (by decide) ?_
            exact ih q7 (v1 + (q3 + 0)) _ hm _ _ hP hD hS ls (lv_sub hl [3, 0] rfl)
          · replace hm := ip c8 hm
            refine lv_iconst (v := 1) hx hb d_RRef_open__87 (by decide) ?_
            refine lv_goto (tgt := 94) hx hb d_RRef_open__88 (by decide) ?_
            refine lv_iadd hx hb d_RRef_open__94 ?_
            refine lv_istore_n (lv' := [(1, .int (v1 + 1)), (3, .int 0), (2, .int q3), (0, .ref (ad 0))]) hx hb d_RRef_open__95 rfl hl (by decide) rfl (fun ls hl => ?_)
            refine lv_goto (tgt := 31) hx hb d_RRef_open__96 (by decide) ?_
            exact ih q7 (v1 + 1) _ hm _ _ hP hD hS ls (lv_sub hl [3, 0] rfl)
      · replace hm := ip c4 hm
        refine lv_aload_n hx hb d_RRef_open__49 rfl (lv_at hl 1 rfl) ?_
        refine lv_iload_n hx hb d_RRef_open__50 rfl (lv_at hl 2 rfl) ?_
        obtain ⟨q9, hq9, hm⟩ := ob hm
        refine inv_rVa (C := R_RRef) (As := [.int v1]) (rest := []) (v := .int q9) X (c_RRef_markAt l D ca ad _ g v1 q9 hq9) g_RRef_162 yo_RRef_markAt ⟨Nat.le_of_ble_eq_true rfl, Nat.le_of_ble_eq_true rfl⟩ hl hP hD (ci := 6) rfl rfl hS hA rfl rfl (Nat.le_of_ble_eq_true rfl) ⟨Nat.zero_le _, Nat.zero_le _⟩ d_RRef_open__51 (fun H locs hP hS => ?_)
        refine lv_goto (tgt := 58) hx hb d_RRef_open__54 (by decide) ?_
        refine lv_istore_n (lv' := [(3, .int q9), (2, .int q3), (0, .ref (ad 0)), (1, .int v1)]) hx hb d_RRef_open__58 rfl hl (by decide) rfl (fun ls hl => ?_)
        refine lv_iload_n hx hb d_RRef_open__59 rfl (lv_at hl 1 rfl) ?_
        refine lv_if_le (tgt := 71) hx hb d_RRef_open__60 (by decide) (fun c10 => ?_) (fun c10 => ?_)
        · replace hm := ip c10 hm
          refine lv_iload_n hx hb d_RRef_open__71 rfl (lv_at hl 0 rfl) ?_
          refine lv_if_le (tgt := 80) hx hb d_RRef_open__72 (by decide) (fun c11 => ?_) (fun c11 => ?_)
          · replace hm := ip c11 hm
            refine lv_iload_n hx hb d_RRef_open__80 rfl (lv_at hl 3 rfl) ?_
            refine lv_iload_n hx hb d_RRef_open__81 rfl (lv_at hl 1 rfl) ?_
            refine lv_iload_n hx hb d_RRef_open__82 rfl (lv_at hl 0 rfl) ?_
            refine lv_iadd hx hb d_RRef_open__83 ?_
            refine lv_if_ne (tgt := 91) hx hb d_RRef_open__84 (by decide) (fun c12 => ?_) (fun c12 => ?_)
            · replace hm := ineg c12 hm
              refine lv_iload_n hx hb d_RRef_open__91 rfl (lv_at hl 1 rfl) ?_
              refine lv_iload_n hx hb d_RRef_open__92 rfl (lv_at hl 0 rfl) ?_
              refine lv_iadd hx hb d_RRef_open__93 ?_
              refine lv_iadd hx hb d_RRef_open__94 ?_
              refine lv_istore_n (lv' := [(1, .int (v1 + (q3 + q9))), (3, .int q9), (2, .int q3), (0, .ref (ad 0))]) hx hb d_RRef_open__95 rfl hl (by decide) rfl (fun ls hl => ?_)
              refine lv_goto (tgt := 31) hx hb d_RRef_open__96 (by decide) ?_
              exact ih g (v1 + (q3 + q9)) _ hm _ _ hP hD hS ls (lv_sub hl [3, 0] rfl)
            · replace hm := ip c12 hm
              refine lv_iconst (v := 1) hx hb d_RRef_open__87 (by decide) ?_
              refine lv_goto (tgt := 94) hx hb d_RRef_open__88 (by decide) ?_
              refine lv_iadd hx hb d_RRef_open__94 ?_
              refine lv_istore_n (lv' := [(1, .int (v1 + 1)), (3, .int q9), (2, .int q3), (0, .ref (ad 0))]) hx hb d_RRef_open__95 rfl hl (by decide) rfl (fun ls hl => ?_)
              refine lv_goto (tgt := 31) hx hb d_RRef_open__96 (by decide) ?_
              exact ih g (v1 + 1) _ hm _ _ hP hD hS ls (lv_sub hl [3, 0] rfl)
          · replace hm := ineg c11 hm
            refine lv_aload_n hx hb d_RRef_open__75 rfl (lv_at hl 2 rfl) ?_
            refine lv_iload_n hx hb d_RRef_open__76 rfl (lv_at hl 3 rfl) ?_
            obtain ⟨q13, hq13, hm⟩ := ob hm
            refine inv_mUa (C := R_RRef) (As := [.int v1]) (rest := []) X (c_RRef_learnMark l D ca ad _ g v1 q13 hq13) g_RRef_169 yo_RRef_learnMark ⟨Nat.le_of_ble_eq_true rfl, Nat.le_of_ble_eq_true rfl⟩ hl hP hD rfl (ci := 6) rfl rfl hS hA rfl rfl (Nat.le_of_ble_eq_true rfl) ⟨Nat.zero_le _, Nat.zero_le _⟩ d_RRef_open__77 (fun H locs hP hD hS => ?_)
            refine lv_iload_n hx hb d_RRef_open__80 rfl (lv_at hl 3 rfl) ?_
            refine lv_iload_n hx hb d_RRef_open__81 rfl (lv_at hl 1 rfl) ?_
            refine lv_iload_n hx hb d_RRef_open__82 rfl (lv_at hl 0 rfl) ?_
            refine lv_iadd hx hb d_RRef_open__83 ?_
            refine lv_if_ne (tgt := 91) hx hb d_RRef_open__84 (by decide) (fun c14 => ?_) (fun c14 => ?_)
            · replace hm := ineg c14 hm
              refine lv_iload_n hx hb d_RRef_open__91 rfl (lv_at hl 1 rfl) ?_
              refine lv_iload_n hx hb d_RRef_open__92 rfl (lv_at hl 0 rfl) ?_
              refine lv_iadd hx hb d_RRef_open__93 ?_
              refine lv_iadd hx hb d_RRef_open__94 ?_
              refine lv_istore_n (lv' := [(1, .int (v1 + (q3 + q9))), (3, .int q9), (2, .int q3), (0, .ref (ad 0))]) hx hb d_RRef_open__95 rfl hl (by decide) rfl (fun ls hl => ?_)
              refine lv_goto (tgt := 31) hx hb d_RRef_open__96 (by decide) ?_
              exact ih q13 (v1 + (q3 + q9)) _ hm _ _ hP hD hS ls (lv_sub hl [3, 0] rfl)
            · replace hm := ip c14 hm
              refine lv_iconst (v := 1) hx hb d_RRef_open__87 (by decide) ?_
              refine lv_goto (tgt := 94) hx hb d_RRef_open__88 (by decide) ?_
              refine lv_iadd hx hb d_RRef_open__94 ?_
              refine lv_istore_n (lv' := [(1, .int (v1 + 1)), (3, .int q9), (2, .int q3), (0, .ref (ad 0))]) hx hb d_RRef_open__95 rfl hl (by decide) rfl (fun ls hl => ?_)
              refine lv_goto (tgt := 31) hx hb d_RRef_open__96 (by decide) ?_
              exact ih q13 (v1 + 1) _ hm _ _ hP hD hS ls (lv_sub hl [3, 0] rfl)
        · replace hm := ineg c10 hm
          refine lv_aload_n hx hb d_RRef_open__63 rfl (lv_at hl 2 rfl) ?_
          refine lv_iload_n hx hb d_RRef_open__64 rfl (lv_at hl 3 rfl) ?_
          obtain ⟨q15, hq15, hm⟩ := ob hm
          refine inv_mUa (C := R_RRef) (As := [.int v1]) (rest := []) X (c_RRef_learnPart l D ca ad _ g v1 q15 hq15) g_RRef_165 yo_RRef_learnPart ⟨Nat.le_of_ble_eq_true rfl, Nat.le_of_ble_eq_true rfl⟩ hl hP hD rfl (ci := 6) rfl rfl hS hA rfl rfl (Nat.le_of_ble_eq_true rfl) ⟨Nat.zero_le _, Nat.zero_le _⟩ d_RRef_open__65 (fun H locs hP hD hS => ?_)
          refine lv_goto (tgt := 80) hx hb d_RRef_open__68 (by decide) ?_
          refine lv_iload_n hx hb d_RRef_open__80 rfl (lv_at hl 3 rfl) ?_
          refine lv_iload_n hx hb d_RRef_open__81 rfl (lv_at hl 1 rfl) ?_
          refine lv_iload_n hx hb d_RRef_open__82 rfl (lv_at hl 0 rfl) ?_
          refine lv_iadd hx hb d_RRef_open__83 ?_
          refine lv_if_ne (tgt := 91) hx hb d_RRef_open__84 (by decide) (fun c16 => ?_) (fun c16 => ?_)
          · replace hm := ineg c16 hm
            refine lv_iload_n hx hb d_RRef_open__91 rfl (lv_at hl 1 rfl) ?_
            refine lv_iload_n hx hb d_RRef_open__92 rfl (lv_at hl 0 rfl) ?_
            refine lv_iadd hx hb d_RRef_open__93 ?_
            refine lv_iadd hx hb d_RRef_open__94 ?_
            refine lv_istore_n (lv' := [(1, .int (v1 + (q3 + q9))), (3, .int q9), (2, .int q3), (0, .ref (ad 0))]) hx hb d_RRef_open__95 rfl hl (by decide) rfl (fun ls hl => ?_)
            refine lv_goto (tgt := 31) hx hb d_RRef_open__96 (by decide) ?_
            exact ih q15 (v1 + (q3 + q9)) _ hm _ _ hP hD hS ls (lv_sub hl [3, 0] rfl)
          · replace hm := ip c16 hm
            refine lv_iconst (v := 1) hx hb d_RRef_open__87 (by decide) ?_
            refine lv_goto (tgt := 94) hx hb d_RRef_open__88 (by decide) ?_
            refine lv_iadd hx hb d_RRef_open__94 ?_
            refine lv_istore_n (lv' := [(1, .int (v1 + 1)), (3, .int q9), (2, .int q3), (0, .ref (ad 0))]) hx hb d_RRef_open__95 rfl hl (by decide) rfl (fun ls hl => ?_)
            refine lv_goto (tgt := 31) hx hb d_RRef_open__96 (by decide) ?_
            exact ih q15 (v1 + 1) _ hm _ _ hP hD hS ls (lv_sub hl [3, 0] rfl)
set_option maxHeartbeats 4000000 in
set_option maxRecDepth 100000 in
theorem c_RRef_open_ (l : Launch) (D : va_G) (ca : Nat → ClassId) (ad : Nat → Nat) (sz : Nat) (g : St_Ref)  (res : Int32 × St_Ref) (hm : m_RRef_open_ g = some res) : Met l y_RRef_open_ (cws y_RRef_open_ b_RRef_open_ 4 (some .int)) (RM 4 94) (PreW D ca (wl_Ref ca ad g) [.ref (ad 0)] sz) (QRm D (some (.int res.1)) (wl_Ref ca ad res.2) (va_A (wl_Ref ca ad g) sz)) 0 0 (va_A (wl_Ref ca ad g) sz) := by
  refine met_ofM (own := R_RRef) (by decide) rfl (Nat.le_of_ble_eq_true rfl) ?_
  intro p e s m below meth c A X hA hP hD ls hl
  obtain ⟨hx, hb, hml, hr, hown, hts, hK, hlocks⟩ := id X
  have hS : va_S A s.heap s.heap [] := va_S.rf
  have hl : lv_has ls 4 [(0, .ref (ad 0))] := hl
  unfold m_RRef_open_ at hm
  refine lv_aload_n hx hb d_RRef_open__0 rfl (lv_at hl 0 rfl) ?_
  refine lv_iconst (v := 1) hx hb d_RRef_open__1 (by decide) ?_
  refine va_put (D := D) (ci := 6) (v := .int 1) (ty := .boolean) (C := R_RRef) (T := F_RRef) (N := 29) hx hb hts i_RRef t_RRef t_RRef_ok n_RRef hown hK hP hD hS 0 rfl rfl 2 (by decide) (hts _ wf_RRef_13) (fun _ h9 => h9) rfl (by decide +kernel) rfl rfl (Nat.le_of_ble_eq_true rfl) d_RRef_open__2 (fun H locs hP hD hS => ?_)
  replace hP : va_P D classes (wl_Ref ca ad (s_Ropen g 1)) H := hP
  replace hD : va_D A (wl_Ref ca ad (s_Ropen g 1)) := hD
  refine lv_aload_n hx hb d_RRef_open__5 rfl (lv_at hl 0 rfl) ?_
  refine lv_iconst (v := 0) hx hb d_RRef_open__6 (by decide) ?_
  refine va_put (D := D) (ci := 6) (v := .int 0) (ty := .int) (C := R_RRef) (T := F_RRef) (N := 29) hx hb hts i_RRef t_RRef t_RRef_ok n_RRef hown hK hP hD hS 0 rfl rfl 12 (by decide) (hts _ wf_RRef_106) (fun _ h9 => h9) rfl (by decide +kernel) rfl rfl (Nat.le_of_ble_eq_true rfl) d_RRef_open__7 (fun H locs hP hD hS => ?_)
  replace hP : va_P D classes (wl_Ref ca ad (s_Rparts (s_Ropen g 1) 0)) H := hP
  replace hD : va_D A (wl_Ref ca ad (s_Rparts (s_Ropen g 1) 0)) := hD
  refine lv_aload_n hx hb d_RRef_open__10 rfl (lv_at hl 0 rfl) ?_
  refine lv_iconst (v := 0) hx hb d_RRef_open__11 (by decide) ?_
  refine va_put (D := D) (ci := 6) (v := .int 0) (ty := .int) (C := R_RRef) (T := F_RRef) (N := 29) hx hb hts i_RRef t_RRef t_RRef_ok n_RRef hown hK hP hD hS 0 rfl rfl 20 (by decide) (hts _ wf_RRef_109) (fun _ h9 => h9) rfl (by decide +kernel) rfl rfl (Nat.le_of_ble_eq_true rfl) d_RRef_open__12 (fun H locs hP hD hS => ?_)
  replace hP : va_P D classes (wl_Ref ca ad (s_Rmarks (s_Rparts (s_Ropen g 1) 0) 0)) H := hP
  replace hD : va_D A (wl_Ref ca ad (s_Rmarks (s_Rparts (s_Ropen g 1) 0) 0)) := hD
  refine lv_aload_n hx hb d_RRef_open__15 rfl (lv_at hl 0 rfl) ?_
  refine lv_iconst (v := 0) hx hb d_RRef_open__16 (by decide) ?_
  refine va_put (D := D) (ci := 6) (v := .int 0) (ty := .int) (C := R_RRef) (T := F_RRef) (N := 29) hx hb hts i_RRef t_RRef t_RRef_ok n_RRef hown hK hP hD hS 0 rfl rfl 23 (by decide) (hts _ wf_RRef_147) (fun _ h9 => h9) rfl (by decide +kernel) rfl rfl (Nat.le_of_ble_eq_true rfl) d_RRef_open__17 (fun H locs hP hD hS => ?_)
  replace hP : va_P D classes (wl_Ref ca ad (s_RlastPart (s_Rmarks (s_Rparts (s_Ropen g 1) 0) 0) 0)) H := hP
  replace hD : va_D A (wl_Ref ca ad (s_RlastPart (s_Rmarks (s_Rparts (s_Ropen g 1) 0) 0) 0)) := hD
  refine lv_aload_n hx hb d_RRef_open__20 rfl (lv_at hl 0 rfl) ?_
  refine lv_iconst (v := 0) hx hb d_RRef_open__21 (by decide) ?_
  refine va_put (D := D) (ci := 6) (v := .int 0) (ty := .int) (C := R_RRef) (T := F_RRef) (N := 29) hx hb hts i_RRef t_RRef t_RRef_ok n_RRef hown hK hP hD hS 0 rfl rfl 24 (by decide) (hts _ wf_RRef_153) (fun _ h9 => h9) rfl (by decide +kernel) rfl rfl (Nat.le_of_ble_eq_true rfl) d_RRef_open__22 (fun H locs hP hD hS => ?_)
  replace hP : va_P D classes (wl_Ref ca ad (s_RlastMark (s_RlastPart (s_Rmarks (s_Rparts (s_Ropen g 1) 0) 0) 0) 0)) H := hP
  replace hD : va_D A (wl_Ref ca ad (s_RlastMark (s_RlastPart (s_Rmarks (s_Rparts (s_Ropen g 1) 0) 0) 0) 0)) := hD
  refine lv_aload_n hx hb d_RRef_open__25 rfl (lv_at hl 0 rfl) ?_
  obtain ⟨q1, hq1, hm⟩ := ob hm
  refine inv_mUa (C := R_RRef) (As := []) (rest := []) X (c_RRef_heads l D ca ad _ (s_RlastMark (s_RlastPart (s_Rmarks (s_Rparts (s_Ropen g 1) 0) 0) 0) 0) q1 hq1) g_RRef_156 yo_RRef_heads ⟨Nat.le_of_ble_eq_true rfl, Nat.le_of_ble_eq_true rfl⟩ hl hP hD rfl (ci := 6) rfl rfl hS hA rfl rfl (Nat.le_of_ble_eq_true rfl) ⟨Nat.zero_le _, Nat.zero_le _⟩ d_RRef_open__26 (fun H locs hP hD hS => ?_)
  refine lv_iconst (v := 2) hx hb d_RRef_open__29 (by decide) ?_
  refine lv_istore_n (lv' := [(1, .int 2), (0, .ref (ad 0))]) hx hb d_RRef_open__30 rfl hl (by decide) rfl (fun ls hl => ?_)
  exact k_m_RRef_open__L31 X hA FU q1 2 _ hm _ _ hP hD hS ls (lv_sub hl [1, 0] rfl)
set_option maxHeartbeats 4000000 in
set_option maxRecDepth 100000 in
theorem c_RRef_isIn (l : Launch) (D : va_G) (ca : Nat → ClassId)  (sz : Nat)  (p0 : Int32) (p1 : Int32) (p2 : Int32) (res : Int32) (hm : m_RRef_isIn p0 p1 p2 = some res) : Met l y_RRef_isIn (cws y_RRef_isIn b_RRef_isIn 3 (some .boolean)) (RM 0 0) (PreW D ca ([]) [.int p0, .int p1, .int p2] sz) (QRr (.int res) (va_A [] sz)) 0 0 (va_A [] sz) := by
  refine met_ofR (own := R_RRef) (by decide) rfl (Nat.le_of_ble_eq_true rfl) ?_
  intro p e s m below meth c A X hA hP hD ls hl
  obtain ⟨hx, hb, hml, hr, hown, hts, hK, hlocks⟩ := id X
  have hS : va_S A s.heap s.heap [] := va_S.rf
  have hl : lv_has ls 3 [(0, .int p0), (1, .int p1), (2, .int p2)] := hl
  unfold m_RRef_isIn at hm
  refine lv_iload_n hx hb d_RRef_isIn_0 rfl (lv_at hl 0 rfl) ?_
  refine lv_iload_n hx hb d_RRef_isIn_1 rfl (lv_at hl 1 rfl) ?_
  refine lv_icmp_lt (tgt := 14) hx hb d_RRef_isIn_2 (by decide) (fun c1 => ?_) (fun c1 => ?_)
  · replace hm := ip c1 hm
    refine lv_iconst (v := 0) hx hb d_RRef_isIn_14 (by decide) ?_
    cases hm
    exact ret_rz X nz0 hS d_RRef_isIn_15
  · replace hm := ineg c1 hm
    refine lv_iload_n hx hb d_RRef_isIn_5 rfl (lv_at hl 0 rfl) ?_
    refine lv_iload_n hx hb d_RRef_isIn_6 rfl (lv_at hl 2 rfl) ?_
    refine lv_icmp_gt (tgt := 14) hx hb d_RRef_isIn_7 (by decide) (fun c2 => ?_) (fun c2 => ?_)
    · replace hm := ip c2 hm
      refine lv_iconst (v := 0) hx hb d_RRef_isIn_14 (by decide) ?_
      cases hm
      exact ret_rz X nz0 hS d_RRef_isIn_15
    · replace hm := ineg c2 hm
      refine lv_iconst (v := 1) hx hb d_RRef_isIn_10 (by decide) ?_
      refine lv_goto (tgt := 15) hx hb d_RRef_isIn_11 (by decide) ?_
      cases hm
      exact ret_rz X nz1 hS d_RRef_isIn_15
set_option maxHeartbeats 4000000 in
set_option maxRecDepth 100000 in
theorem k_m_RRef_feed_L31 {p : Program} {l : Launch} {e : Env} {s : State} {m : MethodId} {args : Array Value} {below : List Frame} {meth : Method} {c : Code} {D : va_G} {ca : Nat → ClassId} {ad : Nat → Nat} {A : Nat → Prop} (X : Cx p s m args meth c R_RRef b_RRef_feed 5 (some .int) D ca) (hA : ∀ q, s.heap.size ≤ q → A q)  : ∀ (n : Nat) (g : St_Ref) (v1 : Int64) (v3 : Int32) (v4 : Int32) (res : Int32 × St_Ref), m_RRef_feed_L31  n g v1 v3 v4 = some res → ∀ (H : Heap) (locs : List Loc), va_P D classes (wl_Ref ca ad g) H → va_D A (wl_Ref ca ad g) → va_S A s.heap H locs → ∀ ls : Array Slot, lv_has ls 5 [(0, .ref (ad 0)), (1, .long v1), (3, .int v3), (4, .int v4)] → W p l e (RM 1 22) s m args below meth c H locs 0 0 (MQ below (QRm D (some (.int res.1)) (wl_Ref ca ad res.2) A) args s 0 0 A) (F0 m 31 ls []) := by
  obtain ⟨hx, hb, hml, hr, hown, hts, hK, hlocks⟩ := id X
  intro n
  induction n with
  | zero =>
    intro g v1 v3 v4 res hm
    rw [m_RRef_feed_L31] at hm
    cases hm
  | succ n ih =>
    intro g v1 v3 v4 res hm H locs hP hD hS ls hl
    rw [m_RRef_feed_L31] at hm
    refine lv_iload hx hb d_RRef_feed_31 (lv_at hl 3 rfl) ?_
    refine lv_iload_n hx hb d_RRef_feed_33 rfl (lv_at hl 2 rfl) ?_
    refine lv_icmp_ge (tgt := 71) hx hb d_RRef_feed_34 (by decide) (fun c4 => ?_) (fun c4 => ?_)
    · replace hm := ip c4 hm
      refine lv_aload_n hx hb d_RRef_feed_71 rfl (lv_at hl 0 rfl) ?_
      refine va_get (D := D) (ci := 6) (v := .int (g_Rtaped g)) (C := R_RRef) (T := F_RRef) (N := 29) hx hb hts i_RRef hown hK hP 0 rfl rfl 6 (by decide) (hts _ wf_RRef_176) (fun _ h9 => h9) rfl d_RRef_feed_72 ?_
      cases hm
      exact ret_mi X hP hS d_RRef_feed_75
    · replace hm := ineg c4 hm
      refine lv_aload_n hx hb d_RRef_feed_37 rfl (lv_at hl 0 rfl) ?_
      refine va_get (D := D) (ci := 6) (v := .ref (ad 2)) (C := R_RRef) (T := F_RRef) (N := 29) hx hb hts i_RRef hown hK hP 0 rfl rfl 5 (by decide) (hts _ wf_RRef_21) (fun _ h9 => h9) rfl d_RRef_feed_38 ?_
      refine lv_aload_n hx hb d_RRef_feed_41 rfl (lv_at hl 0 rfl) ?_
      refine va_get (D := D) (ci := 6) (v := .int (g_Rtaped g)) (C := R_RRef) (T := F_RRef) (N := 29) hx hb hts i_RRef hown hK hP 0 rfl rfl 6 (by decide) (hts _ wf_RRef_176) (fun _ h9 => h9) rfl d_RRef_feed_42 ?_
      refine lv_lload_n hx hb d_RRef_feed_45 rfl (lv_at hl 1 rfl) ?_
      refine lv_bipush (v := 8) hx hb d_RRef_feed_46 (by decide) ?_
      refine lv_iload hx hb d_RRef_feed_48 (lv_at hl 3 rfl) ?_
      refine lv_imul hx hb d_RRef_feed_50 ?_
      refine lv_lshr (v := (jlshr v1 (8 * v4))) hx hb d_RRef_feed_51 rfl ?_
      refine lv_l2i (v := (((jlshr v1 (8 * v4))).toInt32)) hx hb d_RRef_feed_52 rfl ?_
      refine lv_i2b (v := (((((jlshr v1 (8 * v4))).toInt32)).toInt8.toInt32)) hx hb d_RRef_feed_53 rfl ?_
      obtain ⟨b5, hm⟩ := on hm
      refine va_bast hx hb hK hP hD hS 2 0 rfl rfl b5 d_RRef_feed_54 (fun H locs hP hD hS => ?_)
      replace hP : va_P D classes (wl_Ref ca ad (s_Rtape g ((g_Rtape g).1, upd (g_Rtape g).2 ((g_Rtaped g)).toNatClampNeg (vp_nar .byte (((((jlshr v1 (8 * v4))).toInt32)).toInt8.toInt32))))) H := hP
      replace hD : va_D A (wl_Ref ca ad (s_Rtape g ((g_Rtape g).1, upd (g_Rtape g).2 ((g_Rtaped g)).toNatClampNeg (vp_nar .byte (((((jlshr v1 (8 * v4))).toInt32)).toInt8.toInt32))))) := hD
      refine lv_aload_n hx hb d_RRef_feed_55 rfl (lv_at hl 0 rfl) ?_
      refine lv_dup hx hb d_RRef_feed_56 rfl ?_
      refine va_get (D := D) (ci := 6) (v := .int (g_Rtaped g)) (C := R_RRef) (T := F_RRef) (N := 29) hx hb hts i_RRef hown hK hP 0 rfl rfl 6 (by decide) (hts _ wf_RRef_176) (fun _ h9 => h9) rfl d_RRef_feed_57 ?_
      refine lv_iconst (v := 1) hx hb d_RRef_feed_60 (by decide) ?_
      refine lv_iadd hx hb d_RRef_feed_61 ?_
      refine va_put (D := D) (ci := 6) (v := .int ((g_Rtaped g) + 1)) (ty := .int) (C := R_RRef) (T := F_RRef) (N := 29) hx hb hts i_RRef t_RRef t_RRef_ok n_RRef hown hK hP hD hS 0 rfl rfl 6 (by decide) (hts _ wf_RRef_176) (fun _ h9 => h9) rfl (by decide +kernel) rfl rfl (Nat.le_of_ble_eq_true rfl) d_RRef_feed_62 (fun H locs hP hD hS => ?_)
      replace hP : va_P D classes (wl_Ref ca ad (s_Rtaped (s_Rtape g ((g_Rtape g).1, upd (g_Rtape g).2 ((g_Rtaped g)).toNatClampNeg (vp_nar .byte (((((jlshr v1 (8 * v4))).toInt32)).toInt8.toInt32)))) ((g_Rtaped g) + 1))) H := hP
      replace hD : va_D A (wl_Ref ca ad (s_Rtaped (s_Rtape g ((g_Rtape g).1, upd (g_Rtape g).2 ((g_Rtaped g)).toNatClampNeg (vp_nar .byte (((((jlshr v1 (8 * v4))).toInt32)).toInt8.toInt32)))) ((g_Rtaped g) + 1))) := hD
      refine lv_iinc (v := (v4 + 1)) (lv' := [(4, .int (v4 + 1)), (0, .ref (ad 0)), (1, .long v1), (3, .int v3)]) hx hb d_RRef_feed_65 hl (k := 3) rfl rfl (by decide) rfl (fun ls hl => ?_)
      refine lv_goto (tgt := 31) hx hb d_RRef_feed_68 (by decide) ?_
      exact ih (s_Rtaped (s_Rtape g ((g_Rtape g).1, upd (g_Rtape g).2 ((g_Rtaped g)).toNatClampNeg (vp_nar .byte (((((jlshr v1 (8 * v4))).toInt32)).toInt8.toInt32)))) ((g_Rtaped g) + 1)) v1 v3 (v4 + 1) _ hm _ _ hP hD hS ls (lv_sub hl [1, 2, 3, 0] rfl)
set_option maxHeartbeats 4000000 in
set_option maxRecDepth 100000 in
theorem c_RRef_feed (l : Launch) (D : va_G) (ca : Nat → ClassId) (ad : Nat → Nat) (sz : Nat) (g : St_Ref) (p1 : Int64) (p3 : Int32) (res : Int32 × St_Ref) (hm : m_RRef_feed g p1 p3 = some res) : Met l y_RRef_feed (cws y_RRef_feed b_RRef_feed 5 (some .int)) (RM 1 22) (PreW D ca (wl_Ref ca ad g) [.ref (ad 0), .long p1, .int p3] sz) (QRm D (some (.int res.1)) (wl_Ref ca ad res.2) (va_A (wl_Ref ca ad g) sz)) 0 0 (va_A (wl_Ref ca ad g) sz) := by
  refine met_ofM (own := R_RRef) (by decide) rfl (Nat.le_of_ble_eq_true rfl) ?_
  intro p e s m below meth c A X hA hP hD ls hl
  obtain ⟨hx, hb, hml, hr, hown, hts, hK, hlocks⟩ := id X
  have hS : va_S A s.heap s.heap [] := va_S.rf
  have hl : lv_has ls 5 [(0, .ref (ad 0)), (1, .long p1), (3, .int p3)] := hl
  unfold m_RRef_feed at hm
  refine lv_iload_n hx hb d_RRef_feed_0 rfl (lv_at hl 2 rfl) ?_
  refine lv_iconst (v := 1) hx hb d_RRef_feed_1 (by decide) ?_
  refine lv_bipush (v := 8) hx hb d_RRef_feed_2 (by decide) ?_
  obtain ⟨q1, hq1, hm⟩ := ob hm
  refine inv_rS (As := [.int p3, .int 1, .int 8]) (rest := []) (v := .int q1) X (c_RRef_isIn l D ca  _ p3 1 8 q1 hq1) g_RRef_172 yo_RRef_isIn ⟨Nat.le_of_ble_eq_true rfl, Nat.le_of_ble_eq_true rfl⟩ hl hP hD [] rfl rfl hS hA rfl rfl (Nat.le_of_ble_eq_true rfl) ⟨Nat.zero_le _, Nat.zero_le _⟩ d_RRef_feed_4 (fun H locs hP hS => ?_)
  refine lv_if_ne (tgt := 13) hx hb d_RRef_feed_7 (by decide) (fun c2 => ?_) (fun c2 => ?_)
  · replace hm := ineg c2 hm
    refine lv_aload_n hx hb d_RRef_feed_13 rfl (lv_at hl 0 rfl) ?_
    refine va_get (D := D) (ci := 6) (v := .int (g_Rtaped g)) (C := R_RRef) (T := F_RRef) (N := 29) hx hb hts i_RRef hown hK hP 0 rfl rfl 6 (by decide) (hts _ wf_RRef_176) (fun _ h9 => h9) rfl d_RRef_feed_14 ?_
    refine lv_iload_n hx hb d_RRef_feed_17 rfl (lv_at hl 2 rfl) ?_
    refine lv_iadd hx hb d_RRef_feed_18 ?_
    refine lv_sipush (v := 2000) hx hb d_RRef_feed_19 (by decide) ?_
    refine lv_icmp_le (tgt := 28) hx hb d_RRef_feed_22 (by decide) (fun c3 => ?_) (fun c3 => ?_)
    · replace hm := ip c3 hm
      refine lv_iconst (v := 0) hx hb d_RRef_feed_28 (by decide) ?_
      refine lv_istore (lv' := [(4, .int 0), (0, .ref (ad 0)), (1, .long p1), (3, .int p3)]) hx hb d_RRef_feed_29 hl (by decide) rfl (fun ls hl => ?_)
      exact k_m_RRef_feed_L31 X hA FU g p1 p3 0 _ hm _ _ hP hD hS ls (lv_sub hl [1, 2, 3, 0] rfl)
    · replace hm := ineg c3 hm
      refine lv_bipush (v := (-4)) hx hb d_RRef_feed_25 (by decide) ?_
      cases hm
      exact ret_mi X hP hS d_RRef_feed_27
  · replace hm := ip c2 hm
    refine lv_bipush (v := (-2)) hx hb d_RRef_feed_10 (by decide) ?_
    cases hm
    exact ret_mi X hP hS d_RRef_feed_12
set_option maxHeartbeats 4000000 in
set_option maxRecDepth 100000 in
theorem c_RRef_wipe (l : Launch) (D : va_G) (ca : Nat → ClassId) (ad : Nat → Nat) (sz : Nat) (g : St_Ref)  (res : Int32 × St_Ref) (hm : m_RRef_wipe g = some res) : Met l y_RRef_wipe (cws y_RRef_wipe b_RRef_wipe 2 (some .int)) (RM 0 0) (PreW D ca (wl_Ref ca ad g) [.ref (ad 0)] sz) (QRm D (some (.int res.1)) (wl_Ref ca ad res.2) (va_A (wl_Ref ca ad g) sz)) 0 0 (va_A (wl_Ref ca ad g) sz) := by
  refine met_ofM (own := R_RRef) (by decide) rfl (Nat.le_of_ble_eq_true rfl) ?_
  intro p e s m below meth c A X hA hP hD ls hl
  obtain ⟨hx, hb, hml, hr, hown, hts, hK, hlocks⟩ := id X
  have hS : va_S A s.heap s.heap [] := va_S.rf
  have hl : lv_has ls 2 [(0, .ref (ad 0))] := hl
  unfold m_RRef_wipe at hm
  refine lv_aload_n hx hb d_RRef_wipe_0 rfl (lv_at hl 0 rfl) ?_
  refine va_get (D := D) (ci := 6) (v := .int (g_Rtaped g)) (C := R_RRef) (T := F_RRef) (N := 29) hx hb hts i_RRef hown hK hP 0 rfl rfl 6 (by decide) (hts _ wf_RRef_176) (fun _ h9 => h9) rfl d_RRef_wipe_1 ?_
  refine lv_istore_n (lv' := [(1, .int (g_Rtaped g)), (0, .ref (ad 0))]) hx hb d_RRef_wipe_4 rfl hl (by decide) rfl (fun ls hl => ?_)
  refine lv_aload_n hx hb d_RRef_wipe_5 rfl (lv_at hl 1 rfl) ?_
  refine lv_iconst (v := 0) hx hb d_RRef_wipe_6 (by decide) ?_
  refine va_put (D := D) (ci := 6) (v := .int 0) (ty := .int) (C := R_RRef) (T := F_RRef) (N := 29) hx hb hts i_RRef t_RRef t_RRef_ok n_RRef hown hK hP hD hS 0 rfl rfl 6 (by decide) (hts _ wf_RRef_176) (fun _ h9 => h9) rfl (by decide +kernel) rfl rfl (Nat.le_of_ble_eq_true rfl) d_RRef_wipe_7 (fun H locs hP hD hS => ?_)
  replace hP : va_P D classes (wl_Ref ca ad (s_Rtaped g 0)) H := hP
  replace hD : va_D A (wl_Ref ca ad (s_Rtaped g 0)) := hD
  refine lv_iload_n hx hb d_RRef_wipe_10 rfl (lv_at hl 0 rfl) ?_
  cases hm
  exact ret_mi X hP hS d_RRef_wipe_11
set_option maxHeartbeats 4000000 in
set_option maxRecDepth 100000 in
theorem k_m_RRef_marksUsed_L102 {p : Program} {l : Launch} {e : Env} {s : State} {m : MethodId} {args : Array Value} {below : List Frame} {meth : Method} {c : Code} {D : va_G} {ca : Nat → ClassId} {ad : Nat → Nat} {A : Nat → Prop} (X : Cx p s m args meth c R_RRef b_RRef_marksUsed 3 none D ca) (hA : ∀ q, s.heap.size ≤ q → A q)  {k : St_Ref → Int32 → Option (St_Ref)} (hk : ∀ (g9 : St_Ref) (w1 : Int32) (res : St_Ref), k g9 w1 = some res → ∀ (H : Heap) (locs : List Loc), va_P D classes (wl_Ref ca ad g9) H → va_D A (wl_Ref ca ad g9) → va_S A s.heap H locs → ∀ ls : Array Slot, lv_has ls 3 [(0, .ref (ad 0)), (1, .int w1)] → W p l e (RM 1 20) s m args below meth c H locs 0 0 (MQ below (QRm D none (wl_Ref ca ad res) A) args s 0 0 A) (F0 m 145 ls [])) : ∀ (n : Nat) (g : St_Ref) (v1 : Int32) (v2 : Int32) (res : St_Ref), m_RRef_marksUsed_L102  k n g v1 v2 = some res → ∀ (H : Heap) (locs : List Loc), va_P D classes (wl_Ref ca ad g) H → va_D A (wl_Ref ca ad g) → va_S A s.heap H locs → ∀ ls : Array Slot, lv_has ls 3 [(0, .ref (ad 0)), (1, .int v1), (2, .int v2)] → W p l e (RM 1 20) s m args below meth c H locs 0 0 (MQ below (QRm D none (wl_Ref ca ad res) A) args s 0 0 A) (F0 m 102 ls []) := by
  obtain ⟨hx, hb, hml, hr, hown, hts, hK, hlocks⟩ := id X
  intro n
  induction n with
  | zero =>
    intro g v1 v2 res hm
    rw [m_RRef_marksUsed_L102] at hm
    cases hm
  | succ n ih =>
    intro g v1 v2 res hm H locs hP hD hS ls hl
    rw [m_RRef_marksUsed_L102] at hm
    refine lv_aload_n hx hb d_RRef_marksUsed_102 rfl (lv_at hl 0 rfl) ?_
    refine va_get (D := D) (ci := 6) (v := .ref (ad 9)) (C := R_RRef) (T := F_RRef) (N := 29) hx hb hts i_RRef hown hK hP 0 rfl rfl 14 (by decide) (hts _ wf_RRef_44) (fun _ h9 => h9) rfl d_RRef_marksUsed_103 ?_
    refine lv_iload_n hx hb d_RRef_marksUsed_106 rfl (lv_at hl 1 rfl) ?_
    obtain ⟨b4, hm⟩ := on hm
    refine va_iald hx hb hK hP 9 2 rfl rfl b4 d_RRef_marksUsed_107 ?_
    refine lv_iconst (v := (-1)) hx hb d_RRef_marksUsed_108 (by decide) ?_
    refine lv_icmp_eq (tgt := 145) hx hb d_RRef_marksUsed_109 (by decide) (fun c5 => ?_) (fun c5 => ?_)
    · replace hm := ip c5 hm
      exact hk g v1 _ hm _ _ hP hD hS ls (lv_sub hl [0, 1] rfl)
    · replace hm := ineg c5 hm
      refine lv_iload_n hx hb d_RRef_marksUsed_112 rfl (lv_at hl 2 rfl) ?_
      refine lv_aload_n hx hb d_RRef_marksUsed_113 rfl (lv_at hl 0 rfl) ?_
      refine va_get (D := D) (ci := 6) (v := .ref (ad 10)) (C := R_RRef) (T := F_RRef) (N := 29) hx hb hts i_RRef hown hK hP 0 rfl rfl 15 (by decide) (hts _ wf_RRef_47) (fun _ h9 => h9) rfl d_RRef_marksUsed_114 ?_
      refine lv_iload_n hx hb d_RRef_marksUsed_117 rfl (lv_at hl 1 rfl) ?_
      obtain ⟨b6, hm⟩ := on hm
      refine va_iald hx hb hK hP 10 2 rfl rfl b6 d_RRef_marksUsed_118 ?_
      obtain ⟨q7, hq7, hm⟩ := ob hm
      refine inv_rS (As := [.int ((g_RmCount g).2 (v1).toNatClampNeg)]) (rest := [.int v2]) (v := .int q7) X (c_RRef_entries l D ca  _ ((g_RmCount g).2 (v1).toNatClampNeg) q7 hq7) g_RRef_116 yo_RRef_entries ⟨Nat.le_of_ble_eq_true rfl, Nat.le_of_ble_eq_true rfl⟩ hl hP hD [] rfl rfl hS hA rfl rfl (Nat.le_of_ble_eq_true rfl) ⟨Nat.zero_le _, Nat.zero_le _⟩ d_RRef_marksUsed_119 (fun H locs hP hS => ?_)
      refine lv_icmp_gt (tgt := 145) hx hb d_RRef_marksUsed_122 (by decide) (fun c8 => ?_) (fun c8 => ?_)
      · replace hm := ip c8 hm
        exact hk g v1 _ hm _ _ hP hD hS ls (lv_sub hl [0, 1] rfl)
      · replace hm := ineg c8 hm
        refine lv_aload_n hx hb d_RRef_marksUsed_125 rfl (lv_at hl 0 rfl) ?_
        refine va_get (D := D) (ci := 6) (v := .ref (ad 16)) (C := R_RRef) (T := F_RRef) (N := 29) hx hb hts i_RRef hown hK hP 0 rfl rfl 25 (by decide) (hts _ wf_RRef_65) (fun _ h9 => h9) rfl d_RRef_marksUsed_126 ?_
        refine lv_aload_n hx hb d_RRef_marksUsed_129 rfl (lv_at hl 0 rfl) ?_
        refine va_get (D := D) (ci := 6) (v := .ref (ad 9)) (C := R_RRef) (T := F_RRef) (N := 29) hx hb hts i_RRef hown hK hP 0 rfl rfl 14 (by decide) (hts _ wf_RRef_44) (fun _ h9 => h9) rfl d_RRef_marksUsed_130 ?_
        refine lv_iload_n hx hb d_RRef_marksUsed_133 rfl (lv_at hl 1 rfl) ?_
        obtain ⟨b9, hm⟩ := on hm
        refine va_iald hx hb hK hP 9 2 rfl rfl b9 d_RRef_marksUsed_134 ?_
        refine lv_iload_n hx hb d_RRef_marksUsed_135 rfl (lv_at hl 2 rfl) ?_
        refine lv_iadd hx hb d_RRef_marksUsed_136 ?_
        refine lv_iconst (v := 1) hx hb d_RRef_marksUsed_137 (by decide) ?_
        obtain ⟨b10, hm⟩ := on hm
        refine va_zast hx hb hK hP hD hS 16 1 rfl rfl b10 d_RRef_marksUsed_138 (fun H locs hP hD hS => ?_)
        replace hP : va_P D classes (wl_Ref ca ad (s_Rused g ((g_Rused g).1, upd (g_Rused g).2 ((((g_RmRow g).2 (v1).toNatClampNeg) + v2)).toNatClampNeg (vp_nar .boolean 1)))) H := hP
        replace hD : va_D A (wl_Ref ca ad (s_Rused g ((g_Rused g).1, upd (g_Rused g).2 ((((g_RmRow g).2 (v1).toNatClampNeg) + v2)).toNatClampNeg (vp_nar .boolean 1)))) := hD
        refine lv_iinc (v := (v2 + 1)) (lv' := [(2, .int (v2 + 1)), (0, .ref (ad 0)), (1, .int v1)]) hx hb d_RRef_marksUsed_139 hl (k := 2) rfl rfl (by decide) rfl (fun ls hl => ?_)
        refine lv_goto (tgt := 102) hx hb d_RRef_marksUsed_142 (by decide) ?_
        exact ih (s_Rused g ((g_Rused g).1, upd (g_Rused g).2 ((((g_RmRow g).2 (v1).toNatClampNeg) + v2)).toNatClampNeg (vp_nar .boolean 1))) v1 (v2 + 1) _ hm _ _ hP hD hS ls (lv_sub hl [1, 2, 0] rfl)
set_option maxHeartbeats 4000000 in
set_option maxRecDepth 100000 in
theorem k_m_RRef_marksUsed_L92 {p : Program} {l : Launch} {e : Env} {s : State} {m : MethodId} {args : Array Value} {below : List Frame} {meth : Method} {c : Code} {D : va_G} {ca : Nat → ClassId} {ad : Nat → Nat} {A : Nat → Prop} (X : Cx p s m args meth c R_RRef b_RRef_marksUsed 3 none D ca) (hA : ∀ q, s.heap.size ≤ q → A q)  : ∀ (n : Nat) (g : St_Ref) (v1 : Int32) (res : St_Ref), m_RRef_marksUsed_L92  n g v1 = some res → ∀ (H : Heap) (locs : List Loc), va_P D classes (wl_Ref ca ad g) H → va_D A (wl_Ref ca ad g) → va_S A s.heap H locs → ∀ ls : Array Slot, lv_has ls 3 [(0, .ref (ad 0)), (1, .int v1)] → W p l e (RM 1 20) s m args below meth c H locs 0 0 (MQ below (QRm D none (wl_Ref ca ad res) A) args s 0 0 A) (F0 m 92 ls []) := by
  obtain ⟨hx, hb, hml, hr, hown, hts, hK, hlocks⟩ := id X
  intro n
  induction n with
  | zero =>
    intro g v1 res hm
    rw [m_RRef_marksUsed_L92] at hm
    cases hm
  | succ n ih =>
    intro g v1 res hm H locs hP hD hS ls hl
    rw [m_RRef_marksUsed_L92] at hm
    refine lv_iload_n hx hb d_RRef_marksUsed_92 rfl (lv_at hl 1 rfl) ?_
    refine lv_aload_n hx hb d_RRef_marksUsed_93 rfl (lv_at hl 0 rfl) ?_
    refine va_get (D := D) (ci := 6) (v := .int (g_Rmarks g)) (C := R_RRef) (T := F_RRef) (N := 29) hx hb hts i_RRef hown hK hP 0 rfl rfl 20 (by decide) (hts _ wf_RRef_109) (fun _ h9 => h9) rfl d_RRef_marksUsed_94 ?_
    refine lv_icmp_ge (tgt := 151) hx hb d_RRef_marksUsed_97 (by decide) (fun c3 => ?_) (fun c3 => ?_)
    · replace hm := ip c3 hm
      cases hm
      exact ret_mv X hP hS d_RRef_marksUsed_151
    · replace hm := ineg c3 hm
      refine lv_iconst (v := 0) hx hb d_RRef_marksUsed_100 (by decide) ?_
      refine lv_istore_n (lv' := [(2, .int 0), (0, .ref (ad 0)), (1, .int v1)]) hx hb d_RRef_marksUsed_101 rfl hl (by decide) rfl (fun ls hl => ?_)
      refine k_m_RRef_marksUsed_L102 X hA (k := (fun (g11 : St_Ref) (v1_12 : Int32) => m_RRef_marksUsed_L92 n g11 (v1_12 + 1))) (fun g11 v1_12 res hm H locs hP hD hS ls hl => ?_) FU g v1 0 _ hm _ _ hP hD hS ls (lv_sub hl [1, 2, 0] rfl)
      · have hm := hm
        refine lv_iinc (v := (v1_12 + 1)) (lv' := [(1, .int (v1_12 + 1)), (0, .ref (ad 0))]) hx hb d_RRef_marksUsed_145 hl (k := 1) rfl rfl (by decide) rfl (fun ls hl => ?_)
        refine lv_goto (tgt := 92) hx hb d_RRef_marksUsed_148 (by decide) ?_
        exact ih g11 (v1_12 + 1) _ hm _ _ hP hD hS ls (lv_sub hl [1, 0] rfl)
set_option maxHeartbeats 4000000 in
set_option maxRecDepth 100000 in
theorem k_m_RRef_marksUsed_L51 {p : Program} {l : Launch} {e : Env} {s : State} {m : MethodId} {args : Array Value} {below : List Frame} {meth : Method} {c : Code} {D : va_G} {ca : Nat → ClassId} {ad : Nat → Nat} {A : Nat → Prop} (X : Cx p s m args meth c R_RRef b_RRef_marksUsed 3 none D ca) (hA : ∀ q, s.heap.size ≤ q → A q)  {k : St_Ref → Int32 → Option (St_Ref)} (hk : ∀ (g9 : St_Ref) (w1 : Int32) (res : St_Ref), k g9 w1 = some res → ∀ (H : Heap) (locs : List Loc), va_P D classes (wl_Ref ca ad g9) H → va_D A (wl_Ref ca ad g9) → va_S A s.heap H locs → ∀ ls : Array Slot, lv_has ls 3 [(0, .ref (ad 0)), (1, .int w1)] → W p l e (RM 1 20) s m args below meth c H locs 0 0 (MQ below (QRm D none (wl_Ref ca ad res) A) args s 0 0 A) (F0 m 84 ls [])) : ∀ (n : Nat) (g : St_Ref) (v1 : Int32) (v2 : Int32) (res : St_Ref), m_RRef_marksUsed_L51  k n g v1 v2 = some res → ∀ (H : Heap) (locs : List Loc), va_P D classes (wl_Ref ca ad g) H → va_D A (wl_Ref ca ad g) → va_S A s.heap H locs → ∀ ls : Array Slot, lv_has ls 3 [(0, .ref (ad 0)), (1, .int v1), (2, .int v2)] → W p l e (RM 1 20) s m args below meth c H locs 0 0 (MQ below (QRm D none (wl_Ref ca ad res) A) args s 0 0 A) (F0 m 51 ls []) := by
  obtain ⟨hx, hb, hml, hr, hown, hts, hK, hlocks⟩ := id X
  intro n
  induction n with
  | zero =>
    intro g v1 v2 res hm
    rw [m_RRef_marksUsed_L51] at hm
    cases hm
  | succ n ih =>
    intro g v1 v2 res hm H locs hP hD hS ls hl
    rw [m_RRef_marksUsed_L51] at hm
    refine lv_iload_n hx hb d_RRef_marksUsed_51 rfl (lv_at hl 2 rfl) ?_
    refine lv_aload_n hx hb d_RRef_marksUsed_52 rfl (lv_at hl 0 rfl) ?_
    refine va_get (D := D) (ci := 6) (v := .ref (ad 6)) (C := R_RRef) (T := F_RRef) (N := 29) hx hb hts i_RRef hown hK hP 0 rfl rfl 10 (by decide) (hts _ wf_RRef_35) (fun _ h9 => h9) rfl d_RRef_marksUsed_53 ?_
    refine lv_iload_n hx hb d_RRef_marksUsed_56 rfl (lv_at hl 1 rfl) ?_
    obtain ⟨b13, hm⟩ := on hm
    refine va_iald hx hb hK hP 6 2 rfl rfl b13 d_RRef_marksUsed_57 ?_
    obtain ⟨q14, hq14, hm⟩ := ob hm
    refine inv_rS (As := [.int ((g_RpLength g).2 (v1).toNatClampNeg)]) (rest := [.int v2]) (v := .int q14) X (c_RRef_bodies l D ca  _ ((g_RpLength g).2 (v1).toNatClampNeg) q14 hq14) g_RRef_112 yo_RRef_bodies ⟨Nat.le_of_ble_eq_true rfl, Nat.le_of_ble_eq_true rfl⟩ hl hP hD [] rfl rfl hS hA rfl rfl (Nat.le_of_ble_eq_true rfl) ⟨Nat.zero_le _, Nat.zero_le _⟩ d_RRef_marksUsed_58 (fun H locs hP hS => ?_)
    refine lv_icmp_gt (tgt := 84) hx hb d_RRef_marksUsed_61 (by decide) (fun c15 => ?_) (fun c15 => ?_)
    · replace hm := ip c15 hm
      exact hk g v1 _ hm _ _ hP hD hS ls (lv_sub hl [0, 1] rfl)
    · replace hm := ineg c15 hm
      refine lv_aload_n hx hb d_RRef_marksUsed_64 rfl (lv_at hl 0 rfl) ?_
      refine va_get (D := D) (ci := 6) (v := .ref (ad 16)) (C := R_RRef) (T := F_RRef) (N := 29) hx hb hts i_RRef hown hK hP 0 rfl rfl 25 (by decide) (hts _ wf_RRef_65) (fun _ h9 => h9) rfl d_RRef_marksUsed_65 ?_
      refine lv_aload_n hx hb d_RRef_marksUsed_68 rfl (lv_at hl 0 rfl) ?_
      refine va_get (D := D) (ci := 6) (v := .ref (ad 7)) (C := R_RRef) (T := F_RRef) (N := 29) hx hb hts i_RRef hown hK hP 0 rfl rfl 11 (by decide) (hts _ wf_RRef_38) (fun _ h9 => h9) rfl d_RRef_marksUsed_69 ?_
      refine lv_iload_n hx hb d_RRef_marksUsed_72 rfl (lv_at hl 1 rfl) ?_
      obtain ⟨b16, hm⟩ := on hm
      refine va_iald hx hb hK hP 7 2 rfl rfl b16 d_RRef_marksUsed_73 ?_
      refine lv_iload_n hx hb d_RRef_marksUsed_74 rfl (lv_at hl 2 rfl) ?_
      refine lv_iadd hx hb d_RRef_marksUsed_75 ?_
      refine lv_iconst (v := 1) hx hb d_RRef_marksUsed_76 (by decide) ?_
      obtain ⟨b17, hm⟩ := on hm
      refine va_zast hx hb hK hP hD hS 16 1 rfl rfl b17 d_RRef_marksUsed_77 (fun H locs hP hD hS => ?_)
      replace hP : va_P D classes (wl_Ref ca ad (s_Rused g ((g_Rused g).1, upd (g_Rused g).2 ((((g_RpRow g).2 (v1).toNatClampNeg) + v2)).toNatClampNeg (vp_nar .boolean 1)))) H := hP
      replace hD : va_D A (wl_Ref ca ad (s_Rused g ((g_Rused g).1, upd (g_Rused g).2 ((((g_RpRow g).2 (v1).toNatClampNeg) + v2)).toNatClampNeg (vp_nar .boolean 1)))) := hD
      refine lv_iinc (v := (v2 + 1)) (lv' := [(2, .int (v2 + 1)), (0, .ref (ad 0)), (1, .int v1)]) hx hb d_RRef_marksUsed_78 hl (k := 2) rfl rfl (by decide) rfl (fun ls hl => ?_)
      refine lv_goto (tgt := 51) hx hb d_RRef_marksUsed_81 (by decide) ?_
      exact ih (s_Rused g ((g_Rused g).1, upd (g_Rused g).2 ((((g_RpRow g).2 (v1).toNatClampNeg) + v2)).toNatClampNeg (vp_nar .boolean 1))) v1 (v2 + 1) _ hm _ _ hP hD hS ls (lv_sub hl [1, 2, 0] rfl)
set_option maxHeartbeats 4000000 in
set_option maxRecDepth 100000 in
theorem k_m_RRef_marksUsed_L41 {p : Program} {l : Launch} {e : Env} {s : State} {m : MethodId} {args : Array Value} {below : List Frame} {meth : Method} {c : Code} {D : va_G} {ca : Nat → ClassId} {ad : Nat → Nat} {A : Nat → Prop} (X : Cx p s m args meth c R_RRef b_RRef_marksUsed 3 none D ca) (hA : ∀ q, s.heap.size ≤ q → A q)  : ∀ (n : Nat) (g : St_Ref) (v1 : Int32) (res : St_Ref), m_RRef_marksUsed_L41  n g v1 = some res → ∀ (H : Heap) (locs : List Loc), va_P D classes (wl_Ref ca ad g) H → va_D A (wl_Ref ca ad g) → va_S A s.heap H locs → ∀ ls : Array Slot, lv_has ls 3 [(0, .ref (ad 0)), (1, .int v1)] → W p l e (RM 1 20) s m args below meth c H locs 0 0 (MQ below (QRm D none (wl_Ref ca ad res) A) args s 0 0 A) (F0 m 41 ls []) := by
  obtain ⟨hx, hb, hml, hr, hown, hts, hK, hlocks⟩ := id X
  intro n
  induction n with
  | zero =>
    intro g v1 res hm
    rw [m_RRef_marksUsed_L41] at hm
    cases hm
  | succ n ih =>
    intro g v1 res hm H locs hP hD hS ls hl
    rw [m_RRef_marksUsed_L41] at hm
    refine lv_iload_n hx hb d_RRef_marksUsed_41 rfl (lv_at hl 1 rfl) ?_
    refine lv_aload_n hx hb d_RRef_marksUsed_42 rfl (lv_at hl 0 rfl) ?_
    refine va_get (D := D) (ci := 6) (v := .int (g_Rparts g)) (C := R_RRef) (T := F_RRef) (N := 29) hx hb hts i_RRef hown hK hP 0 rfl rfl 12 (by decide) (hts _ wf_RRef_106) (fun _ h9 => h9) rfl d_RRef_marksUsed_43 ?_
    refine lv_icmp_ge (tgt := 90) hx hb d_RRef_marksUsed_46 (by decide) (fun c2 => ?_) (fun c2 => ?_)
    · replace hm := ip c2 hm
      refine lv_iconst (v := 0) hx hb d_RRef_marksUsed_90 (by decide) ?_
      refine lv_istore_n (lv' := [(1, .int 0), (0, .ref (ad 0))]) hx hb d_RRef_marksUsed_91 rfl hl (by decide) rfl (fun ls hl => ?_)
      exact k_m_RRef_marksUsed_L92 X hA FU g 0 _ hm _ _ hP hD hS ls (lv_sub hl [1, 0] rfl)
    · replace hm := ineg c2 hm
      refine lv_iconst (v := 0) hx hb d_RRef_marksUsed_49 (by decide) ?_
      refine lv_istore_n (lv' := [(2, .int 0), (0, .ref (ad 0)), (1, .int v1)]) hx hb d_RRef_marksUsed_50 rfl hl (by decide) rfl (fun ls hl => ?_)
      refine k_m_RRef_marksUsed_L51 X hA (k := (fun (g18 : St_Ref) (v1_19 : Int32) => m_RRef_marksUsed_L41 n g18 (v1_19 + 1))) (fun g18 v1_19 res hm H locs hP hD hS ls hl => ?_) FU g v1 0 _ hm _ _ hP hD hS ls (lv_sub hl [1, 2, 0] rfl)
      · have hm := hm
        refine lv_iinc (v := (v1_19 + 1)) (lv' := [(1, .int (v1_19 + 1)), (0, .ref (ad 0))]) hx hb d_RRef_marksUsed_84 hl (k := 1) rfl rfl (by decide) rfl (fun ls hl => ?_)
        refine lv_goto (tgt := 41) hx hb d_RRef_marksUsed_87 (by decide) ?_
        exact ih g18 (v1_19 + 1) _ hm _ _ hP hD hS ls (lv_sub hl [1, 0] rfl)
set_option maxHeartbeats 4000000 in
set_option maxRecDepth 100000 in
theorem k_m_RRef_marksUsed_L2 {p : Program} {l : Launch} {e : Env} {s : State} {m : MethodId} {args : Array Value} {below : List Frame} {meth : Method} {c : Code} {D : va_G} {ca : Nat → ClassId} {ad : Nat → Nat} {A : Nat → Prop} (X : Cx p s m args meth c R_RRef b_RRef_marksUsed 3 none D ca) (hA : ∀ q, s.heap.size ≤ q → A q)  : ∀ (n : Nat) (g : St_Ref) (v1 : Int32) (res : St_Ref), m_RRef_marksUsed_L2  n g v1 = some res → ∀ (H : Heap) (locs : List Loc), va_P D classes (wl_Ref ca ad g) H → va_D A (wl_Ref ca ad g) → va_S A s.heap H locs → ∀ ls : Array Slot, lv_has ls 3 [(0, .ref (ad 0)), (1, .int v1)] → W p l e (RM 1 20) s m args below meth c H locs 0 0 (MQ below (QRm D none (wl_Ref ca ad res) A) args s 0 0 A) (F0 m 2 ls []) := by
  obtain ⟨hx, hb, hml, hr, hown, hts, hK, hlocks⟩ := id X
  intro n
  induction n with
  | zero =>
    intro g v1 res hm
    rw [m_RRef_marksUsed_L2] at hm
    cases hm
  | succ n ih =>
    intro g v1 res hm H locs hP hD hS ls hl
    rw [m_RRef_marksUsed_L2] at hm
    refine lv_iload_n hx hb d_RRef_marksUsed_2 rfl (lv_at hl 1 rfl) ?_
    refine lv_sipush (v := 512) hx hb d_RRef_marksUsed_3 (by decide) ?_
    refine lv_icmp_ge (tgt := 39) hx hb d_RRef_marksUsed_6 (by decide) (fun c1 => ?_) (fun c1 => ?_)
    · replace hm := ip c1 hm
      refine lv_iconst (v := 0) hx hb d_RRef_marksUsed_39 (by decide) ?_
      refine lv_istore_n (lv' := [(1, .int 0), (0, .ref (ad 0))]) hx hb d_RRef_marksUsed_40 rfl hl (by decide) rfl (fun ls hl => ?_)
      exact k_m_RRef_marksUsed_L41 X hA FU g 0 _ hm _ _ hP hD hS ls (lv_sub hl [1, 0] rfl)
    · replace hm := ineg c1 hm
      refine lv_aload_n hx hb d_RRef_marksUsed_9 rfl (lv_at hl 0 rfl) ?_
      refine va_get (D := D) (ci := 6) (v := .ref (ad 16)) (C := R_RRef) (T := F_RRef) (N := 29) hx hb hts i_RRef hown hK hP 0 rfl rfl 25 (by decide) (hts _ wf_RRef_65) (fun _ h9 => h9) rfl d_RRef_marksUsed_10 ?_
      refine lv_iload_n hx hb d_RRef_marksUsed_13 rfl (lv_at hl 1 rfl) ?_
      refine lv_iload_n hx hb d_RRef_marksUsed_14 rfl (lv_at hl 1 rfl) ?_
      refine lv_iconst (v := 2) hx hb d_RRef_marksUsed_15 (by decide) ?_
      refine lv_icmp_lt (tgt := 27) hx hb d_RRef_marksUsed_16 (by decide) (fun c20 => ?_) (fun c20 => ?_)
      · replace hm := ip c20 hm
        refine lv_iconst (v := 1) hx hb d_RRef_marksUsed_27 (by decide) ?_
        refine lv_goto (tgt := 32) hx hb d_RRef_marksUsed_28 (by decide) ?_
        obtain ⟨b21, hm⟩ := on hm
        refine va_zast hx hb hK hP hD hS 16 1 rfl rfl b21 d_RRef_marksUsed_32 (fun H locs hP hD hS => ?_)
        replace hP : va_P D classes (wl_Ref ca ad (s_Rused g ((g_Rused g).1, upd (g_Rused g).2 (v1).toNatClampNeg (vp_nar .boolean 1)))) H := hP
        replace hD : va_D A (wl_Ref ca ad (s_Rused g ((g_Rused g).1, upd (g_Rused g).2 (v1).toNatClampNeg (vp_nar .boolean 1)))) := hD
        refine lv_iinc (v := (v1 + 1)) (lv' := [(1, .int (v1 + 1)), (0, .ref (ad 0))]) hx hb d_RRef_marksUsed_33 hl (k := 1) rfl rfl (by decide) rfl (fun ls hl => ?_)
        refine lv_goto (tgt := 2) hx hb d_RRef_marksUsed_36 (by decide) ?_
        exact ih (s_Rused g ((g_Rused g).1, upd (g_Rused g).2 (v1).toNatClampNeg (vp_nar .boolean 1))) (v1 + 1) _ hm _ _ hP hD hS ls (lv_sub hl [1, 0] rfl)
      · replace hm := ineg c20 hm
        refine lv_iload_n hx hb d_RRef_marksUsed_19 rfl (lv_at hl 1 rfl) ?_
        refine lv_aload_n hx hb d_RRef_marksUsed_20 rfl (lv_at hl 0 rfl) ?_
        refine va_get (D := D) (ci := 6) (v := .int (g_Rrows g)) (C := R_RRef) (T := F_RRef) (N := 29) hx hb hts i_RRef hown hK hP 0 rfl rfl 1 (by decide) (hts _ wf_RRef_78) (fun _ h9 => h9) rfl d_RRef_marksUsed_21 ?_
        refine lv_icmp_lt (tgt := 31) hx hb d_RRef_marksUsed_24 (by decide) (fun c22 => ?_) (fun c22 => ?_)
        · replace hm := ip c22 hm
          refine lv_iconst (v := 0) hx hb d_RRef_marksUsed_31 (by decide) ?_
          obtain ⟨b23, hm⟩ := on hm
          refine va_zast hx hb hK hP hD hS 16 1 rfl rfl b23 d_RRef_marksUsed_32 (fun H locs hP hD hS => ?_)
          replace hP : va_P D classes (wl_Ref ca ad (s_Rused g ((g_Rused g).1, upd (g_Rused g).2 (v1).toNatClampNeg (vp_nar .boolean 0)))) H := hP
          replace hD : va_D A (wl_Ref ca ad (s_Rused g ((g_Rused g).1, upd (g_Rused g).2 (v1).toNatClampNeg (vp_nar .boolean 0)))) := hD
          refine lv_iinc (v := (v1 + 1)) (lv' := [(1, .int (v1 + 1)), (0, .ref (ad 0))]) hx hb d_RRef_marksUsed_33 hl (k := 1) rfl rfl (by decide) rfl (fun ls hl => ?_)
          refine lv_goto (tgt := 2) hx hb d_RRef_marksUsed_36 (by decide) ?_
          exact ih (s_Rused g ((g_Rused g).1, upd (g_Rused g).2 (v1).toNatClampNeg (vp_nar .boolean 0))) (v1 + 1) _ hm _ _ hP hD hS ls (lv_sub hl [1, 0] rfl)
        · replace hm := ineg c22 hm
          refine lv_iconst (v := 1) hx hb d_RRef_marksUsed_27 (by decide) ?_
          refine lv_goto (tgt := 32) hx hb d_RRef_marksUsed_28 (by decide) ?_
          obtain ⟨b24, hm⟩ := on hm
          refine va_zast hx hb hK hP hD hS 16 1 rfl rfl b24 d_RRef_marksUsed_32 (fun H locs hP hD hS => ?_)
          replace hP : va_P D classes (wl_Ref ca ad (s_Rused g ((g_Rused g).1, upd (g_Rused g).2 (v1).toNatClampNeg (vp_nar .boolean 1)))) H := hP
          replace hD : va_D A (wl_Ref ca ad (s_Rused g ((g_Rused g).1, upd (g_Rused g).2 (v1).toNatClampNeg (vp_nar .boolean 1)))) := hD
          refine lv_iinc (v := (v1 + 1)) (lv' := [(1, .int (v1 + 1)), (0, .ref (ad 0))]) hx hb d_RRef_marksUsed_33 hl (k := 1) rfl rfl (by decide) rfl (fun ls hl => ?_)
          refine lv_goto (tgt := 2) hx hb d_RRef_marksUsed_36 (by decide) ?_
          exact ih (s_Rused g ((g_Rused g).1, upd (g_Rused g).2 (v1).toNatClampNeg (vp_nar .boolean 1))) (v1 + 1) _ hm _ _ hP hD hS ls (lv_sub hl [1, 0] rfl)
set_option maxHeartbeats 4000000 in
set_option maxRecDepth 100000 in
theorem c_RRef_marksUsed (l : Launch) (D : va_G) (ca : Nat → ClassId) (ad : Nat → Nat) (sz : Nat) (g : St_Ref)  (res : St_Ref) (hm : m_RRef_marksUsed g = some res) : Met l y_RRef_marksUsed (cws y_RRef_marksUsed b_RRef_marksUsed 3 none) (RM 1 20) (PreW D ca (wl_Ref ca ad g) [.ref (ad 0)] sz) (QRm D none (wl_Ref ca ad res) (va_A (wl_Ref ca ad g) sz)) 0 0 (va_A (wl_Ref ca ad g) sz) := by
  refine met_ofM (own := R_RRef) (by decide) rfl (Nat.le_of_ble_eq_true rfl) ?_
  intro p e s m below meth c A X hA hP hD ls hl
  obtain ⟨hx, hb, hml, hr, hown, hts, hK, hlocks⟩ := id X
  have hS : va_S A s.heap s.heap [] := va_S.rf
  have hl : lv_has ls 3 [(0, .ref (ad 0))] := hl
  unfold m_RRef_marksUsed at hm
  refine lv_iconst (v := 0) hx hb d_RRef_marksUsed_0 (by decide) ?_
  refine lv_istore_n (lv' := [(1, .int 0), (0, .ref (ad 0))]) hx hb d_RRef_marksUsed_1 rfl hl (by decide) rfl (fun ls hl => ?_)
  exact k_m_RRef_marksUsed_L2 X hA FU g 0 _ hm _ _ hP hD hS ls (lv_sub hl [1, 0] rfl)
set_option maxHeartbeats 4000000 in
set_option maxRecDepth 100000 in
theorem k_m_RRef_room_L4 {p : Program} {l : Launch} {e : Env} {s : State} {m : MethodId} {args : Array Value} {below : List Frame} {meth : Method} {c : Code} {D : va_G} {ca : Nat → ClassId} {ad : Nat → Nat} {A : Nat → Prop} (X : Cx p s m args meth c R_RRef b_RRef_room 4 (some .int) D ca) (hA : ∀ q, s.heap.size ≤ q → A q) {g : St_Ref} : ∀ (n : Nat) (v1 : Int32) (v2 : Int32) (v3 : Int32) (res : Int32), m_RRef_room_L4 g n v1 v2 v3 = some res → ∀ (H : Heap) (locs : List Loc), va_P D classes (wl_Ref ca ad g) H → va_D (fun _ => True) (wl_Ref ca ad g) → va_S A s.heap H locs → ∀ ls : Array Slot, lv_has ls 4 [(0, .ref (ad 0)), (1, .int v1), (2, .int v2), (3, .int v3)] → W p l e (RM 0 0) s m args below meth c H locs 0 0 (MQ below (QRr (.int res) A) args s 0 0 A) (F0 m 4 ls []) := by
  obtain ⟨hx, hb, hml, hr, hown, hts, hK, hlocks⟩ := id X
  intro n
  induction n with
  | zero =>
    intro v1 v2 v3 res hm
    rw [m_RRef_room_L4] at hm
    cases hm
  | succ n ih =>
    intro v1 v2 v3 res hm H locs hP hD hS ls hl
    rw [m_RRef_room_L4] at hm
    refine lv_iload_n hx hb d_RRef_room_4 rfl (lv_at hl 3 rfl) ?_
    refine lv_aload_n hx hb d_RRef_room_5 rfl (lv_at hl 0 rfl) ?_
    refine va_get (D := D) (ci := 6) (v := .int (g_Rrows g)) (C := R_RRef) (T := F_RRef) (N := 29) hx hb hts i_RRef hown hK hP 0 rfl rfl 1 (by decide) (hts _ wf_RRef_78) (fun _ h9 => h9) rfl d_RRef_room_6 ?_
    refine lv_icmp_ge (tgt := 46) hx hb d_RRef_room_9 (by decide) (fun c1 => ?_) (fun c1 => ?_)
    · replace hm := ip c1 hm
      refine lv_iconst (v := (-1)) hx hb d_RRef_room_46 (by decide) ?_
      cases hm
      exact ret_ri X hS d_RRef_room_47
    · replace hm := ineg c1 hm
      refine lv_aload_n hx hb d_RRef_room_12 rfl (lv_at hl 0 rfl) ?_
      refine va_get (D := D) (ci := 6) (v := .ref (ad 16)) (C := R_RRef) (T := F_RRef) (N := 29) hx hb hts i_RRef hown hK hP 0 rfl rfl 25 (by decide) (hts _ wf_RRef_65) (fun _ h9 => h9) rfl d_RRef_room_13 ?_
      refine lv_iload_n hx hb d_RRef_room_16 rfl (lv_at hl 3 rfl) ?_
      obtain ⟨b2, hm⟩ := on hm
      refine va_zald hx hb hK hP 16 1 rfl rfl b2 d_RRef_room_17 ?_
      refine lv_if_eq (tgt := 25) hx hb d_RRef_room_18 (by decide) (fun c3 => ?_) (fun c3 => ?_)
      · replace hm := ip c3 hm
        refine lv_iload_n hx hb d_RRef_room_25 rfl (lv_at hl 2 rfl) ?_
        refine lv_iconst (v := 1) hx hb d_RRef_room_26 (by decide) ?_
        refine lv_iadd hx hb d_RRef_room_27 ?_
        refine lv_istore_n (lv' := [(2, .int (v2 + 1)), (0, .ref (ad 0)), (1, .int v1), (3, .int v3)]) hx hb d_RRef_room_28 rfl hl (by decide) rfl (fun ls hl => ?_)
        refine lv_iload_n hx hb d_RRef_room_29 rfl (lv_at hl 0 rfl) ?_
        refine lv_iload_n hx hb d_RRef_room_30 rfl (lv_at hl 2 rfl) ?_
        refine lv_icmp_ne (tgt := 40) hx hb d_RRef_room_31 (by decide) (fun c4 => ?_) (fun c4 => ?_)
        · replace hm := ineg c4 hm
          refine lv_iinc (v := (v3 + 1)) (lv' := [(3, .int (v3 + 1)), (2, .int (v2 + 1)), (0, .ref (ad 0)), (1, .int v1)]) hx hb d_RRef_room_40 hl (k := 3) rfl rfl (by decide) rfl (fun ls hl => ?_)
          refine lv_goto (tgt := 4) hx hb d_RRef_room_43 (by decide) ?_
          exact ih  v1 (v2 + 1) (v3 + 1) _ hm _ _ hP hD hS ls (lv_sub hl [2, 3, 1, 0] rfl)
        · replace hm := ip c4 hm
          refine lv_iload_n hx hb d_RRef_room_34 rfl (lv_at hl 3 rfl) ?_
          refine lv_iload_n hx hb d_RRef_room_35 rfl (lv_at hl 2 rfl) ?_
          refine lv_isub hx hb d_RRef_room_36 ?_
          refine lv_iconst (v := 1) hx hb d_RRef_room_37 (by decide) ?_
          refine lv_iadd hx hb d_RRef_room_38 ?_
          cases hm
          exact ret_ri X hS d_RRef_room_39
      · replace hm := ineg c3 hm
        refine lv_iconst (v := 0) hx hb d_RRef_room_21 (by decide) ?_
        refine lv_goto (tgt := 28) hx hb d_RRef_room_22 (by decide) ?_
        refine lv_istore_n (lv' := [(2, .int 0), (0, .ref (ad 0)), (1, .int v1), (3, .int v3)]) hx hb d_RRef_room_28 rfl hl (by decide) rfl (fun ls hl => ?_)
        refine lv_iload_n hx hb d_RRef_room_29 rfl (lv_at hl 0 rfl) ?_
        refine lv_iload_n hx hb d_RRef_room_30 rfl (lv_at hl 2 rfl) ?_
        refine lv_icmp_ne (tgt := 40) hx hb d_RRef_room_31 (by decide) (fun c5 => ?_) (fun c5 => ?_)
        · replace hm := ineg c5 hm
          refine lv_iinc (v := (v3 + 1)) (lv' := [(3, .int (v3 + 1)), (2, .int 0), (0, .ref (ad 0)), (1, .int v1)]) hx hb d_RRef_room_40 hl (k := 3) rfl rfl (by decide) rfl (fun ls hl => ?_)
          refine lv_goto (tgt := 4) hx hb d_RRef_room_43 (by decide) ?_
          exact ih  v1 0 (v3 + 1) _ hm _ _ hP hD hS ls (lv_sub hl [2, 3, 1, 0] rfl)
        · replace hm := ip c5 hm
          refine lv_iload_n hx hb d_RRef_room_34 rfl (lv_at hl 3 rfl) ?_
          refine lv_iload_n hx hb d_RRef_room_35 rfl (lv_at hl 2 rfl) ?_
          refine lv_isub hx hb d_RRef_room_36 ?_
          refine lv_iconst (v := 1) hx hb d_RRef_room_37 (by decide) ?_
          refine lv_iadd hx hb d_RRef_room_38 ?_
          cases hm
          exact ret_ri X hS d_RRef_room_39
set_option maxHeartbeats 4000000 in
set_option maxRecDepth 100000 in
theorem c_RRef_room (l : Launch) (D : va_G) (ca : Nat → ClassId) (ad : Nat → Nat) (sz : Nat) (g : St_Ref) (p1 : Int32) (res : Int32) (hm : m_RRef_room g p1 = some res) : Met l y_RRef_room (cws y_RRef_room b_RRef_room 4 (some .int)) (RM 0 0) (PreW D ca (wl_Ref ca ad g) [.ref (ad 0), .int p1] sz) (QRr (.int res) (va_A [] sz)) 0 0 (va_A [] sz) := by
  refine met_ofR (own := R_RRef) (by decide) rfl (Nat.le_of_ble_eq_true rfl) ?_
  intro p e s m below meth c A X hA hP hD ls hl
  obtain ⟨hx, hb, hml, hr, hown, hts, hK, hlocks⟩ := id X
  have hS : va_S A s.heap s.heap [] := va_S.rf
  have hl : lv_has ls 4 [(0, .ref (ad 0)), (1, .int p1)] := hl
  unfold m_RRef_room at hm
  refine lv_iconst (v := 0) hx hb d_RRef_room_0 (by decide) ?_
  refine lv_istore_n (lv' := [(2, .int 0), (0, .ref (ad 0)), (1, .int p1)]) hx hb d_RRef_room_1 rfl hl (by decide) rfl (fun ls hl => ?_)
  refine lv_iconst (v := 2) hx hb d_RRef_room_2 (by decide) ?_
  refine lv_istore_n (lv' := [(3, .int 2), (2, .int 0), (0, .ref (ad 0)), (1, .int p1)]) hx hb d_RRef_room_3 rfl hl (by decide) rfl (fun ls hl => ?_)
  exact k_m_RRef_room_L4 X hA FU  p1 0 2 _ hm _ _ hP hD hS ls (lv_sub hl [2, 3, 1, 0] rfl)
set_option maxHeartbeats 4000000 in
set_option maxRecDepth 100000 in
theorem k_m_RRef_clearDraft_L2 {p : Program} {l : Launch} {e : Env} {s : State} {m : MethodId} {args : Array Value} {below : List Frame} {meth : Method} {c : Code} {D : va_G} {ca : Nat → ClassId} {ad : Nat → Nat} {A : Nat → Prop} (X : Cx p s m args meth c R_RRef b_RRef_clearDraft 2 none D ca) (hA : ∀ q, s.heap.size ≤ q → A q)  : ∀ (n : Nat) (g : St_Ref) (v1 : Int32) (res : St_Ref), m_RRef_clearDraft_L2  n g v1 = some res → ∀ (H : Heap) (locs : List Loc), va_P D classes (wl_Ref ca ad g) H → va_D A (wl_Ref ca ad g) → va_S A s.heap H locs → ∀ ls : Array Slot, lv_has ls 2 [(0, .ref (ad 0)), (1, .int v1)] → W p l e (RM 0 0) s m args below meth c H locs 0 0 (MQ below (QRm D none (wl_Ref ca ad res) A) args s 0 0 A) (F0 m 2 ls []) := by
  obtain ⟨hx, hb, hml, hr, hown, hts, hK, hlocks⟩ := id X
  intro n
  induction n with
  | zero =>
    intro g v1 res hm
    rw [m_RRef_clearDraft_L2] at hm
    cases hm
  | succ n ih =>
    intro g v1 res hm H locs hP hD hS ls hl
    rw [m_RRef_clearDraft_L2] at hm
    refine lv_iload_n hx hb d_RRef_clearDraft_2 rfl (lv_at hl 1 rfl) ?_
    refine lv_sipush (v := 256) hx hb d_RRef_clearDraft_3 (by decide) ?_
    refine lv_icmp_ge (tgt := 22) hx hb d_RRef_clearDraft_6 (by decide) (fun c1 => ?_) (fun c1 => ?_)
    · replace hm := ip c1 hm
      cases hm
      exact ret_mv X hP hS d_RRef_clearDraft_22
    · replace hm := ineg c1 hm
      refine lv_aload_n hx hb d_RRef_clearDraft_9 rfl (lv_at hl 0 rfl) ?_
      refine va_get (D := D) (ci := 6) (v := .ref (ad 17)) (C := R_RRef) (T := F_RRef) (N := 29) hx hb hts i_RRef hown hK hP 0 rfl rfl 26 (by decide) (hts _ wf_RRef_69) (fun _ h9 => h9) rfl d_RRef_clearDraft_10 ?_
      refine lv_iload_n hx hb d_RRef_clearDraft_13 rfl (lv_at hl 1 rfl) ?_
      refine lv_iconst (v := 0) hx hb d_RRef_clearDraft_14 (by decide) ?_
      obtain ⟨b2, hm⟩ := on hm
      refine va_bast hx hb hK hP hD hS 17 0 rfl rfl b2 d_RRef_clearDraft_15 (fun H locs hP hD hS => ?_)
      replace hP : va_P D classes (wl_Ref ca ad (s_Rdraft g ((g_Rdraft g).1, upd (g_Rdraft g).2 (v1).toNatClampNeg (vp_nar .byte 0)))) H := hP
      replace hD : va_D A (wl_Ref ca ad (s_Rdraft g ((g_Rdraft g).1, upd (g_Rdraft g).2 (v1).toNatClampNeg (vp_nar .byte 0)))) := hD
      refine lv_iinc (v := (v1 + 1)) (lv' := [(1, .int (v1 + 1)), (0, .ref (ad 0))]) hx hb d_RRef_clearDraft_16 hl (k := 1) rfl rfl (by decide) rfl (fun ls hl => ?_)
      refine lv_goto (tgt := 2) hx hb d_RRef_clearDraft_19 (by decide) ?_
      exact ih (s_Rdraft g ((g_Rdraft g).1, upd (g_Rdraft g).2 (v1).toNatClampNeg (vp_nar .byte 0))) (v1 + 1) _ hm _ _ hP hD hS ls (lv_sub hl [1, 0] rfl)
set_option maxHeartbeats 4000000 in
set_option maxRecDepth 100000 in
theorem c_RRef_clearDraft (l : Launch) (D : va_G) (ca : Nat → ClassId) (ad : Nat → Nat) (sz : Nat) (g : St_Ref)  (res : St_Ref) (hm : m_RRef_clearDraft g = some res) : Met l y_RRef_clearDraft (cws y_RRef_clearDraft b_RRef_clearDraft 2 none) (RM 0 0) (PreW D ca (wl_Ref ca ad g) [.ref (ad 0)] sz) (QRm D none (wl_Ref ca ad res) (va_A (wl_Ref ca ad g) sz)) 0 0 (va_A (wl_Ref ca ad g) sz) := by
  refine met_ofM (own := R_RRef) (by decide) rfl (Nat.le_of_ble_eq_true rfl) ?_
  intro p e s m below meth c A X hA hP hD ls hl
  obtain ⟨hx, hb, hml, hr, hown, hts, hK, hlocks⟩ := id X
  have hS : va_S A s.heap s.heap [] := va_S.rf
  have hl : lv_has ls 2 [(0, .ref (ad 0))] := hl
  unfold m_RRef_clearDraft at hm
  refine lv_iconst (v := 0) hx hb d_RRef_clearDraft_0 (by decide) ?_
  refine lv_istore_n (lv' := [(1, .int 0), (0, .ref (ad 0))]) hx hb d_RRef_clearDraft_1 rfl hl (by decide) rfl (fun ls hl => ?_)
  exact k_m_RRef_clearDraft_L2 X hA FU g 0 _ hm _ _ hP hD hS ls (lv_sub hl [1, 0] rfl)
set_option maxHeartbeats 4000000 in
set_option maxRecDepth 100000 in
theorem k_m_RRef_put_L3 {p : Program} {l : Launch} {e : Env} {s : State} {m : MethodId} {args : Array Value} {below : List Frame} {meth : Method} {c : Code} {D : va_G} {ca : Nat → ClassId} {a0 : Nat} {A : Nat → Prop} (X : Cx p s m args meth c R_RRef b_RRef_put 6 none D ca) (hA : ∀ q, s.heap.size ≤ q → A q)  : ∀ (n : Nat) (x : AI) (v1 : Int32) (v2 : Int32) (v3 : Int64) (v5 : Int32) (res : AI), m_RRef_put_L3  n x v1 v2 v3 v5 = some res → ∀ (H : Heap) (locs : List Loc), va_P D classes (wl_AI (ca 0) a0 x) H → va_D A (wl_AI (ca 0) a0 x) → va_S A s.heap H locs → ∀ ls : Array Slot, lv_has ls 6 [(0, .ref a0), (1, .int v1), (2, .int v2), (3, .long v3), (5, .int v5)] → W p l e (RM 0 0) s m args below meth c H locs 0 0 (MQ below (QRm D none (wl_AI (ca 0) a0 res) A) args s 0 0 A) (F0 m 3 ls []) := by
  obtain ⟨hx, hb, hml, hr, hown, hts, hK, hlocks⟩ := id X
  intro n
  induction n with
  | zero =>
    intro x v1 v2 v3 v5 res hm
    rw [m_RRef_put_L3] at hm
    cases hm
  | succ n ih =>
    intro x v1 v2 v3 v5 res hm H locs hP hD hS ls hl
    rw [m_RRef_put_L3] at hm
    refine lv_iload hx hb d_RRef_put_3 (lv_at hl 4 rfl) ?_
    refine lv_iload_n hx hb d_RRef_put_5 rfl (lv_at hl 2 rfl) ?_
    refine lv_icmp_ge (tgt := 34) hx hb d_RRef_put_6 (by decide) (fun c1 => ?_) (fun c1 => ?_)
    · replace hm := ip c1 hm
      cases hm
      exact ret_mv X hP hS d_RRef_put_34
    · replace hm := ineg c1 hm
      refine lv_aload_n hx hb d_RRef_put_9 rfl (lv_at hl 0 rfl) ?_
      refine lv_iload_n hx hb d_RRef_put_10 rfl (lv_at hl 1 rfl) ?_
      refine lv_iload hx hb d_RRef_put_11 (lv_at hl 4 rfl) ?_
      refine lv_iadd hx hb d_RRef_put_13 ?_
      refine lv_lload_n hx hb d_RRef_put_14 rfl (lv_at hl 3 rfl) ?_
      refine lv_bipush (v := 8) hx hb d_RRef_put_15 (by decide) ?_
      refine lv_iload_n hx hb d_RRef_put_17 rfl (lv_at hl 2 rfl) ?_
      refine lv_iconst (v := 1) hx hb d_RRef_put_18 (by decide) ?_
      refine lv_isub hx hb d_RRef_put_19 ?_
      refine lv_iload hx hb d_RRef_put_20 (lv_at hl 4 rfl) ?_
      refine lv_isub hx hb d_RRef_put_22 ?_
      refine lv_imul hx hb d_RRef_put_23 ?_
      refine lv_lshr (v := (jlshr v3 (8 * ((v2 - 1) - v5)))) hx hb d_RRef_put_24 rfl ?_
      refine lv_l2i (v := (((jlshr v3 (8 * ((v2 - 1) - v5)))).toInt32)) hx hb d_RRef_put_25 rfl ?_
      refine lv_i2b (v := (((((jlshr v3 (8 * ((v2 - 1) - v5)))).toInt32)).toInt8.toInt32)) hx hb d_RRef_put_26 rfl ?_
      obtain ⟨b2, hm⟩ := on hm
      refine va_bast hx hb hK hP hD hS 0 0 rfl rfl b2 d_RRef_put_27 (fun H locs hP hD hS => ?_)
      replace hP : va_P D classes (wl_AI (ca 0) a0 (x.1, upd x.2 ((v1 + v5)).toNatClampNeg (vp_nar .byte (((((jlshr v3 (8 * ((v2 - 1) - v5)))).toInt32)).toInt8.toInt32)))) H := hP
      replace hD : va_D A (wl_AI (ca 0) a0 (x.1, upd x.2 ((v1 + v5)).toNatClampNeg (vp_nar .byte (((((jlshr v3 (8 * ((v2 - 1) - v5)))).toInt32)).toInt8.toInt32)))) := hD
      refine lv_iinc (v := (v5 + 1)) (lv' := [(5, .int (v5 + 1)), (0, .ref a0), (1, .int v1), (2, .int v2), (3, .long v3)]) hx hb d_RRef_put_28 hl (k := 4) rfl rfl (by decide) rfl (fun ls hl => ?_)
      refine lv_goto (tgt := 3) hx hb d_RRef_put_31 (by decide) ?_
      exact ih (x.1, upd x.2 ((v1 + v5)).toNatClampNeg (vp_nar .byte (((((jlshr v3 (8 * ((v2 - 1) - v5)))).toInt32)).toInt8.toInt32))) v1 v2 v3 (v5 + 1) _ hm _ _ hP hD hS ls (lv_sub hl [1, 2, 3, 4, 0] rfl)
set_option maxHeartbeats 4000000 in
set_option maxRecDepth 100000 in
theorem c_RRef_put (l : Launch) (D : va_G) (ca : Nat → ClassId) (a0 : Nat) (sz : Nat) (x : AI) (p1 : Int32) (p2 : Int32) (p3 : Int64) (res : AI) (hm : m_RRef_put x p1 p2 p3 = some res) : Met l y_RRef_put (cws y_RRef_put b_RRef_put 6 none) (RM 0 0) (PreW D ca (wl_AI (ca 0) a0 x) [.ref a0, .int p1, .int p2, .long p3] sz) (QRm D none (wl_AI (ca 0) a0 res) (va_A (wl_AI (ca 0) a0 x) sz)) 0 0 (va_A (wl_AI (ca 0) a0 x) sz) := by
  refine met_ofM (own := R_RRef) (by decide) rfl (Nat.le_of_ble_eq_true rfl) ?_
  intro p e s m below meth c A X hA hP hD ls hl
  obtain ⟨hx, hb, hml, hr, hown, hts, hK, hlocks⟩ := id X
  have hS : va_S A s.heap s.heap [] := va_S.rf
  have hl : lv_has ls 6 [(0, .ref a0), (1, .int p1), (2, .int p2), (3, .long p3)] := hl
  unfold m_RRef_put at hm
  refine lv_iconst (v := 0) hx hb d_RRef_put_0 (by decide) ?_
  refine lv_istore (lv' := [(5, .int 0), (0, .ref a0), (1, .int p1), (2, .int p2), (3, .long p3)]) hx hb d_RRef_put_1 hl (by decide) rfl (fun ls hl => ?_)
  exact k_m_RRef_put_L3 X hA FU x p1 p2 p3 0 _ hm _ _ hP hD hS ls (lv_sub hl [1, 2, 3, 4, 0] rfl)
set_option maxHeartbeats 4000000 in
set_option maxRecDepth 100000 in
theorem c_RRef_sumDraft (l : Launch) (D : va_G) (ca : Nat → ClassId) (ad : Nat → Nat) (sz : Nat) (g : St_Ref)  (res : St_Ref) (hm : m_RRef_sumDraft g = some res) : Met l y_RRef_sumDraft (cws y_RRef_sumDraft b_RRef_sumDraft 1 none) (RM 1 27) (PreW D ca (wl_Ref ca ad g) [.ref (ad 0)] sz) (QRm D none (wl_Ref ca ad res) (va_A (wl_Ref ca ad g) sz)) 0 0 (va_A (wl_Ref ca ad g) sz) := by
  refine met_ofM (own := R_RRef) (by decide) rfl (Nat.le_of_ble_eq_true rfl) ?_
  intro p e s m below meth c A X hA hP hD ls hl
  obtain ⟨hx, hb, hml, hr, hown, hts, hK, hlocks⟩ := id X
  have hS : va_S A s.heap s.heap [] := va_S.rf
  have hl : lv_has ls 1 [(0, .ref (ad 0))] := hl
  unfold m_RRef_sumDraft at hm
  refine lv_aload_n hx hb d_RRef_sumDraft_0 rfl (lv_at hl 0 rfl) ?_
  refine va_get (D := D) (ci := 6) (v := .ref (ad 17)) (C := R_RRef) (T := F_RRef) (N := 29) hx hb hts i_RRef hown hK hP 0 rfl rfl 26 (by decide) (hts _ wf_RRef_69) (fun _ h9 => h9) rfl d_RRef_sumDraft_1 ?_
  refine lv_bipush (v := 24) hx hb d_RRef_sumDraft_4 (by decide) ?_
  refine lv_bipush (v := 8) hx hb d_RRef_sumDraft_6 (by decide) ?_
  refine lv_aload_n hx hb d_RRef_sumDraft_8 rfl (lv_at hl 0 rfl) ?_
  refine va_get (D := D) (ci := 6) (v := .ref (ad 17)) (C := R_RRef) (T := F_RRef) (N := 29) hx hb hts i_RRef hown hK hP 0 rfl rfl 26 (by decide) (hts _ wf_RRef_69) (fun _ h9 => h9) rfl d_RRef_sumDraft_9 ?_
  refine lv_iconst (v := 0) hx hb d_RRef_sumDraft_12 (by decide) ?_
  refine lv_bipush (v := 24) hx hb d_RRef_sumDraft_13 (by decide) ?_
  obtain ⟨q1, hq1, hm⟩ := ob hm
  refine inv_rS (As := [.ref (ad 17), .int 0, .int 24]) (rest := [.int 8, .int 24, .ref (ad 17)]) (v := .long q1) X (c_RRef_digest l D ca (ad 17) _ (g_Rdraft g) 0 24 q1 hq1) g_RRef_89 yo_RRef_digest ⟨Nat.le_of_ble_eq_true rfl, Nat.le_of_ble_eq_true rfl⟩ hl hP hD [17] rfl rfl hS hA rfl rfl (Nat.le_of_ble_eq_true rfl) ⟨Nat.zero_le _, Nat.zero_le _⟩ d_RRef_sumDraft_15 (fun H locs hP hS => ?_)
  obtain ⟨q2, hq2, hm⟩ := ob hm
  refine inv_mS (As := [.ref (ad 17), .int 24, .int 8, .long q1]) (rest := []) (ws' := wl_Ref ca ad (s_Rdraft g q2)) X (c_RRef_put l D ca (ad 17) _ (g_Rdraft g) 24 8 q1 q2 hq2) g_RRef_102 yo_RRef_put ⟨Nat.le_of_ble_eq_true rfl, Nat.le_of_ble_eq_true rfl⟩ hl hP hD [17] rfl rfl rfl rfl hS hA rfl rfl (Nat.le_of_ble_eq_true rfl) ⟨Nat.zero_le _, Nat.zero_le _⟩ d_RRef_sumDraft_18 (fun H locs hP hD hS => ?_)
  cases hm
  exact ret_mv X hP hS d_RRef_sumDraft_21
set_option maxHeartbeats 4000000 in
set_option maxRecDepth 100000 in
theorem k_m_RRef_write_L2 {p : Program} {l : Launch} {e : Env} {s : State} {m : MethodId} {args : Array Value} {below : List Frame} {meth : Method} {c : Code} {D : va_G} {ca : Nat → ClassId} {ad : Nat → Nat} {A : Nat → Prop} (X : Cx p s m args meth c R_RRef b_RRef_write 4 (some .boolean) D ca) (hA : ∀ q, s.heap.size ≤ q → A q)  : ∀ (n : Nat) (g : St_Ref) (v1 : Int32) (v2 : Int32) (v3 : Int32) (res : Int32 × St_Ref), m_RRef_write_L2  n g v1 v2 v3 = some res → ∀ (H : Heap) (locs : List Loc), va_P D classes (wl_Ref ca ad g) H → va_D A (wl_Ref ca ad g) → va_S A s.heap H locs → ∀ ls : Array Slot, lv_has ls 4 [(0, .ref (ad 0)), (1, .int v1), (2, .int v2), (3, .int v3)] → W p l e (RM 0 0) s m args below meth c H locs 0 0 (MQ below (QRm D (some (.int res.1)) (wl_Ref ca ad res.2) A) args s 0 0 A) (F0 m 2 ls []) := by
  obtain ⟨hx, hb, hml, hr, hown, hts, hK, hlocks⟩ := id X
  intro n
  induction n with
  | zero =>
    intro g v1 v2 v3 res hm
    rw [m_RRef_write_L2] at hm
    cases hm
  | succ n ih =>
    intro g v1 v2 v3 res hm H locs hP hD hS ls hl
    rw [m_RRef_write_L2] at hm
    refine lv_iload_n hx hb d_RRef_write_2 rfl (lv_at hl 3 rfl) ?_
    refine lv_bipush (v := 32) hx hb d_RRef_write_3 (by decide) ?_
    refine lv_icmp_ge (tgt := 84) hx hb d_RRef_write_5 (by decide) (fun c1 => ?_) (fun c1 => ?_)
    · replace hm := ip c1 hm
      refine lv_iconst (v := 1) hx hb d_RRef_write_84 (by decide) ?_
      cases hm
      exact ret_mz X nz1 hP hS d_RRef_write_85
    · replace hm := ineg c1 hm
      refine lv_aload_n hx hb d_RRef_write_8 rfl (lv_at hl 0 rfl) ?_
      refine va_get (D := D) (ci := 6) (v := .int (g_RcutIn g)) (C := R_RRef) (T := F_RRef) (N := 29) hx hb hts i_RRef hown hK hP 0 rfl rfl 3 (by decide) (hts _ wf_RRef_17) (fun _ h9 => h9) rfl d_RRef_write_9 ?_
      refine lv_if_ne (tgt := 27) hx hb d_RRef_write_12 (by decide) (fun c2 => ?_) (fun c2 => ?_)
      · replace hm := ineg c2 hm
        refine lv_aload_n hx hb d_RRef_write_27 rfl (lv_at hl 0 rfl) ?_
        refine lv_aload_n hx hb d_RRef_write_28 rfl (lv_at hl 0 rfl) ?_
        refine va_get (D := D) (ci := 6) (v := .int (g_RcutIn g)) (C := R_RRef) (T := F_RRef) (N := 29) hx hb hts i_RRef hown hK hP 0 rfl rfl 3 (by decide) (hts _ wf_RRef_17) (fun _ h9 => h9) rfl d_RRef_write_29 ?_
        refine lv_iconst (v := (-1)) hx hb d_RRef_write_32 (by decide) ?_
        refine lv_icmp_ne (tgt := 40) hx hb d_RRef_write_33 (by decide) (fun c3 => ?_) (fun c3 => ?_)
        · replace hm := ineg c3 hm
          refine lv_aload_n hx hb d_RRef_write_40 rfl (lv_at hl 0 rfl) ?_
          refine va_get (D := D) (ci := 6) (v := .int (g_RcutIn g)) (C := R_RRef) (T := F_RRef) (N := 29) hx hb hts i_RRef hown hK hP 0 rfl rfl 3 (by decide) (hts _ wf_RRef_17) (fun _ h9 => h9) rfl d_RRef_write_41 ?_
          refine lv_iconst (v := 1) hx hb d_RRef_write_44 (by decide) ?_
          refine lv_isub hx hb d_RRef_write_45 ?_
          refine va_put (D := D) (ci := 6) (v := .int ((g_RcutIn g) - 1)) (ty := .int) (C := R_RRef) (T := F_RRef) (N := 29) hx hb hts i_RRef t_RRef t_RRef_ok n_RRef hown hK hP hD hS 0 rfl rfl 3 (by decide) (hts _ wf_RRef_17) (fun _ h9 => h9) rfl (by decide +kernel) rfl rfl (Nat.le_of_ble_eq_true rfl) d_RRef_write_46 (fun H locs hP hD hS => ?_)
          replace hP : va_P D classes (wl_Ref ca ad (s_RcutIn g ((g_RcutIn g) - 1))) H := hP
          replace hD : va_D A (wl_Ref ca ad (s_RcutIn g ((g_RcutIn g) - 1))) := hD
          refine lv_aload_n hx hb d_RRef_write_49 rfl (lv_at hl 0 rfl) ?_
          refine va_get (D := D) (ci := 6) (v := .ref (ad 1)) (C := R_RRef) (T := F_RRef) (N := 29) hx hb hts i_RRef hown hK hP 0 rfl rfl 0 (by decide) (hts _ wf_RRef_7) (fun _ h9 => h9) rfl d_RRef_write_50 ?_
          refine lv_bipush (v := 32) hx hb d_RRef_write_53 (by decide) ?_
          refine lv_iload_n hx hb d_RRef_write_55 rfl (lv_at hl 1 rfl) ?_
          refine lv_imul hx hb d_RRef_write_56 ?_
          refine lv_iload_n hx hb d_RRef_write_57 rfl (lv_at hl 3 rfl) ?_
          refine lv_iadd hx hb d_RRef_write_58 ?_
          refine lv_aload_n hx hb d_RRef_write_59 rfl (lv_at hl 0 rfl) ?_
          refine va_get (D := D) (ci := 6) (v := .ref (ad 17)) (C := R_RRef) (T := F_RRef) (N := 29) hx hb hts i_RRef hown hK hP 0 rfl rfl 26 (by decide) (hts _ wf_RRef_69) (fun _ h9 => h9) rfl d_RRef_write_60 ?_
          refine lv_iload_n hx hb d_RRef_write_63 rfl (lv_at hl 2 rfl) ?_
          refine lv_iload_n hx hb d_RRef_write_64 rfl (lv_at hl 3 rfl) ?_
          refine lv_iadd hx hb d_RRef_write_65 ?_
          obtain ⟨b4, hm⟩ := on hm
          refine va_bald hx hb hK hP 17 0 rfl rfl b4 d_RRef_write_66 ?_
          obtain ⟨b5, hm⟩ := on hm
          refine va_bast hx hb hK hP hD hS 1 0 rfl rfl b5 d_RRef_write_67 (fun H locs hP hD hS => ?_)
          replace hP : va_P D classes (wl_Ref ca ad (s_Rmedium (s_RcutIn g ((g_RcutIn g) - 1)) ((g_Rmedium g).1, upd (g_Rmedium g).2 (((32 * v1) + v3)).toNatClampNeg (vp_nar .byte ((g_Rdraft g).2 ((v2 + v3)).toNatClampNeg))))) H := hP
          replace hD : va_D A (wl_Ref ca ad (s_Rmedium (s_RcutIn g ((g_RcutIn g) - 1)) ((g_Rmedium g).1, upd (g_Rmedium g).2 (((32 * v1) + v3)).toNatClampNeg (vp_nar .byte ((g_Rdraft g).2 ((v2 + v3)).toNatClampNeg))))) := hD
          refine lv_aload_n hx hb d_RRef_write_68 rfl (lv_at hl 0 rfl) ?_
          refine lv_dup hx hb d_RRef_write_69 rfl ?_
          refine va_get (D := D) (ci := 6) (v := .int (g_Rwritten g)) (C := R_RRef) (T := F_RRef) (N := 29) hx hb hts i_RRef hown hK hP 0 rfl rfl 4 (by decide) (hts _ wf_RRef_92) (fun _ h9 => h9) rfl d_RRef_write_70 ?_
          refine lv_iconst (v := 1) hx hb d_RRef_write_73 (by decide) ?_
          refine lv_iadd hx hb d_RRef_write_74 ?_
          refine va_put (D := D) (ci := 6) (v := .int ((g_Rwritten g) + 1)) (ty := .int) (C := R_RRef) (T := F_RRef) (N := 29) hx hb hts i_RRef t_RRef t_RRef_ok n_RRef hown hK hP hD hS 0 rfl rfl 4 (by decide) (hts _ wf_RRef_92) (fun _ h9 => h9) rfl (by decide +kernel) rfl rfl (Nat.le_of_ble_eq_true rfl) d_RRef_write_75 (fun H locs hP hD hS => ?_)
          replace hP : va_P D classes (wl_Ref ca ad (s_Rwritten (s_Rmedium (s_RcutIn g ((g_RcutIn g) - 1)) ((g_Rmedium g).1, upd (g_Rmedium g).2 (((32 * v1) + v3)).toNatClampNeg (vp_nar .byte ((g_Rdraft g).2 ((v2 + v3)).toNatClampNeg)))) ((g_Rwritten g) + 1))) H := hP
          replace hD : va_D A (wl_Ref ca ad (s_Rwritten (s_Rmedium (s_RcutIn g ((g_RcutIn g) - 1)) ((g_Rmedium g).1, upd (g_Rmedium g).2 (((32 * v1) + v3)).toNatClampNeg (vp_nar .byte ((g_Rdraft g).2 ((v2 + v3)).toNatClampNeg)))) ((g_Rwritten g) + 1))) := hD
          refine lv_iinc (v := (v3 + 1)) (lv' := [(3, .int (v3 + 1)), (0, .ref (ad 0)), (1, .int v1), (2, .int v2)]) hx hb d_RRef_write_78 hl (k := 3) rfl rfl (by decide) rfl (fun ls hl => ?_)
          refine lv_goto (tgt := 2) hx hb d_RRef_write_81 (by decide) ?_
          exact ih (s_Rwritten (s_Rmedium (s_RcutIn g ((g_RcutIn g) - 1)) ((g_Rmedium g).1, upd (g_Rmedium g).2 (((32 * v1) + v3)).toNatClampNeg (vp_nar .byte ((g_Rdraft g).2 ((v2 + v3)).toNatClampNeg)))) ((g_Rwritten g) + 1)) v1 v2 (v3 + 1) _ hm _ _ hP hD hS ls (lv_sub hl [1, 2, 3, 0] rfl)
        · replace hm := ip c3 hm
          refine lv_iconst (v := (-1)) hx hb d_RRef_write_36 (by decide) ?_
          refine lv_goto (tgt := 46) hx hb d_RRef_write_37 (by decide) ?_
          refine va_put (D := D) (ci := 6) (v := .int (-1)) (ty := .int) (C := R_RRef) (T := F_RRef) (N := 29) hx hb hts i_RRef t_RRef t_RRef_ok n_RRef hown hK hP hD hS 0 rfl rfl 3 (by decide) (hts _ wf_RRef_17) (fun _ h9 => h9) rfl (by decide +kernel) rfl rfl (Nat.le_of_ble_eq_true rfl) d_RRef_write_46 (fun H locs hP hD hS => ?_)
          replace hP : va_P D classes (wl_Ref ca ad (s_RcutIn g (-1))) H := hP
          replace hD : va_D A (wl_Ref ca ad (s_RcutIn g (-1))) := hD
          refine lv_aload_n hx hb d_RRef_write_49 rfl (lv_at hl 0 rfl) ?_
          refine va_get (D := D) (ci := 6) (v := .ref (ad 1)) (C := R_RRef) (T := F_RRef) (N := 29) hx hb hts i_RRef hown hK hP 0 rfl rfl 0 (by decide) (hts _ wf_RRef_7) (fun _ h9 => h9) rfl d_RRef_write_50 ?_
          refine lv_bipush (v := 32) hx hb d_RRef_write_53 (by decide) ?_
          refine lv_iload_n hx hb d_RRef_write_55 rfl (lv_at hl 1 rfl) ?_
          refine lv_imul hx hb d_RRef_write_56 ?_
          refine lv_iload_n hx hb d_RRef_write_57 rfl (lv_at hl 3 rfl) ?_
          refine lv_iadd hx hb d_RRef_write_58 ?_
          refine lv_aload_n hx hb d_RRef_write_59 rfl (lv_at hl 0 rfl) ?_
          refine va_get (D := D) (ci := 6) (v := .ref (ad 17)) (C := R_RRef) (T := F_RRef) (N := 29) hx hb hts i_RRef hown hK hP 0 rfl rfl 26 (by decide) (hts _ wf_RRef_69) (fun _ h9 => h9) rfl d_RRef_write_60 ?_
          refine lv_iload_n hx hb d_RRef_write_63 rfl (lv_at hl 2 rfl) ?_
          refine lv_iload_n hx hb d_RRef_write_64 rfl (lv_at hl 3 rfl) ?_
          refine lv_iadd hx hb d_RRef_write_65 ?_
          obtain ⟨b6, hm⟩ := on hm
          refine va_bald hx hb hK hP 17 0 rfl rfl b6 d_RRef_write_66 ?_
          obtain ⟨b7, hm⟩ := on hm
          refine va_bast hx hb hK hP hD hS 1 0 rfl rfl b7 d_RRef_write_67 (fun H locs hP hD hS => ?_)
          replace hP : va_P D classes (wl_Ref ca ad (s_Rmedium (s_RcutIn g (-1)) ((g_Rmedium g).1, upd (g_Rmedium g).2 (((32 * v1) + v3)).toNatClampNeg (vp_nar .byte ((g_Rdraft g).2 ((v2 + v3)).toNatClampNeg))))) H := hP
          replace hD : va_D A (wl_Ref ca ad (s_Rmedium (s_RcutIn g (-1)) ((g_Rmedium g).1, upd (g_Rmedium g).2 (((32 * v1) + v3)).toNatClampNeg (vp_nar .byte ((g_Rdraft g).2 ((v2 + v3)).toNatClampNeg))))) := hD
          refine lv_aload_n hx hb d_RRef_write_68 rfl (lv_at hl 0 rfl) ?_
          refine lv_dup hx hb d_RRef_write_69 rfl ?_
          refine va_get (D := D) (ci := 6) (v := .int (g_Rwritten g)) (C := R_RRef) (T := F_RRef) (N := 29) hx hb hts i_RRef hown hK hP 0 rfl rfl 4 (by decide) (hts _ wf_RRef_92) (fun _ h9 => h9) rfl d_RRef_write_70 ?_
          refine lv_iconst (v := 1) hx hb d_RRef_write_73 (by decide) ?_
          refine lv_iadd hx hb d_RRef_write_74 ?_
          refine va_put (D := D) (ci := 6) (v := .int ((g_Rwritten g) + 1)) (ty := .int) (C := R_RRef) (T := F_RRef) (N := 29) hx hb hts i_RRef t_RRef t_RRef_ok n_RRef hown hK hP hD hS 0 rfl rfl 4 (by decide) (hts _ wf_RRef_92) (fun _ h9 => h9) rfl (by decide +kernel) rfl rfl (Nat.le_of_ble_eq_true rfl) d_RRef_write_75 (fun H locs hP hD hS => ?_)
          replace hP : va_P D classes (wl_Ref ca ad (s_Rwritten (s_Rmedium (s_RcutIn g (-1)) ((g_Rmedium g).1, upd (g_Rmedium g).2 (((32 * v1) + v3)).toNatClampNeg (vp_nar .byte ((g_Rdraft g).2 ((v2 + v3)).toNatClampNeg)))) ((g_Rwritten g) + 1))) H := hP
          replace hD : va_D A (wl_Ref ca ad (s_Rwritten (s_Rmedium (s_RcutIn g (-1)) ((g_Rmedium g).1, upd (g_Rmedium g).2 (((32 * v1) + v3)).toNatClampNeg (vp_nar .byte ((g_Rdraft g).2 ((v2 + v3)).toNatClampNeg)))) ((g_Rwritten g) + 1))) := hD
          refine lv_iinc (v := (v3 + 1)) (lv' := [(3, .int (v3 + 1)), (0, .ref (ad 0)), (1, .int v1), (2, .int v2)]) hx hb d_RRef_write_78 hl (k := 3) rfl rfl (by decide) rfl (fun ls hl => ?_)
          refine lv_goto (tgt := 2) hx hb d_RRef_write_81 (by decide) ?_
          exact ih (s_Rwritten (s_Rmedium (s_RcutIn g (-1)) ((g_Rmedium g).1, upd (g_Rmedium g).2 (((32 * v1) + v3)).toNatClampNeg (vp_nar .byte ((g_Rdraft g).2 ((v2 + v3)).toNatClampNeg)))) ((g_Rwritten g) + 1)) v1 v2 (v3 + 1) _ hm _ _ hP hD hS ls (lv_sub hl [1, 2, 3, 0] rfl)
      · replace hm := ip c2 hm
        refine lv_aload_n hx hb d_RRef_write_15 rfl (lv_at hl 0 rfl) ?_
        refine lv_iconst (v := (-1)) hx hb d_RRef_write_16 (by decide) ?_
        refine va_put (D := D) (ci := 6) (v := .int (-1)) (ty := .int) (C := R_RRef) (T := F_RRef) (N := 29) hx hb hts i_RRef t_RRef t_RRef_ok n_RRef hown hK hP hD hS 0 rfl rfl 3 (by decide) (hts _ wf_RRef_17) (fun _ h9 => h9) rfl (by decide +kernel) rfl rfl (Nat.le_of_ble_eq_true rfl) d_RRef_write_17 (fun H locs hP hD hS => ?_)
        replace hP : va_P D classes (wl_Ref ca ad (s_RcutIn g (-1))) H := hP
        replace hD : va_D A (wl_Ref ca ad (s_RcutIn g (-1))) := hD
        refine lv_aload_n hx hb d_RRef_write_20 rfl (lv_at hl 0 rfl) ?_
        refine lv_iconst (v := 0) hx hb d_RRef_write_21 (by decide) ?_
        refine va_put (D := D) (ci := 6) (v := .int 0) (ty := .boolean) (C := R_RRef) (T := F_RRef) (N := 29) hx hb hts i_RRef t_RRef t_RRef_ok n_RRef hown hK hP hD hS 0 rfl rfl 2 (by decide) (hts _ wf_RRef_13) (fun _ h9 => h9) rfl (by decide +kernel) rfl rfl (Nat.le_of_ble_eq_true rfl) d_RRef_write_22 (fun H locs hP hD hS => ?_)
        replace hP : va_P D classes (wl_Ref ca ad (s_Ropen (s_RcutIn g (-1)) 0)) H := hP
        replace hD : va_D A (wl_Ref ca ad (s_Ropen (s_RcutIn g (-1)) 0)) := hD
        refine lv_iconst (v := 0) hx hb d_RRef_write_25 (by decide) ?_
        cases hm
        exact ret_mz X nz0 hP hS d_RRef_write_26
set_option maxHeartbeats 4000000 in
set_option maxRecDepth 100000 in
theorem c_RRef_write (l : Launch) (D : va_G) (ca : Nat → ClassId) (ad : Nat → Nat) (sz : Nat) (g : St_Ref) (p1 : Int32) (p2 : Int32) (res : Int32 × St_Ref) (hm : m_RRef_write g p1 p2 = some res) : Met l y_RRef_write (cws y_RRef_write b_RRef_write 4 (some .boolean)) (RM 0 0) (PreW D ca (wl_Ref ca ad g) [.ref (ad 0), .int p1, .int p2] sz) (QRm D (some (.int res.1)) (wl_Ref ca ad res.2) (va_A (wl_Ref ca ad g) sz)) 0 0 (va_A (wl_Ref ca ad g) sz) := by
  refine met_ofM (own := R_RRef) (by decide) rfl (Nat.le_of_ble_eq_true rfl) ?_
  intro p e s m below meth c A X hA hP hD ls hl
  obtain ⟨hx, hb, hml, hr, hown, hts, hK, hlocks⟩ := id X
  have hS : va_S A s.heap s.heap [] := va_S.rf
  have hl : lv_has ls 4 [(0, .ref (ad 0)), (1, .int p1), (2, .int p2)] := hl
  unfold m_RRef_write at hm
  refine lv_iconst (v := 0) hx hb d_RRef_write_0 (by decide) ?_
  refine lv_istore_n (lv' := [(3, .int 0), (0, .ref (ad 0)), (1, .int p1), (2, .int p2)]) hx hb d_RRef_write_1 rfl hl (by decide) rfl (fun ls hl => ?_)
  exact k_m_RRef_write_L2 X hA FU g p1 p2 0 _ hm _ _ hP hD hS ls (lv_sub hl [1, 2, 3, 0] rfl)
set_option maxHeartbeats 4000000 in
set_option maxRecDepth 100000 in
theorem k_m_RRef_writeAll_L5 {p : Program} {l : Launch} {e : Env} {s : State} {m : MethodId} {args : Array Value} {below : List Frame} {meth : Method} {c : Code} {D : va_G} {ca : Nat → ClassId} {ad : Nat → Nat} {A : Nat → Prop} (X : Cx p s m args meth c R_RRef b_RRef_writeAll 5 (some .boolean) D ca) (hA : ∀ q, s.heap.size ≤ q → A q)  : ∀ (n : Nat) (g : St_Ref) (v1 : Int32) (v2 : Int32) (v3 : Int32) (v4 : Int32) (res : Int32 × St_Ref), m_RRef_writeAll_L5  n g v1 v2 v3 v4 = some res → ∀ (H : Heap) (locs : List Loc), va_P D classes (wl_Ref ca ad g) H → va_D A (wl_Ref ca ad g) → va_S A s.heap H locs → ∀ ls : Array Slot, lv_has ls 5 [(0, .ref (ad 0)), (1, .int v1), (2, .int v2), (3, .int v3), (4, .int v4)] → W p l e (RM 1 23) s m args below meth c H locs 0 0 (MQ below (QRm D (some (.int res.1)) (wl_Ref ca ad res.2) A) args s 0 0 A) (F0 m 5 ls []) := by
  obtain ⟨hx, hb, hml, hr, hown, hts, hK, hlocks⟩ := id X
  intro n
  induction n with
  | zero =>
    intro g v1 v2 v3 v4 res hm
    rw [m_RRef_writeAll_L5] at hm
    cases hm
  | succ n ih =>
    intro g v1 v2 v3 v4 res hm H locs hP hD hS ls hl
    rw [m_RRef_writeAll_L5] at hm
    refine lv_iload hx hb d_RRef_writeAll_5 (lv_at hl 4 rfl) ?_
    refine lv_iload_n hx hb d_RRef_writeAll_7 rfl (lv_at hl 2 rfl) ?_
    refine lv_icmp_ge (tgt := 35) hx hb d_RRef_writeAll_8 (by decide) (fun c1 => ?_) (fun c1 => ?_)
    · replace hm := ip c1 hm
      refine lv_iload_n hx hb d_RRef_writeAll_35 rfl (lv_at hl 3 rfl) ?_
      refine lv_if_eq (tgt := 52) hx hb d_RRef_writeAll_36 (by decide) (fun c2 => ?_) (fun c2 => ?_)
      · replace hm := ip c2 hm
        refine lv_iconst (v := 0) hx hb d_RRef_writeAll_52 (by decide) ?_
        cases hm
        exact ret_mz X nz0 hP hS d_RRef_writeAll_53
      · replace hm := ineg c2 hm
        refine lv_aload_n hx hb d_RRef_writeAll_39 rfl (lv_at hl 0 rfl) ?_
        refine lv_iload_n hx hb d_RRef_writeAll_40 rfl (lv_at hl 1 rfl) ?_
        refine lv_iconst (v := 0) hx hb d_RRef_writeAll_41 (by decide) ?_
        obtain ⟨q3, hq3, hm⟩ := ob hm
        refine inv_mVa (C := R_RRef) (As := [.int v1, .int 0]) (rest := []) (v := .int q3.1) X (c_RRef_write l D ca ad _ g v1 0 q3 hq3) g_RRef_95 yo_RRef_write ⟨Nat.le_of_ble_eq_true rfl, Nat.le_of_ble_eq_true rfl⟩ hl hP hD rfl (ci := 6) rfl rfl hS hA rfl rfl (Nat.le_of_ble_eq_true rfl) ⟨Nat.zero_le _, Nat.zero_le _⟩ d_RRef_writeAll_42 (fun H locs hP hD hS => ?_)
        refine lv_if_eq (tgt := 52) hx hb d_RRef_writeAll_45 (by decide) (fun c4 => ?_) (fun c4 => ?_)
        · replace hm := ip c4 hm
          refine lv_iconst (v := 0) hx hb d_RRef_writeAll_52 (by decide) ?_
          cases hm
          exact ret_mz X nz0 hP hS d_RRef_writeAll_53
        · replace hm := ineg c4 hm
          refine lv_iconst (v := 1) hx hb d_RRef_writeAll_48 (by decide) ?_
          refine lv_goto (tgt := 53) hx hb d_RRef_writeAll_49 (by decide) ?_
          cases hm
          exact ret_mz X nz1 hP hS d_RRef_writeAll_53
    · replace hm := ineg c1 hm
      refine lv_iload_n hx hb d_RRef_writeAll_11 rfl (lv_at hl 3 rfl) ?_
      refine lv_if_eq (tgt := 35) hx hb d_RRef_writeAll_12 (by decide) (fun c5 => ?_) (fun c5 => ?_)
      · replace hm := ip c5 hm
        refine lv_iload_n hx hb d_RRef_writeAll_35 rfl (lv_at hl 3 rfl) ?_
        refine lv_if_eq (tgt := 52) hx hb d_RRef_writeAll_36 (by decide) (fun c6 => ?_) (fun c6 => ?_)
        · replace hm := ip c6 hm
          refine lv_iconst (v := 0) hx hb d_RRef_writeAll_52 (by decide) ?_
          cases hm
          exact ret_mz X nz0 hP hS d_RRef_writeAll_53
        · replace hm := ineg c6 hm
          refine lv_aload_n hx hb d_RRef_writeAll_39 rfl (lv_at hl 0 rfl) ?_
          refine lv_iload_n hx hb d_RRef_writeAll_40 rfl (lv_at hl 1 rfl) ?_
          refine lv_iconst (v := 0) hx hb d_RRef_writeAll_41 (by decide) ?_
          obtain ⟨q7, hq7, hm⟩ := ob hm
          refine inv_mVa (C := R_RRef) (As := [.int v1, .int 0]) (rest := []) (v := .int q7.1) X (c_RRef_write l D ca ad _ g v1 0 q7 hq7) g_RRef_95 yo_RRef_write ⟨Nat.le_of_ble_eq_true rfl, Nat.le_of_ble_eq_true rfl⟩ hl hP hD rfl (ci := 6) rfl rfl hS hA rfl rfl (Nat.le_of_ble_eq_true rfl) ⟨Nat.zero_le _, Nat.zero_le _⟩ d_RRef_writeAll_42 (fun H locs hP hD hS => ?_)
          refine lv_if_eq (tgt := 52) hx hb d_RRef_writeAll_45 (by decide) (fun c8 => ?_) (fun c8 => ?_)
          · replace hm := ip c8 hm
            refine lv_iconst (v := 0) hx hb d_RRef_writeAll_52 (by decide) ?_
            cases hm
            exact ret_mz X nz0 hP hS d_RRef_writeAll_53
          · replace hm := ineg c8 hm
            refine lv_iconst (v := 1) hx hb d_RRef_writeAll_48 (by decide) ?_
            refine lv_goto (tgt := 53) hx hb d_RRef_writeAll_49 (by decide) ?_
            cases hm
            exact ret_mz X nz1 hP hS d_RRef_writeAll_53
      · replace hm := ineg c5 hm
        refine lv_aload_n hx hb d_RRef_writeAll_15 rfl (lv_at hl 0 rfl) ?_
        refine lv_iload_n hx hb d_RRef_writeAll_16 rfl (lv_at hl 1 rfl) ?_
        refine lv_iload hx hb d_RRef_writeAll_17 (lv_at hl 4 rfl) ?_
        refine lv_iadd hx hb d_RRef_writeAll_19 ?_
        refine lv_bipush (v := 32) hx hb d_RRef_writeAll_20 (by decide) ?_
        refine lv_iload hx hb d_RRef_writeAll_22 (lv_at hl 4 rfl) ?_
        refine lv_imul hx hb d_RRef_writeAll_24 ?_
        obtain ⟨q9, hq9, hm⟩ := ob hm
        refine inv_mVa (C := R_RRef) (As := [.int (v1 + v4), .int (32 * v4)]) (rest := []) (v := .int q9.1) X (c_RRef_write l D ca ad _ g (v1 + v4) (32 * v4) q9 hq9) g_RRef_95 yo_RRef_write ⟨Nat.le_of_ble_eq_true rfl, Nat.le_of_ble_eq_true rfl⟩ hl hP hD rfl (ci := 6) rfl rfl hS hA rfl rfl (Nat.le_of_ble_eq_true rfl) ⟨Nat.zero_le _, Nat.zero_le _⟩ d_RRef_writeAll_25 (fun H locs hP hD hS => ?_)
        refine lv_istore_n (lv' := [(3, .int q9.1), (0, .ref (ad 0)), (1, .int v1), (2, .int v2), (4, .int v4)]) hx hb d_RRef_writeAll_28 rfl hl (by decide) rfl (fun ls hl => ?_)
        refine lv_iinc (v := (v4 + 1)) (lv' := [(4, .int (v4 + 1)), (3, .int q9.1), (0, .ref (ad 0)), (1, .int v1), (2, .int v2)]) hx hb d_RRef_writeAll_29 hl (k := 4) rfl rfl (by decide) rfl (fun ls hl => ?_)
        refine lv_goto (tgt := 5) hx hb d_RRef_writeAll_32 (by decide) ?_
        exact ih q9.2 v1 v2 q9.1 (v4 + 1) _ hm _ _ hP hD hS ls (lv_sub hl [2, 3, 4, 1, 0] rfl)
set_option maxHeartbeats 4000000 in
set_option maxRecDepth 100000 in
theorem c_RRef_writeAll (l : Launch) (D : va_G) (ca : Nat → ClassId) (ad : Nat → Nat) (sz : Nat) (g : St_Ref) (p1 : Int32) (p2 : Int32) (res : Int32 × St_Ref) (hm : m_RRef_writeAll g p1 p2 = some res) : Met l y_RRef_writeAll (cws y_RRef_writeAll b_RRef_writeAll 5 (some .boolean)) (RM 1 23) (PreW D ca (wl_Ref ca ad g) [.ref (ad 0), .int p1, .int p2] sz) (QRm D (some (.int res.1)) (wl_Ref ca ad res.2) (va_A (wl_Ref ca ad g) sz)) 0 0 (va_A (wl_Ref ca ad g) sz) := by
  refine met_ofM (own := R_RRef) (by decide) rfl (Nat.le_of_ble_eq_true rfl) ?_
  intro p e s m below meth c A X hA hP hD ls hl
  obtain ⟨hx, hb, hml, hr, hown, hts, hK, hlocks⟩ := id X
  have hS : va_S A s.heap s.heap [] := va_S.rf
  have hl : lv_has ls 5 [(0, .ref (ad 0)), (1, .int p1), (2, .int p2)] := hl
  unfold m_RRef_writeAll at hm
  refine lv_iconst (v := 1) hx hb d_RRef_writeAll_0 (by decide) ?_
  refine lv_istore_n (lv' := [(3, .int 1), (0, .ref (ad 0)), (1, .int p1), (2, .int p2)]) hx hb d_RRef_writeAll_1 rfl hl (by decide) rfl (fun ls hl => ?_)
  refine lv_iconst (v := 1) hx hb d_RRef_writeAll_2 (by decide) ?_
  refine lv_istore (lv' := [(4, .int 1), (3, .int 1), (0, .ref (ad 0)), (1, .int p1), (2, .int p2)]) hx hb d_RRef_writeAll_3 hl (by decide) rfl (fun ls hl => ?_)
  exact k_m_RRef_writeAll_L5 X hA FU g p1 p2 1 1 _ hm _ _ hP hD hS ls (lv_sub hl [2, 3, 4, 1, 0] rfl)
set_option maxHeartbeats 4000000 in
set_option maxRecDepth 100000 in
theorem k_m_RRef_writePart_tape_L54 {p : Program} {l : Launch} {e : Env} {s : State} {m : MethodId} {args : Array Value} {below : List Frame} {meth : Method} {c : Code} {D : va_G} {ca : Nat → ClassId} {ad : Nat → Nat} {A : Nat → Prop} (X : Cx p s m args meth c R_RRef b_RRef_writePart 9 (some .int) D ca) (hA : ∀ q, s.heap.size ≤ q → A q)  : ∀ (n : Nat) (g : St_Ref) (v1 : Int32) (v2 : Int64) (v6 : Int32) (v7 : Int32) (v8 : Int32) (res : Int32 × St_Ref), m_RRef_writePart_tape_L54  n g v1 v2 v6 v7 v8 = some res → ∀ (H : Heap) (locs : List Loc), va_P D classes (wl_Ref ca ad g) H → va_D A (wl_Ref ca ad g) → va_S A s.heap H locs → ∀ ls : Array Slot, lv_has ls 9 [(0, .ref (ad 0)), (1, .int v1), (2, .long v2), (6, .int v6), (7, .int v7), (8, .int v8)] → W p l e (RM 2 47) s m args below meth c H locs 0 0 (MQ below (QRm D (some (.int res.1)) (wl_Ref ca ad res.2) A) args s 0 0 A) (F0 m 54 ls []) := by
  obtain ⟨hx, hb, hml, hr, hown, hts, hK, hlocks⟩ := id X
  intro n
  induction n with
  | zero =>
    intro g v1 v2 v6 v7 v8 res hm
    rw [m_RRef_writePart_tape_L54] at hm
    cases hm
  | succ n ih =>
    intro g v1 v2 v6 v7 v8 res hm H locs hP hD hS ls hl
    rw [m_RRef_writePart_tape_L54] at hm
    refine lv_iload hx hb d_RRef_writePart_54 (lv_at hl 5 rfl) ?_
    refine lv_iload hx hb d_RRef_writePart_56 (lv_at hl 3 rfl) ?_
    obtain ⟨q3, hq3, hm⟩ := ob hm
    refine inv_rS (As := [.int v6]) (rest := [.int v8]) (v := .int q3) X (c_RRef_bodies l D ca  _ v6 q3 hq3) g_RRef_112 yo_RRef_bodies ⟨Nat.le_of_ble_eq_true rfl, Nat.le_of_ble_eq_true rfl⟩ hl hP hD [] rfl rfl hS hA rfl rfl (Nat.le_of_ble_eq_true rfl) ⟨Nat.zero_le _, Nat.zero_le _⟩ d_RRef_writePart_58 (fun H locs hP hS => ?_)
    refine lv_icmp_gt (tgt := 81) hx hb d_RRef_writePart_61 (by decide) (fun c4 => ?_) (fun c4 => ?_)
    · replace hm := ip c4 hm
      refine lv_aload_n hx hb d_RRef_writePart_81 rfl (lv_at hl 0 rfl) ?_
      refine va_get (D := D) (ci := 6) (v := .ref (ad 17)) (C := R_RRef) (T := F_RRef) (N := 29) hx hb hts i_RRef hown hK hP 0 rfl rfl 26 (by decide) (hts _ wf_RRef_69) (fun _ h9 => h9) rfl d_RRef_writePart_82 ?_
      refine lv_iconst (v := 0) hx hb d_RRef_writePart_85 (by decide) ?_
      refine lv_iconst (v := 1) hx hb d_RRef_writePart_86 (by decide) ?_
      obtain ⟨b5, hm⟩ := on hm
      refine va_bast hx hb hK hP hD hS 17 0 rfl rfl b5 d_RRef_writePart_87 (fun H locs hP hD hS => ?_)
      replace hP : va_P D classes (wl_Ref ca ad (s_Rdraft g ((g_Rdraft g).1, upd (g_Rdraft g).2 (0 : Int32).toNatClampNeg (vp_nar .byte 1)))) H := hP
      replace hD : va_D A (wl_Ref ca ad (s_Rdraft g ((g_Rdraft g).1, upd (g_Rdraft g).2 (0 : Int32).toNatClampNeg (vp_nar .byte 1)))) := hD
      refine lv_aload_n hx hb d_RRef_writePart_88 rfl (lv_at hl 0 rfl) ?_
      refine va_get (D := D) (ci := 6) (v := .ref (ad 17)) (C := R_RRef) (T := F_RRef) (N := 29) hx hb hts i_RRef hown hK hP 0 rfl rfl 26 (by decide) (hts _ wf_RRef_69) (fun _ h9 => h9) rfl d_RRef_writePart_89 ?_
      refine lv_iconst (v := 1) hx hb d_RRef_writePart_92 (by decide) ?_
      refine lv_iload_n hx hb d_RRef_writePart_93 rfl (lv_at hl 1 rfl) ?_
      refine lv_i2b (v := ((v1).toInt8.toInt32)) hx hb d_RRef_writePart_94 rfl ?_
      obtain ⟨b6, hm⟩ := on hm
      refine va_bast hx hb hK hP hD hS 17 0 rfl rfl b6 d_RRef_writePart_95 (fun H locs hP hD hS => ?_)
      replace hP : va_P D classes (wl_Ref ca ad (s_Rdraft (s_Rdraft g ((g_Rdraft g).1, upd (g_Rdraft g).2 (0 : Int32).toNatClampNeg (vp_nar .byte 1))) (((g_Rdraft g).1, upd (g_Rdraft g).2 (0 : Int32).toNatClampNeg (vp_nar .byte 1)).1, upd ((g_Rdraft g).1, upd (g_Rdraft g).2 (0 : Int32).toNatClampNeg (vp_nar .byte 1)).2 (1 : Int32).toNatClampNeg (vp_nar .byte ((v1).toInt8.toInt32))))) H := hP
      replace hD : va_D A (wl_Ref ca ad (s_Rdraft (s_Rdraft g ((g_Rdraft g).1, upd (g_Rdraft g).2 (0 : Int32).toNatClampNeg (vp_nar .byte 1))) (((g_Rdraft g).1, upd (g_Rdraft g).2 (0 : Int32).toNatClampNeg (vp_nar .byte 1)).1, upd ((g_Rdraft g).1, upd (g_Rdraft g).2 (0 : Int32).toNatClampNeg (vp_nar .byte 1)).2 (1 : Int32).toNatClampNeg (vp_nar .byte ((v1).toInt8.toInt32))))) := hD
      refine lv_aload_n hx hb d_RRef_writePart_96 rfl (lv_at hl 0 rfl) ?_
      refine va_get (D := D) (ci := 6) (v := .ref (ad 17)) (C := R_RRef) (T := F_RRef) (N := 29) hx hb hts i_RRef hown hK hP 0 rfl rfl 26 (by decide) (hts _ wf_RRef_69) (fun _ h9 => h9) rfl d_RRef_writePart_97 ?_
      refine lv_iconst (v := 2) hx hb d_RRef_writePart_100 (by decide) ?_
      refine lv_iconst (v := 2) hx hb d_RRef_writePart_101 (by decide) ?_
      refine lv_iload hx hb d_RRef_writePart_102 (lv_at hl 3 rfl) ?_
      refine lv_i2l (v := ((v6).toInt64)) hx hb d_RRef_writePart_104 rfl ?_
      obtain ⟨q7, hq7, hm⟩ := ob hm
      refine inv_mS (As := [.ref (ad 17), .int 2, .int 2, .long ((v6).toInt64)]) (rest := []) (ws' := wl_Ref ca ad (s_Rdraft (s_Rdraft (s_Rdraft g ((g_Rdraft g).1, upd (g_Rdraft g).2 (0 : Int32).toNatClampNeg (vp_nar .byte 1))) (((g_Rdraft g).1, upd (g_Rdraft g).2 (0 : Int32).toNatClampNeg (vp_nar .byte 1)).1, upd ((g_Rdraft g).1, upd (g_Rdraft g).2 (0 : Int32).toNatClampNeg (vp_nar .byte 1)).2 (1 : Int32).toNatClampNeg (vp_nar .byte ((v1).toInt8.toInt32)))) q7)) X (c_RRef_put l D ca (ad 17) _ (((g_Rdraft g).1, upd (g_Rdraft g).2 (0 : Int32).toNatClampNeg (vp_nar .byte 1)).1, upd ((g_Rdraft g).1, upd (g_Rdraft g).2 (0 : Int32).toNatClampNeg (vp_nar .byte 1)).2 (1 : Int32).toNatClampNeg (vp_nar .byte ((v1).toInt8.toInt32))) 2 2 ((v6).toInt64) q7 hq7) g_RRef_102 yo_RRef_put ⟨Nat.le_of_ble_eq_true rfl, Nat.le_of_ble_eq_true rfl⟩ hl hP hD [17] rfl rfl rfl rfl hS hA rfl rfl (Nat.le_of_ble_eq_true rfl) ⟨Nat.zero_le _, Nat.zero_le _⟩ d_RRef_writePart_105 (fun H locs hP hD hS => ?_)
      refine lv_aload_n hx hb d_RRef_writePart_108 rfl (lv_at hl 0 rfl) ?_
      refine va_get (D := D) (ci := 6) (v := .ref (ad 17)) (C := R_RRef) (T := F_RRef) (N := 29) hx hb hts i_RRef hown hK hP 0 rfl rfl 26 (by decide) (hts _ wf_RRef_69) (fun _ h9 => h9) rfl d_RRef_writePart_109 ?_
      refine lv_iconst (v := 4) hx hb d_RRef_writePart_112 (by decide) ?_
      refine lv_iconst (v := 4) hx hb d_RRef_writePart_113 (by decide) ?_
      refine lv_aload_n hx hb d_RRef_writePart_114 rfl (lv_at hl 0 rfl) ?_
      refine va_get (D := D) (ci := 6) (v := .int (g_RlastPart g)) (C := R_RRef) (T := F_RRef) (N := 29) hx hb hts i_RRef hown hK hP 0 rfl rfl 23 (by decide) (hts _ wf_RRef_147) (fun _ h9 => h9) rfl d_RRef_writePart_115 ?_
      refine lv_iconst (v := 1) hx hb d_RRef_writePart_118 (by decide) ?_
      refine lv_iadd hx hb d_RRef_writePart_119 ?_
      refine lv_i2l (v := ((((g_RlastPart g) + 1)).toInt64)) hx hb d_RRef_writePart_120 rfl ?_
      obtain ⟨q8, hq8, hm⟩ := ob hm
      refine inv_mS (As := [.ref (ad 17), .int 4, .int 4, .long ((((g_RlastPart g) + 1)).toInt64)]) (rest := []) (ws' := wl_Ref ca ad (s_Rdraft (s_Rdraft (s_Rdraft (s_Rdraft g ((g_Rdraft g).1, upd (g_Rdraft g).2 (0 : Int32).toNatClampNeg (vp_nar .byte 1))) (((g_Rdraft g).1, upd (g_Rdraft g).2 (0 : Int32).toNatClampNeg (vp_nar .byte 1)).1, upd ((g_Rdraft g).1, upd (g_Rdraft g).2 (0 : Int32).toNatClampNeg (vp_nar .byte 1)).2 (1 : Int32).toNatClampNeg (vp_nar .byte ((v1).toInt8.toInt32)))) q7) q8)) X (c_RRef_put l D ca (ad 17) _ q7 4 4 ((((g_RlastPart g) + 1)).toInt64) q8 hq8) g_RRef_102 yo_RRef_put ⟨Nat.le_of_ble_eq_true rfl, Nat.le_of_ble_eq_true rfl⟩ hl hP hD [17] rfl rfl rfl rfl hS hA rfl rfl (Nat.le_of_ble_eq_true rfl) ⟨Nat.zero_le _, Nat.zero_le _⟩ d_RRef_writePart_121 (fun H locs hP hD hS => ?_)
      refine lv_aload_n hx hb d_RRef_writePart_124 rfl (lv_at hl 0 rfl) ?_
      refine va_get (D := D) (ci := 6) (v := .ref (ad 17)) (C := R_RRef) (T := F_RRef) (N := 29) hx hb hts i_RRef hown hK hP 0 rfl rfl 26 (by decide) (hts _ wf_RRef_69) (fun _ h9 => h9) rfl d_RRef_writePart_125 ?_
      refine lv_bipush (v := 8) hx hb d_RRef_writePart_128 (by decide) ?_
      refine lv_bipush (v := 8) hx hb d_RRef_writePart_130 (by decide) ?_
      refine lv_lload_n hx hb d_RRef_writePart_132 rfl (lv_at hl 2 rfl) ?_
      obtain ⟨q9, hq9, hm⟩ := ob hm
      refine inv_mS (As := [.ref (ad 17), .int 8, .int 8, .long v2]) (rest := []) (ws' := wl_Ref ca ad (s_Rdraft (s_Rdraft (s_Rdraft (s_Rdraft (s_Rdraft g ((g_Rdraft g).1, upd (g_Rdraft g).2 (0 : Int32).toNatClampNeg (vp_nar .byte 1))) (((g_Rdraft g).1, upd (g_Rdraft g).2 (0 : Int32).toNatClampNeg (vp_nar .byte 1)).1, upd ((g_Rdraft g).1, upd (g_Rdraft g).2 (0 : Int32).toNatClampNeg (vp_nar .byte 1)).2 (1 : Int32).toNatClampNeg (vp_nar .byte ((v1).toInt8.toInt32)))) q7) q8) q9)) X (c_RRef_put l D ca (ad 17) _ q8 8 8 v2 q9 hq9) g_RRef_102 yo_RRef_put ⟨Nat.le_of_ble_eq_true rfl, Nat.le_of_ble_eq_true rfl⟩ hl hP hD [17] rfl rfl rfl rfl hS hA rfl rfl (Nat.le_of_ble_eq_true rfl) ⟨Nat.zero_le _, Nat.zero_le _⟩ d_RRef_writePart_133 (fun H locs hP hD hS => ?_)
      refine lv_aload_n hx hb d_RRef_writePart_136 rfl (lv_at hl 0 rfl) ?_
      refine va_get (D := D) (ci := 6) (v := .ref (ad 17)) (C := R_RRef) (T := F_RRef) (N := 29) hx hb hts i_RRef hown hK hP 0 rfl rfl 26 (by decide) (hts _ wf_RRef_69) (fun _ h9 => h9) rfl d_RRef_writePart_137 ?_
      refine lv_bipush (v := 16) hx hb d_RRef_writePart_140 (by decide) ?_
      refine lv_bipush (v := 8) hx hb d_RRef_writePart_142 (by decide) ?_
      refine lv_aload_n hx hb d_RRef_writePart_144 rfl (lv_at hl 0 rfl) ?_
      refine va_get (D := D) (ci := 6) (v := .ref (ad 17)) (C := R_RRef) (T := F_RRef) (N := 29) hx hb hts i_RRef hown hK hP 0 rfl rfl 26 (by decide) (hts _ wf_RRef_69) (fun _ h9 => h9) rfl d_RRef_writePart_145 ?_
      refine lv_bipush (v := 32) hx hb d_RRef_writePart_148 (by decide) ?_
      refine lv_bipush (v := 32) hx hb d_RRef_writePart_150 (by decide) ?_
      refine lv_iload hx hb d_RRef_writePart_152 (lv_at hl 3 rfl) ?_
      obtain ⟨q10, hq10, hm⟩ := ob hm
      refine inv_rS (As := [.int v6]) (rest := [.int 32, .int 32, .ref (ad 17), .int 8, .int 16, .ref (ad 17)]) (v := .int q10) X (c_RRef_bodies l D ca  _ v6 q10 hq10) g_RRef_112 yo_RRef_bodies ⟨Nat.le_of_ble_eq_true rfl, Nat.le_of_ble_eq_true rfl⟩ hl hP hD [] rfl rfl hS hA rfl rfl (Nat.le_of_ble_eq_true rfl) ⟨Nat.zero_le _, Nat.zero_le _⟩ d_RRef_writePart_154 (fun H locs hP hS => ?_)
      refine lv_imul hx hb d_RRef_writePart_157 ?_
      obtain ⟨q11, hq11, hm⟩ := ob hm
      refine inv_rS (As := [.ref (ad 17), .int 32, .int (32 * q10)]) (rest := [.int 8, .int 16, .ref (ad 17)]) (v := .long q11) X (c_RRef_digest l D ca (ad 17) _ q9 32 (32 * q10) q11 hq11) g_RRef_89 yo_RRef_digest ⟨Nat.le_of_ble_eq_true rfl, Nat.le_of_ble_eq_true rfl⟩ hl hP hD [17] rfl rfl hS hA rfl rfl (Nat.le_of_ble_eq_true rfl) ⟨Nat.zero_le _, Nat.zero_le _⟩ d_RRef_writePart_158 (fun H locs hP hS => ?_)
      obtain ⟨q12, hq12, hm⟩ := ob hm
      refine inv_mS (As := [.ref (ad 17), .int 16, .int 8, .long q11]) (rest := []) (ws' := wl_Ref ca ad (s_Rdraft (s_Rdraft (s_Rdraft (s_Rdraft (s_Rdraft (s_Rdraft g ((g_Rdraft g).1, upd (g_Rdraft g).2 (0 : Int32).toNatClampNeg (vp_nar .byte 1))) (((g_Rdraft g).1, upd (g_Rdraft g).2 (0 : Int32).toNatClampNeg (vp_nar .byte 1)).1, upd ((g_Rdraft g).1, upd (g_Rdraft g).2 (0 : Int32).toNatClampNeg (vp_nar .byte 1)).2 (1 : Int32).toNatClampNeg (vp_nar .byte ((v1).toInt8.toInt32)))) q7) q8) q9) q12)) X (c_RRef_put l D ca (ad 17) _ q9 16 8 q11 q12 hq12) g_RRef_102 yo_RRef_put ⟨Nat.le_of_ble_eq_true rfl, Nat.le_of_ble_eq_true rfl⟩ hl hP hD [17] rfl rfl rfl rfl hS hA rfl rfl (Nat.le_of_ble_eq_true rfl) ⟨Nat.zero_le _, Nat.zero_le _⟩ d_RRef_writePart_161 (fun H locs hP hD hS => ?_)
      refine lv_aload_n hx hb d_RRef_writePart_164 rfl (lv_at hl 0 rfl) ?_
      obtain ⟨q13, hq13, hm⟩ := ob hm
      refine inv_mUa (C := R_RRef) (As := []) (rest := []) X (c_RRef_sumDraft l D ca ad _ (s_Rdraft (s_Rdraft (s_Rdraft (s_Rdraft (s_Rdraft (s_Rdraft g ((g_Rdraft g).1, upd (g_Rdraft g).2 (0 : Int32).toNatClampNeg (vp_nar .byte 1))) (((g_Rdraft g).1, upd (g_Rdraft g).2 (0 : Int32).toNatClampNeg (vp_nar .byte 1)).1, upd ((g_Rdraft g).1, upd (g_Rdraft g).2 (0 : Int32).toNatClampNeg (vp_nar .byte 1)).2 (1 : Int32).toNatClampNeg (vp_nar .byte ((v1).toInt8.toInt32)))) q7) q8) q9) q12) q13 hq13) g_RRef_179 yo_RRef_sumDraft ⟨Nat.le_of_ble_eq_true rfl, Nat.le_of_ble_eq_true rfl⟩ hl hP hD rfl (ci := 6) rfl rfl hS hA rfl rfl (Nat.le_of_ble_eq_true rfl) ⟨Nat.zero_le _, Nat.zero_le _⟩ d_RRef_writePart_165 (fun H locs hP hD hS => ?_)
      refine lv_aload_n hx hb d_RRef_writePart_168 rfl (lv_at hl 0 rfl) ?_
      refine lv_iload hx hb d_RRef_writePart_169 (lv_at hl 4 rfl) ?_
      refine lv_iconst (v := 1) hx hb d_RRef_writePart_171 (by decide) ?_
      refine lv_iload hx hb d_RRef_writePart_172 (lv_at hl 3 rfl) ?_
      obtain ⟨q14, hq14, hm⟩ := ob hm
      refine inv_rS (As := [.int v6]) (rest := [.int 1, .int v7, .ref (ad 0)]) (v := .int q14) X (c_RRef_bodies l D ca  _ v6 q14 hq14) g_RRef_112 yo_RRef_bodies ⟨Nat.le_of_ble_eq_true rfl, Nat.le_of_ble_eq_true rfl⟩ hl hP hD [] rfl rfl hS hA rfl rfl (Nat.le_of_ble_eq_true rfl) ⟨Nat.zero_le _, Nat.zero_le _⟩ d_RRef_writePart_174 (fun H locs hP hS => ?_)
      refine lv_iadd hx hb d_RRef_writePart_177 ?_
      obtain ⟨q15, hq15, hm⟩ := ob hm
      refine inv_mVa (C := R_RRef) (As := [.int v7, .int (1 + q14)]) (rest := []) (v := .int q15.1) X (c_RRef_writeAll l D ca ad _ q13 v7 (1 + q14) q15 hq15) g_RRef_182 yo_RRef_writeAll ⟨Nat.le_of_ble_eq_true rfl, Nat.le_of_ble_eq_true rfl⟩ hl hP hD rfl (ci := 6) rfl rfl hS hA rfl rfl (Nat.le_of_ble_eq_true rfl) ⟨Nat.zero_le _, Nat.zero_le _⟩ d_RRef_writePart_178 (fun H locs hP hD hS => ?_)
      refine lv_if_ne (tgt := 187) hx hb d_RRef_writePart_181 (by decide) (fun c16 => ?_) (fun c16 => ?_)
      · replace hm := ineg c16 hm
        refine lv_aload_n hx hb d_RRef_writePart_187 rfl (lv_at hl 0 rfl) ?_
        refine lv_dup hx hb d_RRef_writePart_188 rfl ?_
        refine va_get (D := D) (ci := 6) (v := .int (g_RlastPart q15.2)) (C := R_RRef) (T := F_RRef) (N := 29) hx hb hts i_RRef hown hK hP 0 rfl rfl 23 (by decide) (hts _ wf_RRef_147) (fun _ h9 => h9) rfl d_RRef_writePart_189 ?_
        refine lv_iconst (v := 1) hx hb d_RRef_writePart_192 (by decide) ?_
        refine lv_iadd hx hb d_RRef_writePart_193 ?_
        refine va_put (D := D) (ci := 6) (v := .int ((g_RlastPart q15.2) + 1)) (ty := .int) (C := R_RRef) (T := F_RRef) (N := 29) hx hb hts i_RRef t_RRef t_RRef_ok n_RRef hown hK hP hD hS 0 rfl rfl 23 (by decide) (hts _ wf_RRef_147) (fun _ h9 => h9) rfl (by decide +kernel) rfl rfl (Nat.le_of_ble_eq_true rfl) d_RRef_writePart_194 (fun H locs hP hD hS => ?_)
        replace hP : va_P D classes (wl_Ref ca ad (s_RlastPart q15.2 ((g_RlastPart q15.2) + 1))) H := hP
        replace hD : va_D A (wl_Ref ca ad (s_RlastPart q15.2 ((g_RlastPart q15.2) + 1))) := hD
        refine lv_aload_n hx hb d_RRef_writePart_197 rfl (lv_at hl 0 rfl) ?_
        refine va_get (D := D) (ci := 6) (v := .ref (ad 3)) (C := R_RRef) (T := F_RRef) (N := 29) hx hb hts i_RRef hown hK hP 0 rfl rfl 7 (by decide) (hts _ wf_RRef_24) (fun _ h9 => h9) rfl d_RRef_writePart_198 ?_
        refine lv_aload_n hx hb d_RRef_writePart_201 rfl (lv_at hl 0 rfl) ?_
        refine va_get (D := D) (ci := 6) (v := .int (g_Rparts q15.2)) (C := R_RRef) (T := F_RRef) (N := 29) hx hb hts i_RRef hown hK hP 0 rfl rfl 12 (by decide) (hts _ wf_RRef_106) (fun _ h9 => h9) rfl d_RRef_writePart_202 ?_
        refine lv_aload_n hx hb d_RRef_writePart_205 rfl (lv_at hl 0 rfl) ?_
        refine va_get (D := D) (ci := 6) (v := .int ((g_RlastPart q15.2) + 1)) (C := R_RRef) (T := F_RRef) (N := 29) hx hb hts i_RRef hown hK hP 0 rfl rfl 23 (by decide) (hts _ wf_RRef_147) (fun _ h9 => h9) rfl d_RRef_writePart_206 ?_
        obtain ⟨b17, hm⟩ := on hm
        refine va_iast hx hb hK hP hD hS 3 2 rfl rfl b17 d_RRef_writePart_209 (fun H locs hP hD hS => ?_)
        replace hP : va_P D classes (wl_Ref ca ad (s_RpNumber (s_RlastPart q15.2 ((g_RlastPart q15.2) + 1)) ((g_RpNumber q15.2).1, upd (g_RpNumber q15.2).2 ((g_Rparts q15.2)).toNatClampNeg ((g_RlastPart q15.2) + 1)))) H := hP
        replace hD : va_D A (wl_Ref ca ad (s_RpNumber (s_RlastPart q15.2 ((g_RlastPart q15.2) + 1)) ((g_RpNumber q15.2).1, upd (g_RpNumber q15.2).2 ((g_Rparts q15.2)).toNatClampNeg ((g_RlastPart q15.2) + 1)))) := hD
        refine lv_aload_n hx hb d_RRef_writePart_210 rfl (lv_at hl 0 rfl) ?_
        refine va_get (D := D) (ci := 6) (v := .ref (ad 4)) (C := R_RRef) (T := F_RRef) (N := 29) hx hb hts i_RRef hown hK hP 0 rfl rfl 8 (by decide) (hts _ wf_RRef_28) (fun _ h9 => h9) rfl d_RRef_writePart_211 ?_
        refine lv_aload_n hx hb d_RRef_writePart_214 rfl (lv_at hl 0 rfl) ?_
        refine va_get (D := D) (ci := 6) (v := .int (g_Rparts q15.2)) (C := R_RRef) (T := F_RRef) (N := 29) hx hb hts i_RRef hown hK hP 0 rfl rfl 12 (by decide) (hts _ wf_RRef_106) (fun _ h9 => h9) rfl d_RRef_writePart_215 ?_
        refine lv_iload_n hx hb d_RRef_writePart_218 rfl (lv_at hl 1 rfl) ?_
        obtain ⟨b18, hm⟩ := on hm
        refine va_iast hx hb hK hP hD hS 4 2 rfl rfl b18 d_RRef_writePart_219 (fun H locs hP hD hS => ?_)
        replace hP : va_P D classes (wl_Ref ca ad (s_RpGroup (s_RpNumber (s_RlastPart q15.2 ((g_RlastPart q15.2) + 1)) ((g_RpNumber q15.2).1, upd (g_RpNumber q15.2).2 ((g_Rparts q15.2)).toNatClampNeg ((g_RlastPart q15.2) + 1))) ((g_RpGroup q15.2).1, upd (g_RpGroup q15.2).2 ((g_Rparts q15.2)).toNatClampNeg v1))) H := hP
        replace hD : va_D A (wl_Ref ca ad (s_RpGroup (s_RpNumber (s_RlastPart q15.2 ((g_RlastPart q15.2) + 1)) ((g_RpNumber q15.2).1, upd (g_RpNumber q15.2).2 ((g_Rparts q15.2)).toNatClampNeg ((g_RlastPart q15.2) + 1))) ((g_RpGroup q15.2).1, upd (g_RpGroup q15.2).2 ((g_Rparts q15.2)).toNatClampNeg v1))) := hD
        refine lv_aload_n hx hb d_RRef_writePart_220 rfl (lv_at hl 0 rfl) ?_
        refine va_get (D := D) (ci := 6) (v := .ref (ad 5)) (C := R_RRef) (T := F_RRef) (N := 29) hx hb hts i_RRef hown hK hP 0 rfl rfl 9 (by decide) (hts _ wf_RRef_31) (fun _ h9 => h9) rfl d_RRef_writePart_221 ?_
        refine lv_aload_n hx hb d_RRef_writePart_224 rfl (lv_at hl 0 rfl) ?_
        refine va_get (D := D) (ci := 6) (v := .int (g_Rparts q15.2)) (C := R_RRef) (T := F_RRef) (N := 29) hx hb hts i_RRef hown hK hP 0 rfl rfl 12 (by decide) (hts _ wf_RRef_106) (fun _ h9 => h9) rfl d_RRef_writePart_225 ?_
        refine lv_lload_n hx hb d_RRef_writePart_228 rfl (lv_at hl 2 rfl) ?_
        obtain ⟨b19, hm⟩ := on hm
        refine va_last hx hb hK hP hD hS 5 3 rfl rfl b19 d_RRef_writePart_229 (fun H locs hP hD hS => ?_)
        replace hP : va_P D classes (wl_Ref ca ad (s_RpPosition (s_RpGroup (s_RpNumber (s_RlastPart q15.2 ((g_RlastPart q15.2) + 1)) ((g_RpNumber q15.2).1, upd (g_RpNumber q15.2).2 ((g_Rparts q15.2)).toNatClampNeg ((g_RlastPart q15.2) + 1))) ((g_RpGroup q15.2).1, upd (g_RpGroup q15.2).2 ((g_Rparts q15.2)).toNatClampNeg v1)) ((g_RpPosition q15.2).1, vp_updL (g_RpPosition q15.2).2 ((g_Rparts q15.2)).toNatClampNeg v2))) H := hP
        replace hD : va_D A (wl_Ref ca ad (s_RpPosition (s_RpGroup (s_RpNumber (s_RlastPart q15.2 ((g_RlastPart q15.2) + 1)) ((g_RpNumber q15.2).1, upd (g_RpNumber q15.2).2 ((g_Rparts q15.2)).toNatClampNeg ((g_RlastPart q15.2) + 1))) ((g_RpGroup q15.2).1, upd (g_RpGroup q15.2).2 ((g_Rparts q15.2)).toNatClampNeg v1)) ((g_RpPosition q15.2).1, vp_updL (g_RpPosition q15.2).2 ((g_Rparts q15.2)).toNatClampNeg v2))) := hD
        refine lv_aload_n hx hb d_RRef_writePart_230 rfl (lv_at hl 0 rfl) ?_
        refine va_get (D := D) (ci := 6) (v := .ref (ad 6)) (C := R_RRef) (T := F_RRef) (N := 29) hx hb hts i_RRef hown hK hP 0 rfl rfl 10 (by decide) (hts _ wf_RRef_35) (fun _ h9 => h9) rfl d_RRef_writePart_231 ?_
        refine lv_aload_n hx hb d_RRef_writePart_234 rfl (lv_at hl 0 rfl) ?_
        refine va_get (D := D) (ci := 6) (v := .int (g_Rparts q15.2)) (C := R_RRef) (T := F_RRef) (N := 29) hx hb hts i_RRef hown hK hP 0 rfl rfl 12 (by decide) (hts _ wf_RRef_106) (fun _ h9 => h9) rfl d_RRef_writePart_235 ?_
        refine lv_iload hx hb d_RRef_writePart_238 (lv_at hl 3 rfl) ?_
        obtain ⟨b20, hm⟩ := on hm
        refine va_iast hx hb hK hP hD hS 6 2 rfl rfl b20 d_RRef_writePart_240 (fun H locs hP hD hS => ?_)
        replace hP : va_P D classes (wl_Ref ca ad (s_RpLength (s_RpPosition (s_RpGroup (s_RpNumber (s_RlastPart q15.2 ((g_RlastPart q15.2) + 1)) ((g_RpNumber q15.2).1, upd (g_RpNumber q15.2).2 ((g_Rparts q15.2)).toNatClampNeg ((g_RlastPart q15.2) + 1))) ((g_RpGroup q15.2).1, upd (g_RpGroup q15.2).2 ((g_Rparts q15.2)).toNatClampNeg v1)) ((g_RpPosition q15.2).1, vp_updL (g_RpPosition q15.2).2 ((g_Rparts q15.2)).toNatClampNeg v2)) ((g_RpLength q15.2).1, upd (g_RpLength q15.2).2 ((g_Rparts q15.2)).toNatClampNeg v6))) H := hP
        replace hD : va_D A (wl_Ref ca ad (s_RpLength (s_RpPosition (s_RpGroup (s_RpNumber (s_RlastPart q15.2 ((g_RlastPart q15.2) + 1)) ((g_RpNumber q15.2).1, upd (g_RpNumber q15.2).2 ((g_Rparts q15.2)).toNatClampNeg ((g_RlastPart q15.2) + 1))) ((g_RpGroup q15.2).1, upd (g_RpGroup q15.2).2 ((g_Rparts q15.2)).toNatClampNeg v1)) ((g_RpPosition q15.2).1, vp_updL (g_RpPosition q15.2).2 ((g_Rparts q15.2)).toNatClampNeg v2)) ((g_RpLength q15.2).1, upd (g_RpLength q15.2).2 ((g_Rparts q15.2)).toNatClampNeg v6))) := hD
        refine lv_aload_n hx hb d_RRef_writePart_241 rfl (lv_at hl 0 rfl) ?_
        refine va_get (D := D) (ci := 6) (v := .ref (ad 7)) (C := R_RRef) (T := F_RRef) (N := 29) hx hb hts i_RRef hown hK hP 0 rfl rfl 11 (by decide) (hts _ wf_RRef_38) (fun _ h9 => h9) rfl d_RRef_writePart_242 ?_
        refine lv_aload_n hx hb d_RRef_writePart_245 rfl (lv_at hl 0 rfl) ?_
        refine va_get (D := D) (ci := 6) (v := .int (g_Rparts q15.2)) (C := R_RRef) (T := F_RRef) (N := 29) hx hb hts i_RRef hown hK hP 0 rfl rfl 12 (by decide) (hts _ wf_RRef_106) (fun _ h9 => h9) rfl d_RRef_writePart_246 ?_
        refine lv_iload hx hb d_RRef_writePart_249 (lv_at hl 4 rfl) ?_
        obtain ⟨b21, hm⟩ := on hm
        refine va_iast hx hb hK hP hD hS 7 2 rfl rfl b21 d_RRef_writePart_251 (fun H locs hP hD hS => ?_)
        replace hP : va_P D classes (wl_Ref ca ad (s_RpRow (s_RpLength (s_RpPosition (s_RpGroup (s_RpNumber (s_RlastPart q15.2 ((g_RlastPart q15.2) + 1)) ((g_RpNumber q15.2).1, upd (g_RpNumber q15.2).2 ((g_Rparts q15.2)).toNatClampNeg ((g_RlastPart q15.2) + 1))) ((g_RpGroup q15.2).1, upd (g_RpGroup q15.2).2 ((g_Rparts q15.2)).toNatClampNeg v1)) ((g_RpPosition q15.2).1, vp_updL (g_RpPosition q15.2).2 ((g_Rparts q15.2)).toNatClampNeg v2)) ((g_RpLength q15.2).1, upd (g_RpLength q15.2).2 ((g_Rparts q15.2)).toNatClampNeg v6)) ((g_RpRow q15.2).1, upd (g_RpRow q15.2).2 ((g_Rparts q15.2)).toNatClampNeg v7))) H := hP
        replace hD : va_D A (wl_Ref ca ad (s_RpRow (s_RpLength (s_RpPosition (s_RpGroup (s_RpNumber (s_RlastPart q15.2 ((g_RlastPart q15.2) + 1)) ((g_RpNumber q15.2).1, upd (g_RpNumber q15.2).2 ((g_Rparts q15.2)).toNatClampNeg ((g_RlastPart q15.2) + 1))) ((g_RpGroup q15.2).1, upd (g_RpGroup q15.2).2 ((g_Rparts q15.2)).toNatClampNeg v1)) ((g_RpPosition q15.2).1, vp_updL (g_RpPosition q15.2).2 ((g_Rparts q15.2)).toNatClampNeg v2)) ((g_RpLength q15.2).1, upd (g_RpLength q15.2).2 ((g_Rparts q15.2)).toNatClampNeg v6)) ((g_RpRow q15.2).1, upd (g_RpRow q15.2).2 ((g_Rparts q15.2)).toNatClampNeg v7))) := hD
        refine lv_aload_n hx hb d_RRef_writePart_252 rfl (lv_at hl 0 rfl) ?_
        refine lv_dup hx hb d_RRef_writePart_253 rfl ?_
        refine va_get (D := D) (ci := 6) (v := .int (g_Rparts q15.2)) (C := R_RRef) (T := F_RRef) (N := 29) hx hb hts i_RRef hown hK hP 0 rfl rfl 12 (by decide) (hts _ wf_RRef_106) (fun _ h9 => h9) rfl d_RRef_writePart_254 ?_
        refine lv_iconst (v := 1) hx hb d_RRef_writePart_257 (by decide) ?_
        refine lv_iadd hx hb d_RRef_writePart_258 ?_
        refine va_put (D := D) (ci := 6) (v := .int ((g_Rparts q15.2) + 1)) (ty := .int) (C := R_RRef) (T := F_RRef) (N := 29) hx hb hts i_RRef t_RRef t_RRef_ok n_RRef hown hK hP hD hS 0 rfl rfl 12 (by decide) (hts _ wf_RRef_106) (fun _ h9 => h9) rfl (by decide +kernel) rfl rfl (Nat.le_of_ble_eq_true rfl) d_RRef_writePart_259 (fun H locs hP hD hS => ?_)
        replace hP : va_P D classes (wl_Ref ca ad (s_Rparts (s_RpRow (s_RpLength (s_RpPosition (s_RpGroup (s_RpNumber (s_RlastPart q15.2 ((g_RlastPart q15.2) + 1)) ((g_RpNumber q15.2).1, upd (g_RpNumber q15.2).2 ((g_Rparts q15.2)).toNatClampNeg ((g_RlastPart q15.2) + 1))) ((g_RpGroup q15.2).1, upd (g_RpGroup q15.2).2 ((g_Rparts q15.2)).toNatClampNeg v1)) ((g_RpPosition q15.2).1, vp_updL (g_RpPosition q15.2).2 ((g_Rparts q15.2)).toNatClampNeg v2)) ((g_RpLength q15.2).1, upd (g_RpLength q15.2).2 ((g_Rparts q15.2)).toNatClampNeg v6)) ((g_RpRow q15.2).1, upd (g_RpRow q15.2).2 ((g_Rparts q15.2)).toNatClampNeg v7)) ((g_Rparts q15.2) + 1))) H := hP
        replace hD : va_D A (wl_Ref ca ad (s_Rparts (s_RpRow (s_RpLength (s_RpPosition (s_RpGroup (s_RpNumber (s_RlastPart q15.2 ((g_RlastPart q15.2) + 1)) ((g_RpNumber q15.2).1, upd (g_RpNumber q15.2).2 ((g_Rparts q15.2)).toNatClampNeg ((g_RlastPart q15.2) + 1))) ((g_RpGroup q15.2).1, upd (g_RpGroup q15.2).2 ((g_Rparts q15.2)).toNatClampNeg v1)) ((g_RpPosition q15.2).1, vp_updL (g_RpPosition q15.2).2 ((g_Rparts q15.2)).toNatClampNeg v2)) ((g_RpLength q15.2).1, upd (g_RpLength q15.2).2 ((g_Rparts q15.2)).toNatClampNeg v6)) ((g_RpRow q15.2).1, upd (g_RpRow q15.2).2 ((g_Rparts q15.2)).toNatClampNeg v7)) ((g_Rparts q15.2) + 1))) := hD
        refine lv_aload_n hx hb d_RRef_writePart_262 rfl (lv_at hl 0 rfl) ?_
        refine va_get (D := D) (ci := 6) (v := .int ((g_RlastPart q15.2) + 1)) (C := R_RRef) (T := F_RRef) (N := 29) hx hb hts i_RRef hown hK hP 0 rfl rfl 23 (by decide) (hts _ wf_RRef_147) (fun _ h9 => h9) rfl d_RRef_writePart_263 ?_
        cases hm
        exact ret_mi X hP hS d_RRef_writePart_266
      · replace hm := ip c16 hm
        refine lv_bipush (v := (-5)) hx hb d_RRef_writePart_184 (by decide) ?_
        cases hm
        exact ret_mi X hP hS d_RRef_writePart_186
    · replace hm := ineg c4 hm
      refine lv_aload_n hx hb d_RRef_writePart_64 rfl (lv_at hl 0 rfl) ?_
      refine va_get (D := D) (ci := 6) (v := .ref (ad 17)) (C := R_RRef) (T := F_RRef) (N := 29) hx hb hts i_RRef hown hK hP 0 rfl rfl 26 (by decide) (hts _ wf_RRef_69) (fun _ h9 => h9) rfl d_RRef_writePart_65 ?_
      refine lv_bipush (v := 32) hx hb d_RRef_writePart_68 (by decide) ?_
      refine lv_iload hx hb d_RRef_writePart_70 (lv_at hl 5 rfl) ?_
      refine lv_imul hx hb d_RRef_writePart_72 ?_
      refine lv_iconst (v := 5) hx hb d_RRef_writePart_73 (by decide) ?_
      obtain ⟨b22, hm⟩ := on hm
      refine va_bast hx hb hK hP hD hS 17 0 rfl rfl b22 d_RRef_writePart_74 (fun H locs hP hD hS => ?_)
      replace hP : va_P D classes (wl_Ref ca ad (s_Rdraft g ((g_Rdraft g).1, upd (g_Rdraft g).2 ((32 * v8)).toNatClampNeg (vp_nar .byte 5)))) H := hP
      replace hD : va_D A (wl_Ref ca ad (s_Rdraft g ((g_Rdraft g).1, upd (g_Rdraft g).2 ((32 * v8)).toNatClampNeg (vp_nar .byte 5)))) := hD
      refine lv_iinc (v := (v8 + 1)) (lv' := [(8, .int (v8 + 1)), (0, .ref (ad 0)), (1, .int v1), (2, .long v2), (6, .int v6), (7, .int v7)]) hx hb d_RRef_writePart_75 hl (k := 5) rfl rfl (by decide) rfl (fun ls hl => ?_)
      refine lv_goto (tgt := 54) hx hb d_RRef_writePart_78 (by decide) ?_
      exact ih (s_Rdraft g ((g_Rdraft g).1, upd (g_Rdraft g).2 ((32 * v8)).toNatClampNeg (vp_nar .byte 5))) v1 v2 v6 v7 (v8 + 1) _ hm _ _ hP hD hS ls (lv_sub hl [1, 2, 3, 4, 5, 0] rfl)
set_option maxHeartbeats 4000000 in
set_option maxRecDepth 100000 in
theorem k_m_RRef_writePart_tape_L7 {p : Program} {l : Launch} {e : Env} {s : State} {m : MethodId} {args : Array Value} {below : List Frame} {meth : Method} {c : Code} {D : va_G} {ca : Nat → ClassId} {ad : Nat → Nat} {A : Nat → Prop} (X : Cx p s m args meth c R_RRef b_RRef_writePart 9 (some .int) D ca) (hA : ∀ q, s.heap.size ≤ q → A q)  : ∀ (n : Nat) (g : St_Ref) (v1 : Int32) (v2 : Int64) (v5 : Int32) (v6 : Int32) (v7 : Int32) (v8 : Int32) (res : Int32 × St_Ref), m_RRef_writePart_tape_L7  n g v1 v2 v5 v6 v7 v8 = some res → ∀ (H : Heap) (locs : List Loc), va_P D classes (wl_Ref ca ad g) H → va_D A (wl_Ref ca ad g) → va_S A s.heap H locs → ∀ ls : Array Slot, lv_has ls 9 [(0, .ref (ad 0)), (1, .int v1), (2, .long v2), (4, .ref (ad 2)), (5, .int v5), (6, .int v6), (7, .int v7), (8, .int v8)] → W p l e (RM 2 47) s m args below meth c H locs 0 0 (MQ below (QRm D (some (.int res.1)) (wl_Ref ca ad res.2) A) args s 0 0 A) (F0 m 7 ls []) := by
  obtain ⟨hx, hb, hml, hr, hown, hts, hK, hlocks⟩ := id X
  intro n
  induction n with
  | zero =>
    intro g v1 v2 v5 v6 v7 v8 res hm
    rw [m_RRef_writePart_tape_L7] at hm
    cases hm
  | succ n ih =>
    intro g v1 v2 v5 v6 v7 v8 res hm H locs hP hD hS ls hl
    rw [m_RRef_writePart_tape_L7] at hm
    refine lv_iload hx hb d_RRef_writePart_7 (lv_at hl 7 rfl) ?_
    refine lv_iload hx hb d_RRef_writePart_9 (lv_at hl 5 rfl) ?_
    refine lv_icmp_ge (tgt := 51) hx hb d_RRef_writePart_11 (by decide) (fun c2 => ?_) (fun c2 => ?_)
    · replace hm := ip c2 hm
      refine lv_iconst (v := 1) hx hb d_RRef_writePart_51 (by decide) ?_
      refine lv_istore (lv' := [(8, .int 1), (0, .ref (ad 0)), (1, .int v1), (2, .long v2), (4, .ref (ad 2)), (5, .int v5), (6, .int v6), (7, .int v7)]) hx hb d_RRef_writePart_52 hl (by decide) rfl (fun ls hl => ?_)
      exact k_m_RRef_writePart_tape_L54 X hA FU g v1 v2 v6 v7 1 _ hm _ _ hP hD hS ls (lv_sub hl [1, 2, 3, 6, 7, 0] rfl)
    · replace hm := ineg c2 hm
      refine lv_aload_n hx hb d_RRef_writePart_14 rfl (lv_at hl 0 rfl) ?_
      refine va_get (D := D) (ci := 6) (v := .ref (ad 17)) (C := R_RRef) (T := F_RRef) (N := 29) hx hb hts i_RRef hown hK hP 0 rfl rfl 26 (by decide) (hts _ wf_RRef_69) (fun _ h9 => h9) rfl d_RRef_writePart_15 ?_
      refine lv_bipush (v := 32) hx hb d_RRef_writePart_18 (by decide) ?_
      refine lv_iconst (v := 1) hx hb d_RRef_writePart_20 (by decide) ?_
      refine lv_iload hx hb d_RRef_writePart_21 (lv_at hl 7 rfl) ?_
      refine lv_bipush (v := 31) hx hb d_RRef_writePart_23 (by decide) ?_
      refine lv_idiv hx hb d_RRef_writePart_25 (by decide) ?_
      refine lv_iadd hx hb d_RRef_writePart_26 ?_
      refine lv_imul hx hb d_RRef_writePart_27 ?_
      refine lv_iconst (v := 1) hx hb d_RRef_writePart_28 (by decide) ?_
      refine lv_iadd hx hb d_RRef_writePart_29 ?_
      refine lv_iload hx hb d_RRef_writePart_30 (lv_at hl 7 rfl) ?_
      refine lv_bipush (v := 31) hx hb d_RRef_writePart_32 (by decide) ?_
      refine lv_irem hx hb d_RRef_writePart_34 (by decide) ?_
      refine lv_iadd hx hb d_RRef_writePart_35 ?_
      refine lv_aload hx hb d_RRef_writePart_36 (lv_at hl 3 rfl) ?_
      refine lv_iload hx hb d_RRef_writePart_38 (lv_at hl 4 rfl) ?_
      refine lv_iload hx hb d_RRef_writePart_40 (lv_at hl 7 rfl) ?_
      refine lv_iadd hx hb d_RRef_writePart_42 ?_
      obtain ⟨b23, hm⟩ := on hm
      refine va_bald hx hb hK hP 2 0 rfl rfl b23 d_RRef_writePart_43 ?_
      obtain ⟨b24, hm⟩ := on hm
      refine va_bast hx hb hK hP hD hS 17 0 rfl rfl b24 d_RRef_writePart_44 (fun H locs hP hD hS => ?_)
      replace hP : va_P D classes (wl_Ref ca ad (s_Rdraft g ((g_Rdraft g).1, upd (g_Rdraft g).2 ((((32 * (1 + (v8 / 31))) + 1) + (jrem v8 31))).toNatClampNeg (vp_nar .byte ((g_Rtape g).2 ((v5 + v8)).toNatClampNeg))))) H := hP
      replace hD : va_D A (wl_Ref ca ad (s_Rdraft g ((g_Rdraft g).1, upd (g_Rdraft g).2 ((((32 * (1 + (v8 / 31))) + 1) + (jrem v8 31))).toNatClampNeg (vp_nar .byte ((g_Rtape g).2 ((v5 + v8)).toNatClampNeg))))) := hD
      refine lv_iinc (v := (v8 + 1)) (lv' := [(8, .int (v8 + 1)), (0, .ref (ad 0)), (1, .int v1), (2, .long v2), (4, .ref (ad 2)), (5, .int v5), (6, .int v6), (7, .int v7)]) hx hb d_RRef_writePart_45 hl (k := 7) rfl rfl (by decide) rfl (fun ls hl => ?_)
      refine lv_goto (tgt := 7) hx hb d_RRef_writePart_48 (by decide) ?_
      exact ih (s_Rdraft g ((g_Rdraft g).1, upd (g_Rdraft g).2 ((((32 * (1 + (v8 / 31))) + 1) + (jrem v8 31))).toNatClampNeg (vp_nar .byte ((g_Rtape g).2 ((v5 + v8)).toNatClampNeg)))) v1 v2 v5 v6 v7 (v8 + 1) _ hm _ _ hP hD hS ls (lv_sub hl [1, 2, 3, 4, 5, 6, 7, 0] rfl)
set_option maxHeartbeats 4000000 in
set_option maxRecDepth 100000 in
theorem c_RRef_writePart_tape (l : Launch) (D : va_G) (ca : Nat → ClassId) (ad : Nat → Nat) (sz : Nat) (g : St_Ref) (p1 : Int32) (p2 : Int64) (p5 : Int32) (p6 : Int32) (p7 : Int32) (res : Int32 × St_Ref) (hm : m_RRef_writePart_tape g p1 p2 p5 p6 p7 = some res) : Met l y_RRef_writePart (cws y_RRef_writePart b_RRef_writePart 9 (some .int)) (RM 2 47) (PreW D ca (wl_Ref ca ad g) [.ref (ad 0), .int p1, .long p2, .ref (ad 2), .int p5, .int p6, .int p7] sz) (QRm D (some (.int res.1)) (wl_Ref ca ad res.2) (va_A (wl_Ref ca ad g) sz)) 0 0 (va_A (wl_Ref ca ad g) sz) := by
  refine met_ofM (own := R_RRef) (by decide) rfl (Nat.le_of_ble_eq_true rfl) ?_
  intro p e s m below meth c A X hA hP hD ls hl
  obtain ⟨hx, hb, hml, hr, hown, hts, hK, hlocks⟩ := id X
  have hS : va_S A s.heap s.heap [] := va_S.rf
  have hl : lv_has ls 9 [(0, .ref (ad 0)), (1, .int p1), (2, .long p2), (4, .ref (ad 2)), (5, .int p5), (6, .int p6), (7, .int p7)] := hl
  unfold m_RRef_writePart_tape at hm
  refine lv_aload_n hx hb d_RRef_writePart_0 rfl (lv_at hl 0 rfl) ?_
  obtain ⟨q1, hq1, hm⟩ := ob hm
  refine inv_mUa (C := R_RRef) (As := []) (rest := []) X (c_RRef_clearDraft l D ca ad _ g q1 hq1) g_RRef_99 yo_RRef_clearDraft ⟨Nat.le_of_ble_eq_true rfl, Nat.le_of_ble_eq_true rfl⟩ hl hP hD rfl (ci := 6) rfl rfl hS hA rfl rfl (Nat.le_of_ble_eq_true rfl) ⟨Nat.zero_le _, Nat.zero_le _⟩ d_RRef_writePart_1 (fun H locs hP hD hS => ?_)
  refine lv_iconst (v := 0) hx hb d_RRef_writePart_4 (by decide) ?_
  refine lv_istore (lv' := [(8, .int 0), (0, .ref (ad 0)), (1, .int p1), (2, .long p2), (4, .ref (ad 2)), (5, .int p5), (6, .int p6), (7, .int p7)]) hx hb d_RRef_writePart_5 hl (by decide) rfl (fun ls hl => ?_)
  exact k_m_RRef_writePart_tape_L7 X hA FU q1 p1 p2 p5 p6 p7 0 _ hm _ _ hP hD hS ls (lv_sub hl [1, 2, 3, 4, 5, 6, 7, 0] rfl)
