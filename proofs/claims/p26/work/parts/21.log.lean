set_option maxHeartbeats 4000000 in
set_option maxRecDepth 100000 in
theorem c_Log_owner (l : Launch) (D : va_G) (ca : Nat → ClassId) (ad : Nat → Nat) (sz : Nat) (g : St_Log) (p1 : Int32) (res : Int32 × St_Log) (hm : m_Log_owner g p1 = some res) : Met l y_Log_owner (cws y_Log_owner b_Log_owner 2 (some .int)) (RM 5 103) (PreW D ca (wl_Log ca ad g) [.ref (ad 0), .int p1] sz) (QRm D (some (.int res.1)) (wl_Log ca ad res.2) (va_A (wl_Log ca ad g) sz)) 0 0 (va_A (wl_Log ca ad g) sz) := by
  refine met_ofM (own := R_Log) (by decide) rfl (Nat.le_of_ble_eq_true rfl) ?_
  intro p e s m below meth c A X hA hP hD ls hl
  obtain ⟨hx, hb, hml, hr, hown, hts, hK, hlocks⟩ := id X
  have hS : va_S A s.heap s.heap [] := va_S.rf
  have hl : lv_has ls 2 [(0, .ref (ad 0)), (1, .int p1)] := hl
  unfold m_Log_owner at hm
  refine lv_aload_n hx hb d_Log_owner_0 rfl (lv_at hl 0 rfl) ?_
  refine va_get (D := D) (ci := 5) (v := .int (g_isOpen g)) (C := R_Log) (T := F_Log) (N := 15) hx hb hts i_Log hown hK hP 0 rfl rfl 14 (by decide) (hts _ wf_Log_69) (fun _ h9 => h9) rfl d_Log_owner_1 ?_
  refine lv_if_ne (tgt := 10) hx hb d_Log_owner_4 (by decide) (fun c1 => ?_) (fun c1 => ?_)
  · replace hm := ineg c1 hm
    refine lv_iload_n hx hb d_Log_owner_10 rfl (lv_at hl 1 rfl) ?_
    obtain ⟨q2, hq2, hm⟩ := ob hm
    refine inv_rS (As := [.int p1]) (rest := []) (v := .int q2) X (c_Log_isGroup l D ca  _ p1 q2 hq2) g_Log_132 yo_Log_isGroup ⟨Nat.le_of_ble_eq_true rfl, Nat.le_of_ble_eq_true rfl⟩ hl hP hD [] rfl rfl hS hA rfl rfl (Nat.le_of_ble_eq_true rfl) ⟨Nat.zero_le _, Nat.zero_le _⟩ d_Log_owner_11 (fun H locs hP hS => ?_)
    refine lv_if_ne (tgt := 20) hx hb d_Log_owner_14 (by decide) (fun c3 => ?_) (fun c3 => ?_)
    · replace hm := ineg c3 hm
      refine lv_aload_n hx hb d_Log_owner_20 rfl (lv_at hl 0 rfl) ?_
      refine va_get (D := D) (ci := 5) (v := .ref (ad 33)) (C := R_Log) (T := F_Log) (N := 15) hx hb hts i_Log hown hK hP 0 rfl rfl 10 (by decide) (hts _ wf_Log_65) (fun _ h9 => h9) rfl d_Log_owner_21 ?_
      refine lv_iload_n hx hb d_Log_owner_24 rfl (lv_at hl 1 rfl) ?_
      obtain ⟨b4, hm⟩ := on hm
      refine va_iald hx hb hK hP 33 2 rfl rfl b4 d_Log_owner_25 ?_
      refine lv_ldc hx hb hown (hts _ wc_Log_136) d_Log_owner_26 ?_
      refine lv_icmp_ge (tgt := 40) hx hb d_Log_owner_28 (by decide) (fun c5 => ?_) (fun c5 => ?_)
      · replace hm := ip c5 hm
        refine lv_bipush (v := (-4)) hx hb d_Log_owner_40 (by decide) ?_
        cases hm
        exact ret_mi X hP hS d_Log_owner_42
      · replace hm := ineg c5 hm
        refine lv_aload_n hx hb d_Log_owner_31 rfl (lv_at hl 0 rfl) ?_
        refine va_get (D := D) (ci := 5) (v := .int (g_serial g)) (C := R_Log) (T := F_Log) (N := 15) hx hb hts i_Log hown hK hP 0 rfl rfl 11 (by decide) (hts _ wf_Log_137) (fun _ h9 => h9) rfl d_Log_owner_32 ?_
        refine lv_ldc hx hb hown (hts _ wc_Log_93) d_Log_owner_35 ?_
        refine lv_icmp_lt (tgt := 43) hx hb d_Log_owner_37 (by decide) (fun c6 => ?_) (fun c6 => ?_)
        · replace hm := ip c6 hm
          refine lv_aload_n hx hb d_Log_owner_43 rfl (lv_at hl 0 rfl) ?_
          refine va_get (D := D) (ci := 5) (v := .ref (ad 33)) (C := R_Log) (T := F_Log) (N := 15) hx hb hts i_Log hown hK hP 0 rfl rfl 10 (by decide) (hts _ wf_Log_65) (fun _ h9 => h9) rfl d_Log_owner_44 ?_
          refine lv_iload_n hx hb d_Log_owner_47 rfl (lv_at hl 1 rfl) ?_
          refine lv_dup2_11 hx hb d_Log_owner_48 rfl rfl ?_
          obtain ⟨b7, hm⟩ := on hm
          refine va_iald hx hb hK hP 33 2 rfl rfl b7 d_Log_owner_49 ?_
          refine lv_iconst (v := 1) hx hb d_Log_owner_50 (by decide) ?_
          refine lv_iadd hx hb d_Log_owner_51 ?_
          obtain ⟨b8, hm⟩ := on hm
          refine va_iast hx hb hK hP hD hS 33 2 rfl rfl b8 d_Log_owner_52 (fun H locs hP hD hS => ?_)
          replace hP : va_P D classes (wl_Log ca ad (s_owners g ((g_owners g).1, upd (g_owners g).2 (p1).toNatClampNeg (((g_owners g).2 (p1).toNatClampNeg) + 1)))) H := hP
          replace hD : va_D A (wl_Log ca ad (s_owners g ((g_owners g).1, upd (g_owners g).2 (p1).toNatClampNeg (((g_owners g).2 (p1).toNatClampNeg) + 1)))) := hD
          refine lv_aload_n hx hb d_Log_owner_53 rfl (lv_at hl 0 rfl) ?_
          refine lv_dup hx hb d_Log_owner_54 rfl ?_
          refine va_get (D := D) (ci := 5) (v := .int (g_serial g)) (C := R_Log) (T := F_Log) (N := 15) hx hb hts i_Log hown hK hP 0 rfl rfl 11 (by decide) (hts _ wf_Log_137) (fun _ h9 => h9) rfl d_Log_owner_55 ?_
          refine lv_iconst (v := 1) hx hb d_Log_owner_58 (by decide) ?_
          refine lv_iadd hx hb d_Log_owner_59 ?_
          refine va_put (D := D) (ci := 5) (v := .int ((g_serial g) + 1)) (ty := .int) (C := R_Log) (T := F_Log) (N := 15) hx hb hts i_Log t_Log t_Log_ok n_Log hown hK hP hD hS 0 rfl rfl 11 (by decide) (hts _ wf_Log_137) (fun _ h9 => h9) rfl (by decide +kernel) rfl rfl (Nat.le_of_ble_eq_true rfl) d_Log_owner_60 (fun H locs hP hD hS => ?_)
          replace hP : va_P D classes (wl_Log ca ad (s_serial (s_owners g ((g_owners g).1, upd (g_owners g).2 (p1).toNatClampNeg (((g_owners g).2 (p1).toNatClampNeg) + 1))) ((g_serial g) + 1))) H := hP
          replace hD : va_D A (wl_Log ca ad (s_serial (s_owners g ((g_owners g).1, upd (g_owners g).2 (p1).toNatClampNeg (((g_owners g).2 (p1).toNatClampNeg) + 1))) ((g_serial g) + 1))) := hD
          refine lv_aload_n hx hb d_Log_owner_63 rfl (lv_at hl 0 rfl) ?_
          obtain ⟨q9, hq9, hm⟩ := ob hm
          refine inv_mUa (C := R_Log) (As := []) (rest := []) X (c_Log_drawHead l D ca ad _ (s_serial (s_owners g ((g_owners g).1, upd (g_owners g).2 (p1).toNatClampNeg (((g_owners g).2 (p1).toNatClampNeg) + 1))) ((g_serial g) + 1)) q9 hq9) g_Log_140 yo_Log_drawHead ⟨Nat.le_of_ble_eq_true rfl, Nat.le_of_ble_eq_true rfl⟩ hl hP hD rfl (ci := 5) rfl rfl hS hA rfl rfl (Nat.le_of_ble_eq_true rfl) ⟨Nat.zero_le _, Nat.zero_le _⟩ d_Log_owner_64 (fun H locs hP hD hS => ?_)
          refine lv_aload_n hx hb d_Log_owner_67 rfl (lv_at hl 0 rfl) ?_
          refine lv_aload_n hx hb d_Log_owner_68 rfl (lv_at hl 0 rfl) ?_
          refine va_get (D := D) (ci := 5) (v := .int (g_serial q9)) (C := R_Log) (T := F_Log) (N := 15) hx hb hts i_Log hown hK hP 0 rfl rfl 11 (by decide) (hts _ wf_Log_137) (fun _ h9 => h9) rfl d_Log_owner_69 ?_
          refine lv_iconst (v := 2) hx hb d_Log_owner_72 (by decide) ?_
          refine lv_irem hx hb d_Log_owner_73 (by decide) ?_
          refine lv_iconst (v := 1) hx hb d_Log_owner_74 (by decide) ?_
          obtain ⟨q10, hq10, hm⟩ := ob hm
          refine inv_mVa (C := R_Log) (As := [.int (jrem (g_serial q9) 2), .int 1]) (rest := []) (v := .int q10.1) X (c_Log_writeImage l D ca ad _ q9 (jrem (g_serial q9) 2) 1 q10 hq10) g_Log_114 yo_Log_writeImage ⟨Nat.le_of_ble_eq_true rfl, Nat.le_of_ble_eq_true rfl⟩ hl hP hD rfl (ci := 5) rfl rfl hS hA rfl rfl (Nat.le_of_ble_eq_true rfl) ⟨Nat.zero_le _, Nat.zero_le _⟩ d_Log_owner_75 (fun H locs hP hD hS => ?_)
          refine lv_if_eq (tgt := 90) hx hb d_Log_owner_78 (by decide) (fun c11 => ?_) (fun c11 => ?_)
          · replace hm := ip c11 hm
            refine lv_bipush (v := (-5)) hx hb d_Log_owner_90 (by decide) ?_
            cases hm
            exact ret_mi X hP hS d_Log_owner_92
          · replace hm := ineg c11 hm
            refine lv_aload_n hx hb d_Log_owner_81 rfl (lv_at hl 0 rfl) ?_
            refine va_get (D := D) (ci := 5) (v := .ref (ad 33)) (C := R_Log) (T := F_Log) (N := 15) hx hb hts i_Log hown hK hP 0 rfl rfl 10 (by decide) (hts _ wf_Log_65) (fun _ h9 => h9) rfl d_Log_owner_82 ?_
            refine lv_iload_n hx hb d_Log_owner_85 rfl (lv_at hl 1 rfl) ?_
            obtain ⟨b12, hm⟩ := on hm
            refine va_iald hx hb hK hP 33 2 rfl rfl b12 d_Log_owner_86 ?_
            refine lv_goto (tgt := 92) hx hb d_Log_owner_87 (by decide) ?_
            cases hm
            exact ret_mi X hP hS d_Log_owner_92
        · replace hm := ineg c6 hm
          refine lv_bipush (v := (-4)) hx hb d_Log_owner_40 (by decide) ?_
          cases hm
          exact ret_mi X hP hS d_Log_owner_42
    · replace hm := ip c3 hm
      refine lv_bipush (v := (-2)) hx hb d_Log_owner_17 (by decide) ?_
      cases hm
      exact ret_mi X hP hS d_Log_owner_19
  · replace hm := ip c1 hm
    refine lv_bipush (v := (-3)) hx hb d_Log_owner_7 (by decide) ?_
    cases hm
    exact ret_mi X hP hS d_Log_owner_9
set_option maxHeartbeats 4000000 in
set_option maxRecDepth 100000 in
theorem k_m_Log_takeBack_L2 {p : Program} {l : Launch} {e : Env} {s : State} {m : MethodId} {args : Array Value} {below : List Frame} {meth : Method} {c : Code} {D : va_G} {ca : Nat → ClassId} {ad : Nat → Nat} {A : Nat → Prop} (X : Cx p s m args meth c R_Log b_Log_takeBack 4 (some .boolean) D ca) (hA : ∀ q, s.heap.size ≤ q → A q)  : ∀ (n : Nat) (g : St_Log) (v1 : Int32) (v2 : Int32) (v3 : Int32) (res : Int32 × St_Log), m_Log_takeBack_L2  n g v1 v2 v3 = some res → ∀ (H : Heap) (locs : List Loc), va_P D classes (wl_Log ca ad g) H → va_D A (wl_Log ca ad g) → va_S A s.heap H locs → ∀ ls : Array Slot, lv_has ls 4 [(0, .ref (ad 0)), (1, .int v1), (2, .int v2), (3, .int v3)] → W p l e (RM 3 67) s m args below meth c H locs 0 0 (MQ below (QRm D (some (.int res.1)) (wl_Log ca ad res.2) A) args s 0 0 A) (F0 m 2 ls []) := by
  obtain ⟨hx, hb, hml, hr, hown, hts, hK, hlocks⟩ := id X
  intro n
  induction n with
  | zero =>
    intro g v1 v2 v3 res hm
    rw [m_Log_takeBack_L2] at hm
    cases hm
  | succ n ih =>
    intro g v1 v2 v3 res hm H locs hP hD hS ls hl
    rw [m_Log_takeBack_L2] at hm
    refine lv_iload_n hx hb d_Log_takeBack_2 rfl (lv_at hl 3 rfl) ?_
    refine lv_iload_n hx hb d_Log_takeBack_3 rfl (lv_at hl 2 rfl) ?_
    refine lv_icmp_ge (tgt := 34) hx hb d_Log_takeBack_4 (by decide) (fun c1 => ?_) (fun c1 => ?_)
    · replace hm := ip c1 hm
      refine lv_aload_n hx hb d_Log_takeBack_34 rfl (lv_at hl 0 rfl) ?_
      refine va_get (D := D) (ci := 5) (v := .ref (ad 11)) (C := R_Log) (T := F_Log) (N := 15) hx hb hts i_Log hown hK hP 0 rfl rfl 5 (by decide) (hts _ wf_Log_41) (fun _ h9 => h9) rfl d_Log_takeBack_35 ?_
      refine lv_iload_n hx hb d_Log_takeBack_38 rfl (lv_at hl 1 rfl) ?_
      refine lv_iload_n hx hb d_Log_takeBack_39 rfl (lv_at hl 2 rfl) ?_
      obtain ⟨q2, hq2, hm⟩ := ob hm
      refine inv_mU (C := R_Room) (As := [.int v1, .int v2]) (rest := []) (ws' := wl_Log ca ad (s_room g q2)) X (c_Room_free l D ca (ad 11) (ad 12) _ (g_room g) v1 v2 q2 hq2) g_Log_327 yo_Room_free ⟨Nat.le_of_ble_eq_true rfl, Nat.le_of_ble_eq_true rfl⟩ hl hP hD [11, 12] rfl rfl rfl rfl (ci := 2) rfl rfl hS hA rfl rfl (Nat.le_of_ble_eq_true rfl) ⟨Nat.zero_le _, Nat.zero_le _⟩ d_Log_takeBack_40 (fun H locs hP hD hS => ?_)
      refine lv_aload_n hx hb d_Log_takeBack_43 rfl (lv_at hl 0 rfl) ?_
      refine va_get (D := D) (ci := 5) (v := .int (g_isOpen g)) (C := R_Log) (T := F_Log) (N := 15) hx hb hts i_Log hown hK hP 0 rfl rfl 14 (by decide) (hts _ wf_Log_69) (fun _ h9 => h9) rfl d_Log_takeBack_44 ?_
      obtain ⟨z3, hm⟩ := on hm
      cases hm
      exact ret_mz X (nz z3).1 hP hS d_Log_takeBack_47
    · replace hm := ineg c1 hm
      refine lv_aload_n hx hb d_Log_takeBack_7 rfl (lv_at hl 0 rfl) ?_
      refine va_get (D := D) (ci := 5) (v := .int (g_isOpen g)) (C := R_Log) (T := F_Log) (N := 15) hx hb hts i_Log hown hK hP 0 rfl rfl 14 (by decide) (hts _ wf_Log_69) (fun _ h9 => h9) rfl d_Log_takeBack_8 ?_
      refine lv_if_eq (tgt := 34) hx hb d_Log_takeBack_11 (by decide) (fun c4 => ?_) (fun c4 => ?_)
      · replace hm := ip c4 hm
        refine lv_aload_n hx hb d_Log_takeBack_34 rfl (lv_at hl 0 rfl) ?_
        refine va_get (D := D) (ci := 5) (v := .ref (ad 11)) (C := R_Log) (T := F_Log) (N := 15) hx hb hts i_Log hown hK hP 0 rfl rfl 5 (by decide) (hts _ wf_Log_41) (fun _ h9 => h9) rfl d_Log_takeBack_35 ?_
        refine lv_iload_n hx hb d_Log_takeBack_38 rfl (lv_at hl 1 rfl) ?_
        refine lv_iload_n hx hb d_Log_takeBack_39 rfl (lv_at hl 2 rfl) ?_
        obtain ⟨q5, hq5, hm⟩ := ob hm
        refine inv_mU (C := R_Room) (As := [.int v1, .int v2]) (rest := []) (ws' := wl_Log ca ad (s_room g q5)) X (c_Room_free l D ca (ad 11) (ad 12) _ (g_room g) v1 v2 q5 hq5) g_Log_327 yo_Room_free ⟨Nat.le_of_ble_eq_true rfl, Nat.le_of_ble_eq_true rfl⟩ hl hP hD [11, 12] rfl rfl rfl rfl (ci := 2) rfl rfl hS hA rfl rfl (Nat.le_of_ble_eq_true rfl) ⟨Nat.zero_le _, Nat.zero_le _⟩ d_Log_takeBack_40 (fun H locs hP hD hS => ?_)
        refine lv_aload_n hx hb d_Log_takeBack_43 rfl (lv_at hl 0 rfl) ?_
        refine va_get (D := D) (ci := 5) (v := .int (g_isOpen g)) (C := R_Log) (T := F_Log) (N := 15) hx hb hts i_Log hown hK hP 0 rfl rfl 14 (by decide) (hts _ wf_Log_69) (fun _ h9 => h9) rfl d_Log_takeBack_44 ?_
        obtain ⟨z6, hm⟩ := on hm
        cases hm
        exact ret_mz X (nz z6).1 hP hS d_Log_takeBack_47
      · replace hm := ineg c4 hm
        refine lv_aload_n hx hb d_Log_takeBack_14 rfl (lv_at hl 0 rfl) ?_
        refine lv_aload_n hx hb d_Log_takeBack_15 rfl (lv_at hl 0 rfl) ?_
        refine va_get (D := D) (ci := 5) (v := .ref (ad 1)) (C := R_Log) (T := F_Log) (N := 15) hx hb hts i_Log hown hK hP 0 rfl rfl 0 (by decide) (hts _ wf_Log_14) (fun _ h9 => h9) rfl d_Log_takeBack_16 ?_
        refine lv_iload_n hx hb d_Log_takeBack_19 rfl (lv_at hl 1 rfl) ?_
        refine lv_iload_n hx hb d_Log_takeBack_20 rfl (lv_at hl 3 rfl) ?_
        refine lv_iadd hx hb d_Log_takeBack_21 ?_
        obtain ⟨q7, hq7, hm⟩ := ob hm
        refine inv_mV (C := R_Medium) (As := [.int (v1 + v3)]) (rest := [.ref (ad 0)]) (v := .int q7.1) (ws' := wl_Log ca ad (s_medium g q7.2)) X (c_Medium_erase l D ca (ad 1) (ad 2) _ (g_medium g) (v1 + v3) q7 hq7) g_Log_324 yo_Medium_erase ⟨Nat.le_of_ble_eq_true rfl, Nat.le_of_ble_eq_true rfl⟩ hl hP hD [1, 2] rfl rfl rfl rfl (ci := 0) rfl rfl hS hA rfl rfl (Nat.le_of_ble_eq_true rfl) ⟨Nat.zero_le _, Nat.zero_le _⟩ d_Log_takeBack_22 (fun H locs hP hD hS => ?_)
        obtain ⟨z8, hm⟩ := on hm
        refine va_put (D := D) (ci := 5) (v := .int q7.1) (ty := .boolean) (C := R_Log) (T := F_Log) (N := 15) hx hb hts i_Log t_Log t_Log_ok n_Log hown hK hP hD hS 0 rfl rfl 14 (by decide) (hts _ wf_Log_69) (fun _ h9 => h9) rfl (by decide +kernel) (nz z8).1 (nz z8).2 (Nat.le_of_ble_eq_true rfl) d_Log_takeBack_25 (fun H locs hP hD hS => ?_)
        replace hP : va_P D classes (wl_Log ca ad (s_isOpen (s_medium g q7.2) q7.1)) H := hP
        replace hD : va_D A (wl_Log ca ad (s_isOpen (s_medium g q7.2) q7.1)) := hD
        refine lv_iinc (v := (v3 + 1)) (lv' := [(3, .int (v3 + 1)), (0, .ref (ad 0)), (1, .int v1), (2, .int v2)]) hx hb d_Log_takeBack_28 hl (k := 3) rfl rfl (by decide) rfl (fun ls hl => ?_)
        refine lv_goto (tgt := 2) hx hb d_Log_takeBack_31 (by decide) ?_
        exact ih (s_isOpen (s_medium g q7.2) q7.1) v1 v2 (v3 + 1) _ hm _ _ hP hD hS ls (lv_sub hl [1, 2, 3, 0] rfl)
set_option maxHeartbeats 4000000 in
set_option maxRecDepth 100000 in
theorem c_Log_takeBack (l : Launch) (D : va_G) (ca : Nat → ClassId) (ad : Nat → Nat) (sz : Nat) (g : St_Log) (p1 : Int32) (p2 : Int32) (res : Int32 × St_Log) (hm : m_Log_takeBack g p1 p2 = some res) : Met l y_Log_takeBack (cws y_Log_takeBack b_Log_takeBack 4 (some .boolean)) (RM 3 67) (PreW D ca (wl_Log ca ad g) [.ref (ad 0), .int p1, .int p2] sz) (QRm D (some (.int res.1)) (wl_Log ca ad res.2) (va_A (wl_Log ca ad g) sz)) 0 0 (va_A (wl_Log ca ad g) sz) := by
  refine met_ofM (own := R_Log) (by decide) rfl (Nat.le_of_ble_eq_true rfl) ?_
  intro p e s m below meth c A X hA hP hD ls hl
  obtain ⟨hx, hb, hml, hr, hown, hts, hK, hlocks⟩ := id X
  have hS : va_S A s.heap s.heap [] := va_S.rf
  have hl : lv_has ls 4 [(0, .ref (ad 0)), (1, .int p1), (2, .int p2)] := hl
  unfold m_Log_takeBack at hm
  refine lv_iconst (v := 0) hx hb d_Log_takeBack_0 (by decide) ?_
  refine lv_istore_n (lv' := [(3, .int 0), (0, .ref (ad 0)), (1, .int p1), (2, .int p2)]) hx hb d_Log_takeBack_1 rfl hl (by decide) rfl (fun ls hl => ?_)
  exact k_m_Log_takeBack_L2 X hA FU g p1 p2 0 _ hm _ _ hP hD hS ls (lv_sub hl [1, 2, 3, 0] rfl)
set_option maxHeartbeats 4000000 in
set_option maxRecDepth 100000 in
theorem k_m_Log_dropMarks_L2 {p : Program} {l : Launch} {e : Env} {s : State} {m : MethodId} {args : Array Value} {below : List Frame} {meth : Method} {c : Code} {D : va_G} {ca : Nat → ClassId} {ad : Nat → Nat} {A : Nat → Prop} (X : Cx p s m args meth c R_Log b_Log_dropMarks 3 (some .boolean) D ca) (hA : ∀ q, s.heap.size ≤ q → A q)  : ∀ (n : Nat) (g : St_Log) (v1 : Int32) (v2 : Int32) (res : Int32 × St_Log), m_Log_dropMarks_L2  n g v1 v2 = some res → ∀ (H : Heap) (locs : List Loc), va_P D classes (wl_Log ca ad g) H → va_D A (wl_Log ca ad g) → va_S A s.heap H locs → ∀ ls : Array Slot, lv_has ls 3 [(0, .ref (ad 0)), (1, .int v1), (2, .int v2)] → W p l e (RM 4 90) s m args below meth c H locs 0 0 (MQ below (QRm D (some (.int res.1)) (wl_Log ca ad res.2) A) args s 0 0 A) (F0 m 2 ls []) := by
  obtain ⟨hx, hb, hml, hr, hown, hts, hK, hlocks⟩ := id X
  intro n
  induction n with
  | zero =>
    intro g v1 v2 res hm
    rw [m_Log_dropMarks_L2] at hm
    cases hm
  | succ n ih =>
    intro g v1 v2 res hm H locs hP hD hS ls hl
    rw [m_Log_dropMarks_L2] at hm
    refine lv_iload_n hx hb d_Log_dropMarks_2 rfl (lv_at hl 2 rfl) ?_
    refine lv_iload_n hx hb d_Log_dropMarks_3 rfl (lv_at hl 1 rfl) ?_
    refine lv_icmp_ge (tgt := 44) hx hb d_Log_dropMarks_4 (by decide) (fun c1 => ?_) (fun c1 => ?_)
    · replace hm := ip c1 hm
      refine lv_aload_n hx hb d_Log_dropMarks_44 rfl (lv_at hl 0 rfl) ?_
      refine va_get (D := D) (ci := 5) (v := .ref (ad 21)) (C := R_Log) (T := F_Log) (N := 15) hx hb hts i_Log hown hK hP 0 rfl rfl 8 (by decide) (hts _ wf_Log_58) (fun _ h9 => h9) rfl d_Log_dropMarks_45 ?_
      refine lv_iload_n hx hb d_Log_dropMarks_48 rfl (lv_at hl 1 rfl) ?_
      obtain ⟨q2, hq2, hm⟩ := ob hm
      refine inv_mU (C := R_Marks) (As := [.int v1]) (rest := []) (ws' := wl_Log ca ad (s_kept g q2)) X (c_Marks_removeFirst l D ca (ad 21) (ad 22) (ad 23) (ad 24) (ad 25) (ad 26) _ (g_kept g) v1 q2 hq2) g_Log_334 yo_Marks_removeFirst ⟨Nat.le_of_ble_eq_true rfl, Nat.le_of_ble_eq_true rfl⟩ hl hP hD [21, 22, 23, 24, 25, 26] rfl rfl rfl rfl (ci := 4) rfl rfl hS hA rfl rfl (Nat.le_of_ble_eq_true rfl) ⟨Nat.zero_le _, Nat.zero_le _⟩ d_Log_dropMarks_49 (fun H locs hP hD hS => ?_)
      refine lv_aload_n hx hb d_Log_dropMarks_52 rfl (lv_at hl 0 rfl) ?_
      refine va_get (D := D) (ci := 5) (v := .int (g_isOpen g)) (C := R_Log) (T := F_Log) (N := 15) hx hb hts i_Log hown hK hP 0 rfl rfl 14 (by decide) (hts _ wf_Log_69) (fun _ h9 => h9) rfl d_Log_dropMarks_53 ?_
      obtain ⟨z3, hm⟩ := on hm
      cases hm
      exact ret_mz X (nz z3).1 hP hS d_Log_dropMarks_56
    · replace hm := ineg c1 hm
      refine lv_aload_n hx hb d_Log_dropMarks_7 rfl (lv_at hl 0 rfl) ?_
      refine va_get (D := D) (ci := 5) (v := .int (g_isOpen g)) (C := R_Log) (T := F_Log) (N := 15) hx hb hts i_Log hown hK hP 0 rfl rfl 14 (by decide) (hts _ wf_Log_69) (fun _ h9 => h9) rfl d_Log_dropMarks_8 ?_
      refine lv_if_eq (tgt := 44) hx hb d_Log_dropMarks_11 (by decide) (fun c4 => ?_) (fun c4 => ?_)
      · replace hm := ip c4 hm
        refine lv_aload_n hx hb d_Log_dropMarks_44 rfl (lv_at hl 0 rfl) ?_
        refine va_get (D := D) (ci := 5) (v := .ref (ad 21)) (C := R_Log) (T := F_Log) (N := 15) hx hb hts i_Log hown hK hP 0 rfl rfl 8 (by decide) (hts _ wf_Log_58) (fun _ h9 => h9) rfl d_Log_dropMarks_45 ?_
        refine lv_iload_n hx hb d_Log_dropMarks_48 rfl (lv_at hl 1 rfl) ?_
        obtain ⟨q5, hq5, hm⟩ := ob hm
        refine inv_mU (C := R_Marks) (As := [.int v1]) (rest := []) (ws' := wl_Log ca ad (s_kept g q5)) X (c_Marks_removeFirst l D ca (ad 21) (ad 22) (ad 23) (ad 24) (ad 25) (ad 26) _ (g_kept g) v1 q5 hq5) g_Log_334 yo_Marks_removeFirst ⟨Nat.le_of_ble_eq_true rfl, Nat.le_of_ble_eq_true rfl⟩ hl hP hD [21, 22, 23, 24, 25, 26] rfl rfl rfl rfl (ci := 4) rfl rfl hS hA rfl rfl (Nat.le_of_ble_eq_true rfl) ⟨Nat.zero_le _, Nat.zero_le _⟩ d_Log_dropMarks_49 (fun H locs hP hD hS => ?_)
        refine lv_aload_n hx hb d_Log_dropMarks_52 rfl (lv_at hl 0 rfl) ?_
        refine va_get (D := D) (ci := 5) (v := .int (g_isOpen g)) (C := R_Log) (T := F_Log) (N := 15) hx hb hts i_Log hown hK hP 0 rfl rfl 14 (by decide) (hts _ wf_Log_69) (fun _ h9 => h9) rfl d_Log_dropMarks_53 ?_
        obtain ⟨z6, hm⟩ := on hm
        cases hm
        exact ret_mz X (nz z6).1 hP hS d_Log_dropMarks_56
      · replace hm := ineg c4 hm
        refine lv_aload_n hx hb d_Log_dropMarks_14 rfl (lv_at hl 0 rfl) ?_
        refine lv_aload_n hx hb d_Log_dropMarks_15 rfl (lv_at hl 0 rfl) ?_
        refine va_get (D := D) (ci := 5) (v := .ref (ad 21)) (C := R_Log) (T := F_Log) (N := 15) hx hb hts i_Log hown hK hP 0 rfl rfl 8 (by decide) (hts _ wf_Log_58) (fun _ h9 => h9) rfl d_Log_dropMarks_16 ?_
        refine lv_iload_n hx hb d_Log_dropMarks_19 rfl (lv_at hl 2 rfl) ?_
        obtain ⟨q7, hq7, hm⟩ := ob hm
        refine inv_rV (C := R_Marks) (As := [.int v2]) (rest := [.ref (ad 0)]) (v := .int q7) X (c_Marks_rowAt l D ca (ad 21) (ad 22) (ad 23) (ad 24) (ad 25) (ad 26) _ (g_kept g) v2 q7 hq7) g_Log_216 yo_Marks_rowAt ⟨Nat.le_of_ble_eq_true rfl, Nat.le_of_ble_eq_true rfl⟩ hl hP hD [21, 22, 23, 24, 25, 26] rfl rfl (ci := 4) rfl rfl hS hA rfl rfl (Nat.le_of_ble_eq_true rfl) ⟨Nat.zero_le _, Nat.zero_le _⟩ d_Log_dropMarks_20 (fun H locs hP hS => ?_)
        refine lv_aload_n hx hb d_Log_dropMarks_23 rfl (lv_at hl 0 rfl) ?_
        refine va_get (D := D) (ci := 5) (v := .ref (ad 21)) (C := R_Log) (T := F_Log) (N := 15) hx hb hts i_Log hown hK hP 0 rfl rfl 8 (by decide) (hts _ wf_Log_58) (fun _ h9 => h9) rfl d_Log_dropMarks_24 ?_
        refine lv_iload_n hx hb d_Log_dropMarks_27 rfl (lv_at hl 2 rfl) ?_
        obtain ⟨q8, hq8, hm⟩ := ob hm
        refine inv_rV (C := R_Marks) (As := [.int v2]) (rest := [.int q7, .ref (ad 0)]) (v := .int q8) X (c_Marks_countAt l D ca (ad 21) (ad 22) (ad 23) (ad 24) (ad 25) (ad 26) _ (g_kept g) v2 q8 hq8) g_Log_101 yo_Marks_countAt ⟨Nat.le_of_ble_eq_true rfl, Nat.le_of_ble_eq_true rfl⟩ hl hP hD [21, 22, 23, 24, 25, 26] rfl rfl (ci := 4) rfl rfl hS hA rfl rfl (Nat.le_of_ble_eq_true rfl) ⟨Nat.zero_le _, Nat.zero_le _⟩ d_Log_dropMarks_28 (fun H locs hP hS => ?_)
        obtain ⟨q9, hq9, hm⟩ := ob hm
        refine inv_rS (As := [.int q8]) (rest := [.int q7, .ref (ad 0)]) (v := .int q9) X (c_Log_rowsOfMark l D ca  _ q8 q9 hq9) g_Log_104 yo_Log_rowsOfMark ⟨Nat.le_of_ble_eq_true rfl, Nat.le_of_ble_eq_true rfl⟩ hl hP hD [] rfl rfl hS hA rfl rfl (Nat.le_of_ble_eq_true rfl) ⟨Nat.zero_le _, Nat.zero_le _⟩ d_Log_dropMarks_31 (fun H locs hP hS => ?_)
        obtain ⟨q10, hq10, hm⟩ := ob hm
        refine inv_mVa (C := R_Log) (As := [.int q7, .int q9]) (rest := []) (v := .int q10.1) X (c_Log_takeBack l D ca ad _ g q7 q9 q10 hq10) g_Log_331 yo_Log_takeBack ⟨Nat.le_of_ble_eq_true rfl, Nat.le_of_ble_eq_true rfl⟩ hl hP hD rfl (ci := 5) rfl rfl hS hA rfl rfl (Nat.le_of_ble_eq_true rfl) ⟨Nat.zero_le _, Nat.zero_le _⟩ d_Log_dropMarks_34 (fun H locs hP hD hS => ?_)
        refine lv_pop hx hb d_Log_dropMarks_37 rfl ?_
        refine lv_iinc (v := (v2 + 1)) (lv' := [(2, .int (v2 + 1)), (0, .ref (ad 0)), (1, .int v1)]) hx hb d_Log_dropMarks_38 hl (k := 2) rfl rfl (by decide) rfl (fun ls hl => ?_)
        refine lv_goto (tgt := 2) hx hb d_Log_dropMarks_41 (by decide) ?_
        exact ih q10.2 v1 (v2 + 1) _ hm _ _ hP hD hS ls (lv_sub hl [1, 2, 0] rfl)
set_option maxHeartbeats 4000000 in
set_option maxRecDepth 100000 in
theorem c_Log_dropMarks (l : Launch) (D : va_G) (ca : Nat → ClassId) (ad : Nat → Nat) (sz : Nat) (g : St_Log) (p1 : Int32) (res : Int32 × St_Log) (hm : m_Log_dropMarks g p1 = some res) : Met l y_Log_dropMarks (cws y_Log_dropMarks b_Log_dropMarks 3 (some .boolean)) (RM 4 90) (PreW D ca (wl_Log ca ad g) [.ref (ad 0), .int p1] sz) (QRm D (some (.int res.1)) (wl_Log ca ad res.2) (va_A (wl_Log ca ad g) sz)) 0 0 (va_A (wl_Log ca ad g) sz) := by
  refine met_ofM (own := R_Log) (by decide) rfl (Nat.le_of_ble_eq_true rfl) ?_
  intro p e s m below meth c A X hA hP hD ls hl
  obtain ⟨hx, hb, hml, hr, hown, hts, hK, hlocks⟩ := id X
  have hS : va_S A s.heap s.heap [] := va_S.rf
  have hl : lv_has ls 3 [(0, .ref (ad 0)), (1, .int p1)] := hl
  unfold m_Log_dropMarks at hm
  refine lv_iconst (v := 0) hx hb d_Log_dropMarks_0 (by decide) ?_
  refine lv_istore_n (lv' := [(2, .int 0), (0, .ref (ad 0)), (1, .int p1)]) hx hb d_Log_dropMarks_1 rfl hl (by decide) rfl (fun ls hl => ?_)
  exact k_m_Log_dropMarks_L2 X hA FU g p1 0 _ hm _ _ hP hD hS ls (lv_sub hl [1, 2, 0] rfl)
set_option maxHeartbeats 4000000 in
set_option maxRecDepth 100000 in
theorem c_Log_countNaming (l : Launch) (D : va_G) (ca : Nat → ClassId) (ad : Nat → Nat) (sz : Nat) (g : St_Log) (p1 : Int32) (res : Int32) (hm : m_Log_countNaming g p1 = some res) : Met l y_Log_countNaming (cws y_Log_countNaming b_Log_countNaming 2 (some .int)) (RM 5 110) (PreW D ca (wl_Log ca ad g) [.ref (ad 0), .int p1] sz) (QRr (.int res) (va_A [] sz)) 0 0 (va_A [] sz) := by
  refine met_ofR (own := R_Log) (by decide) rfl (Nat.le_of_ble_eq_true rfl) ?_
  intro p e s m below meth c A X hA hP hD ls hl
  obtain ⟨hx, hb, hml, hr, hown, hts, hK, hlocks⟩ := id X
  have hS : va_S A s.heap s.heap [] := va_S.rf
  have hl : lv_has ls 2 [(0, .ref (ad 0)), (1, .int p1)] := hl
  unfold m_Log_countNaming at hm
  refine lv_aload_n hx hb d_Log_countNaming_0 rfl (lv_at hl 0 rfl) ?_
  refine va_get (D := D) (ci := 5) (v := .ref (ad 21)) (C := R_Log) (T := F_Log) (N := 15) hx hb hts i_Log hown hK hP 0 rfl rfl 8 (by decide) (hts _ wf_Log_58) (fun _ h9 => h9) rfl d_Log_countNaming_1 ?_
  refine lv_iload_n hx hb d_Log_countNaming_4 rfl (lv_at hl 1 rfl) ?_
  obtain ⟨q1, hq1, hm⟩ := ob hm
  refine inv_rV (C := R_Marks) (As := [.int p1]) (rest := []) (v := .int q1) X (c_Marks_countNaming l D ca (ad 21) (ad 22) (ad 23) (ad 24) (ad 25) (ad 26) _ (g_kept g) p1 q1 hq1) g_Log_369 yo_Marks_countNaming ⟨Nat.le_of_ble_eq_true rfl, Nat.le_of_ble_eq_true rfl⟩ hl hP hD [21, 22, 23, 24, 25, 26] rfl rfl (ci := 4) rfl rfl hS hA rfl rfl (Nat.le_of_ble_eq_true rfl) ⟨Nat.zero_le _, Nat.zero_le _⟩ d_Log_countNaming_5 (fun H locs hP hS => ?_)
  refine lv_aload_n hx hb d_Log_countNaming_8 rfl (lv_at hl 0 rfl) ?_
  refine va_get (D := D) (ci := 5) (v := .ref (ad 27)) (C := R_Log) (T := F_Log) (N := 15) hx hb hts i_Log hown hK hP 0 rfl rfl 9 (by decide) (hts _ wf_Log_62) (fun _ h9 => h9) rfl d_Log_countNaming_9 ?_
  refine lv_iload_n hx hb d_Log_countNaming_12 rfl (lv_at hl 1 rfl) ?_
  obtain ⟨q2, hq2, hm⟩ := ob hm
  refine inv_rV (C := R_Marks) (As := [.int p1]) (rest := [.int q1]) (v := .int q2) X (c_Marks_countNaming l D ca (ad 27) (ad 28) (ad 29) (ad 30) (ad 31) (ad 32) _ (g_made g) p1 q2 hq2) g_Log_369 yo_Marks_countNaming ⟨Nat.le_of_ble_eq_true rfl, Nat.le_of_ble_eq_true rfl⟩ hl hP hD [27, 28, 29, 30, 31, 32] rfl rfl (ci := 4) rfl rfl hS hA rfl rfl (Nat.le_of_ble_eq_true rfl) ⟨Nat.zero_le _, Nat.zero_le _⟩ d_Log_countNaming_13 (fun H locs hP hS => ?_)
  refine lv_iadd hx hb d_Log_countNaming_16 ?_
  cases hm
  exact ret_ri X hS d_Log_countNaming_17
set_option maxHeartbeats 4000000 in
set_option maxRecDepth 100000 in
theorem k_m_Log_dropParts_L7 {p : Program} {l : Launch} {e : Env} {s : State} {m : MethodId} {args : Array Value} {below : List Frame} {meth : Method} {c : Code} {D : va_G} {ca : Nat → ClassId} {ad : Nat → Nat} {A : Nat → Prop} (X : Cx p s m args meth c R_Log b_Log_dropParts 6 (some .int) D ca) (hA : ∀ q, s.heap.size ≤ q → A q)  : ∀ (n : Nat) (g : St_Log) (v1 : Int32) (v2 : Int32) (v3 : Int32) (v4 : Int32) (res : Int32 × St_Log), m_Log_dropParts_L7  n g v1 v2 v3 v4 = some res → ∀ (H : Heap) (locs : List Loc), va_P D classes (wl_Log ca ad g) H → va_D A (wl_Log ca ad g) → va_S A s.heap H locs → ∀ ls : Array Slot, lv_has ls 6 [(0, .ref (ad 0)), (1, .int v1), (2, .int v2), (3, .int v3), (4, .int v4)] → W p l e (RM 6 131) s m args below meth c H locs 0 0 (MQ below (QRm D (some (.int res.1)) (wl_Log ca ad res.2) A) args s 0 0 A) (F0 m 7 ls []) := by
  obtain ⟨hx, hb, hml, hr, hown, hts, hK, hlocks⟩ := id X
  intro n
  induction n with
  | zero =>
    intro g v1 v2 v3 v4 res hm
    rw [m_Log_dropParts_L7] at hm
    cases hm
  | succ n ih =>
    intro g v1 v2 v3 v4 res hm H locs hP hD hS ls hl
    rw [m_Log_dropParts_L7] at hm
    refine lv_iload hx hb d_Log_dropParts_7 (lv_at hl 4 rfl) ?_
    refine lv_aload_n hx hb d_Log_dropParts_9 rfl (lv_at hl 0 rfl) ?_
    refine va_get (D := D) (ci := 5) (v := .ref (ad 15)) (C := R_Log) (T := F_Log) (N := 15) hx hb hts i_Log hown hK hP 0 rfl rfl 7 (by decide) (hts _ wf_Log_51) (fun _ h9 => h9) rfl d_Log_dropParts_10 ?_
    obtain ⟨q1, hq1, hm⟩ := ob hm
    refine inv_rV (C := R_Parts) (As := []) (rest := [.int v4]) (v := .int q1) X (c_Parts_size l D ca (ad 15) (ad 16) (ad 17) (ad 18) (ad 19) (ad 20) _ (g_parts g) q1 hq1) g_Log_87 yo_Parts_size ⟨Nat.le_of_ble_eq_true rfl, Nat.le_of_ble_eq_true rfl⟩ hl hP hD [15, 16, 17, 18, 19, 20] rfl rfl (ci := 3) rfl rfl hS hA rfl rfl (Nat.le_of_ble_eq_true rfl) ⟨Nat.zero_le _, Nat.zero_le _⟩ d_Log_dropParts_13 (fun H locs hP hS => ?_)
    refine lv_icmp_ge (tgt := 103) hx hb d_Log_dropParts_16 (by decide) (fun c2 => ?_) (fun c2 => ?_)
    · replace hm := ip c2 hm
      refine lv_aload_n hx hb d_Log_dropParts_103 rfl (lv_at hl 0 rfl) ?_
      refine va_get (D := D) (ci := 5) (v := .ref (ad 15)) (C := R_Log) (T := F_Log) (N := 15) hx hb hts i_Log hown hK hP 0 rfl rfl 7 (by decide) (hts _ wf_Log_51) (fun _ h9 => h9) rfl d_Log_dropParts_104 ?_
      refine lv_iload_n hx hb d_Log_dropParts_107 rfl (lv_at hl 2 rfl) ?_
      obtain ⟨q3, hq3, hm⟩ := ob hm
      refine inv_mU (C := R_Parts) (As := [.int v2]) (rest := []) (ws' := wl_Log ca ad (s_parts g q3)) X (c_Parts_shorten l D ca (ad 15) (ad 16) (ad 17) (ad 18) (ad 19) (ad 20) _ (g_parts g) v2 q3 hq3) g_Log_340 yo_Parts_shorten ⟨Nat.le_of_ble_eq_true rfl, Nat.le_of_ble_eq_true rfl⟩ hl hP hD [15, 16, 17, 18, 19, 20] rfl rfl rfl rfl (ci := 3) rfl rfl hS hA rfl rfl (Nat.le_of_ble_eq_true rfl) ⟨Nat.zero_le _, Nat.zero_le _⟩ d_Log_dropParts_108 (fun H locs hP hD hS => ?_)
      refine lv_iload_n hx hb d_Log_dropParts_111 rfl (lv_at hl 3 rfl) ?_
      cases hm
      exact ret_mi X hP hS d_Log_dropParts_112
    · replace hm := ineg c2 hm
      refine lv_aload_n hx hb d_Log_dropParts_19 rfl (lv_at hl 0 rfl) ?_
      refine va_get (D := D) (ci := 5) (v := .int (g_isOpen g)) (C := R_Log) (T := F_Log) (N := 15) hx hb hts i_Log hown hK hP 0 rfl rfl 14 (by decide) (hts _ wf_Log_69) (fun _ h9 => h9) rfl d_Log_dropParts_20 ?_
      refine lv_if_eq (tgt := 103) hx hb d_Log_dropParts_23 (by decide) (fun c4 => ?_) (fun c4 => ?_)
      · replace hm := ip c4 hm
        refine lv_aload_n hx hb d_Log_dropParts_103 rfl (lv_at hl 0 rfl) ?_
        refine va_get (D := D) (ci := 5) (v := .ref (ad 15)) (C := R_Log) (T := F_Log) (N := 15) hx hb hts i_Log hown hK hP 0 rfl rfl 7 (by decide) (hts _ wf_Log_51) (fun _ h9 => h9) rfl d_Log_dropParts_104 ?_
        refine lv_iload_n hx hb d_Log_dropParts_107 rfl (lv_at hl 2 rfl) ?_
        obtain ⟨q5, hq5, hm⟩ := ob hm
        refine inv_mU (C := R_Parts) (As := [.int v2]) (rest := []) (ws' := wl_Log ca ad (s_parts g q5)) X (c_Parts_shorten l D ca (ad 15) (ad 16) (ad 17) (ad 18) (ad 19) (ad 20) _ (g_parts g) v2 q5 hq5) g_Log_340 yo_Parts_shorten ⟨Nat.le_of_ble_eq_true rfl, Nat.le_of_ble_eq_true rfl⟩ hl hP hD [15, 16, 17, 18, 19, 20] rfl rfl rfl rfl (ci := 3) rfl rfl hS hA rfl rfl (Nat.le_of_ble_eq_true rfl) ⟨Nat.zero_le _, Nat.zero_le _⟩ d_Log_dropParts_108 (fun H locs hP hD hS => ?_)
        refine lv_iload_n hx hb d_Log_dropParts_111 rfl (lv_at hl 3 rfl) ?_
        cases hm
        exact ret_mi X hP hS d_Log_dropParts_112
      · replace hm := ineg c4 hm
        refine lv_aload_n hx hb d_Log_dropParts_26 rfl (lv_at hl 0 rfl) ?_
        refine va_get (D := D) (ci := 5) (v := .ref (ad 15)) (C := R_Log) (T := F_Log) (N := 15) hx hb hts i_Log hown hK hP 0 rfl rfl 7 (by decide) (hts _ wf_Log_51) (fun _ h9 => h9) rfl d_Log_dropParts_27 ?_
        refine lv_iload hx hb d_Log_dropParts_30 (lv_at hl 4 rfl) ?_
        obtain ⟨q6, hq6, hm⟩ := ob hm
        refine inv_rV (C := R_Parts) (As := [.int v4]) (rest := []) (v := .int q6) X (c_Parts_numberAt l D ca (ad 15) (ad 16) (ad 17) (ad 18) (ad 19) (ad 20) _ (g_parts g) v4 q6 hq6) g_Log_330 yo_Parts_numberAt ⟨Nat.le_of_ble_eq_true rfl, Nat.le_of_ble_eq_true rfl⟩ hl hP hD [15, 16, 17, 18, 19, 20] rfl rfl (ci := 3) rfl rfl hS hA rfl rfl (Nat.le_of_ble_eq_true rfl) ⟨Nat.zero_le _, Nat.zero_le _⟩ d_Log_dropParts_32 (fun H locs hP hS => ?_)
        refine lv_istore (lv' := [(5, .int q6), (0, .ref (ad 0)), (1, .int v1), (2, .int v2), (3, .int v3), (4, .int v4)]) hx hb d_Log_dropParts_35 hl (by decide) rfl (fun ls hl => ?_)
        refine lv_iload hx hb d_Log_dropParts_37 (lv_at hl 0 rfl) ?_
        refine lv_iload_n hx hb d_Log_dropParts_39 rfl (lv_at hl 2 rfl) ?_
        refine lv_icmp_gt (tgt := 84) hx hb d_Log_dropParts_40 (by decide) (fun c7 => ?_) (fun c7 => ?_)
        · replace hm := ip c7 hm
          refine lv_aload_n hx hb d_Log_dropParts_84 rfl (lv_at hl 1 rfl) ?_
          refine va_get (D := D) (ci := 5) (v := .ref (ad 15)) (C := R_Log) (T := F_Log) (N := 15) hx hb hts i_Log hown hK hP 0 rfl rfl 7 (by decide) (hts _ wf_Log_51) (fun _ h9 => h9) rfl d_Log_dropParts_85 ?_
          refine lv_iload hx hb d_Log_dropParts_88 (lv_at hl 5 rfl) ?_
          refine lv_iload_n hx hb d_Log_dropParts_90 rfl (lv_at hl 3 rfl) ?_
          obtain ⟨q8, hq8, hm⟩ := ob hm
          refine inv_mU (C := R_Parts) (As := [.int v4, .int v2]) (rest := []) (ws' := wl_Log ca ad (s_parts g q8)) X (c_Parts_move l D ca (ad 15) (ad 16) (ad 17) (ad 18) (ad 19) (ad 20) _ (g_parts g) v4 v2 q8 hq8) g_Log_337 yo_Parts_move ⟨Nat.le_of_ble_eq_true rfl, Nat.le_of_ble_eq_true rfl⟩ hl hP hD [15, 16, 17, 18, 19, 20] rfl rfl rfl rfl (ci := 3) rfl rfl hS hA rfl rfl (Nat.le_of_ble_eq_true rfl) ⟨Nat.zero_le _, Nat.zero_le _⟩ d_Log_dropParts_91 (fun H locs hP hD hS => ?_)
          refine lv_iinc (v := (v2 + 1)) (lv' := [(2, .int (v2 + 1)), (5, .int q6), (0, .ref (ad 0)), (1, .int v1), (3, .int v3), (4, .int v4)]) hx hb d_Log_dropParts_94 hl (k := 3) rfl rfl (by decide) rfl (fun ls hl => ?_)
          refine lv_iinc (v := (v4 + 1)) (lv' := [(4, .int (v4 + 1)), (2, .int (v2 + 1)), (5, .int q6), (0, .ref (ad 0)), (1, .int v1), (3, .int v3)]) hx hb d_Log_dropParts_97 hl (k := 5) rfl rfl (by decide) rfl (fun ls hl => ?_)
          refine lv_goto (tgt := 7) hx hb d_Log_dropParts_100 (by decide) ?_
          exact ih (s_parts g q8) v1 (v2 + 1) v3 (v4 + 1) _ hm _ _ hP hD hS ls (lv_sub hl [3, 4, 1, 5, 0] rfl)
        · replace hm := ineg c7 hm
          refine lv_aload_n hx hb d_Log_dropParts_43 rfl (lv_at hl 1 rfl) ?_
          refine lv_iload hx hb d_Log_dropParts_44 (lv_at hl 0 rfl) ?_
          obtain ⟨q9, hq9, hm⟩ := ob hm
          refine inv_rVa (C := R_Log) (As := [.int q6]) (rest := []) (v := .int q9) X (c_Log_countNaming l D ca ad _ g q6 q9 hq9) g_Log_204 yo_Log_countNaming ⟨Nat.le_of_ble_eq_true rfl, Nat.le_of_ble_eq_true rfl⟩ hl hP hD (ci := 5) rfl rfl hS hA rfl rfl (Nat.le_of_ble_eq_true rfl) ⟨Nat.zero_le _, Nat.zero_le _⟩ d_Log_dropParts_46 (fun H locs hP hS => ?_)
          refine lv_if_ne (tgt := 84) hx hb d_Log_dropParts_49 (by decide) (fun c10 => ?_) (fun c10 => ?_)
          · replace hm := ineg c10 hm
            refine lv_aload_n hx hb d_Log_dropParts_84 rfl (lv_at hl 1 rfl) ?_
            refine va_get (D := D) (ci := 5) (v := .ref (ad 15)) (C := R_Log) (T := F_Log) (N := 15) hx hb hts i_Log hown hK hP 0 rfl rfl 7 (by decide) (hts _ wf_Log_51) (fun _ h9 => h9) rfl d_Log_dropParts_85 ?_
            refine lv_iload hx hb d_Log_dropParts_88 (lv_at hl 5 rfl) ?_
            refine lv_iload_n hx hb d_Log_dropParts_90 rfl (lv_at hl 3 rfl) ?_
            obtain ⟨q11, hq11, hm⟩ := ob hm
            refine inv_mU (C := R_Parts) (As := [.int v4, .int v2]) (rest := []) (ws' := wl_Log ca ad (s_parts g q11)) X (c_Parts_move l D ca (ad 15) (ad 16) (ad 17) (ad 18) (ad 19) (ad 20) _ (g_parts g) v4 v2 q11 hq11) g_Log_337 yo_Parts_move ⟨Nat.le_of_ble_eq_true rfl, Nat.le_of_ble_eq_true rfl⟩ hl hP hD [15, 16, 17, 18, 19, 20] rfl rfl rfl rfl (ci := 3) rfl rfl hS hA rfl rfl (Nat.le_of_ble_eq_true rfl) ⟨Nat.zero_le _, Nat.zero_le _⟩ d_Log_dropParts_91 (fun H locs hP hD hS => ?_)
            refine lv_iinc (v := (v2 + 1)) (lv' := [(2, .int (v2 + 1)), (5, .int q6), (0, .ref (ad 0)), (1, .int v1), (3, .int v3), (4, .int v4)]) hx hb d_Log_dropParts_94 hl (k := 3) rfl rfl (by decide) rfl (fun ls hl => ?_)
            refine lv_iinc (v := (v4 + 1)) (lv' := [(4, .int (v4 + 1)), (2, .int (v2 + 1)), (5, .int q6), (0, .ref (ad 0)), (1, .int v1), (3, .int v3)]) hx hb d_Log_dropParts_97 hl (k := 5) rfl rfl (by decide) rfl (fun ls hl => ?_)
            refine lv_goto (tgt := 7) hx hb d_Log_dropParts_100 (by decide) ?_
            exact ih (s_parts g q11) v1 (v2 + 1) v3 (v4 + 1) _ hm _ _ hP hD hS ls (lv_sub hl [3, 4, 1, 5, 0] rfl)
          · replace hm := ip c10 hm
            refine lv_aload_n hx hb d_Log_dropParts_52 rfl (lv_at hl 1 rfl) ?_
            refine lv_aload_n hx hb d_Log_dropParts_53 rfl (lv_at hl 1 rfl) ?_
            refine va_get (D := D) (ci := 5) (v := .ref (ad 15)) (C := R_Log) (T := F_Log) (N := 15) hx hb hts i_Log hown hK hP 0 rfl rfl 7 (by decide) (hts _ wf_Log_51) (fun _ h9 => h9) rfl d_Log_dropParts_54 ?_
            refine lv_iload hx hb d_Log_dropParts_57 (lv_at hl 5 rfl) ?_
            obtain ⟨q12, hq12, hm⟩ := ob hm
            refine inv_rV (C := R_Parts) (As := [.int v4]) (rest := [.ref (ad 0)]) (v := .int q12) X (c_Parts_rowAt l D ca (ad 15) (ad 16) (ad 17) (ad 18) (ad 19) (ad 20) _ (g_parts g) v4 q12 hq12) g_Log_198 yo_Parts_rowAt ⟨Nat.le_of_ble_eq_true rfl, Nat.le_of_ble_eq_true rfl⟩ hl hP hD [15, 16, 17, 18, 19, 20] rfl rfl (ci := 3) rfl rfl hS hA rfl rfl (Nat.le_of_ble_eq_true rfl) ⟨Nat.zero_le _, Nat.zero_le _⟩ d_Log_dropParts_59 (fun H locs hP hS => ?_)
            refine lv_aload_n hx hb d_Log_dropParts_62 rfl (lv_at hl 1 rfl) ?_
            refine va_get (D := D) (ci := 5) (v := .ref (ad 15)) (C := R_Log) (T := F_Log) (N := 15) hx hb hts i_Log hown hK hP 0 rfl rfl 7 (by decide) (hts _ wf_Log_51) (fun _ h9 => h9) rfl d_Log_dropParts_63 ?_
            refine lv_iload hx hb d_Log_dropParts_66 (lv_at hl 5 rfl) ?_
            obtain ⟨q13, hq13, hm⟩ := ob hm
            refine inv_rV (C := R_Parts) (As := [.int v4]) (rest := [.int q12, .ref (ad 0)]) (v := .int q13) X (c_Parts_lengthAt l D ca (ad 15) (ad 16) (ad 17) (ad 18) (ad 19) (ad 20) _ (g_parts g) v4 q13 hq13) g_Log_195 yo_Parts_lengthAt ⟨Nat.le_of_ble_eq_true rfl, Nat.le_of_ble_eq_true rfl⟩ hl hP hD [15, 16, 17, 18, 19, 20] rfl rfl (ci := 3) rfl rfl hS hA rfl rfl (Nat.le_of_ble_eq_true rfl) ⟨Nat.zero_le _, Nat.zero_le _⟩ d_Log_dropParts_68 (fun H locs hP hS => ?_)
            obtain ⟨q14, hq14, hm⟩ := ob hm
            refine inv_rS (As := [.int q13]) (rest := [.int q12, .ref (ad 0)]) (v := .int q14) X (c_Log_rowsOfPart l D ca  _ q13 q14 hq14) g_Log_270 yo_Log_rowsOfPart ⟨Nat.le_of_ble_eq_true rfl, Nat.le_of_ble_eq_true rfl⟩ hl hP hD [] rfl rfl hS hA rfl rfl (Nat.le_of_ble_eq_true rfl) ⟨Nat.zero_le _, Nat.zero_le _⟩ d_Log_dropParts_71 (fun H locs hP hS => ?_)
            obtain ⟨q15, hq15, hm⟩ := ob hm
            refine inv_mVa (C := R_Log) (As := [.int q12, .int q14]) (rest := []) (v := .int q15.1) X (c_Log_takeBack l D ca ad _ g q12 q14 q15 hq15) g_Log_331 yo_Log_takeBack ⟨Nat.le_of_ble_eq_true rfl, Nat.le_of_ble_eq_true rfl⟩ hl hP hD rfl (ci := 5) rfl rfl hS hA rfl rfl (Nat.le_of_ble_eq_true rfl) ⟨Nat.zero_le _, Nat.zero_le _⟩ d_Log_dropParts_74 (fun H locs hP hD hS => ?_)
            refine lv_pop hx hb d_Log_dropParts_77 rfl ?_
            refine lv_iinc (v := (v3 + 1)) (lv' := [(3, .int (v3 + 1)), (5, .int q6), (0, .ref (ad 0)), (1, .int v1), (2, .int v2), (4, .int v4)]) hx hb d_Log_dropParts_78 hl (k := 4) rfl rfl (by decide) rfl (fun ls hl => ?_)
            refine lv_goto (tgt := 97) hx hb d_Log_dropParts_81 (by decide) ?_
            refine lv_iinc (v := (v4 + 1)) (lv' := [(4, .int (v4 + 1)), (3, .int (v3 + 1)), (5, .int q6), (0, .ref (ad 0)), (1, .int v1), (2, .int v2)]) hx hb d_Log_dropParts_97 hl (k := 5) rfl rfl (by decide) rfl (fun ls hl => ?_)
            refine lv_goto (tgt := 7) hx hb d_Log_dropParts_100 (by decide) ?_
            exact ih q15.2 v1 v2 (v3 + 1) (v4 + 1) _ hm _ _ hP hD hS ls (lv_sub hl [3, 4, 5, 1, 0] rfl)
set_option maxHeartbeats 4000000 in
set_option maxRecDepth 100000 in
theorem c_Log_dropParts (l : Launch) (D : va_G) (ca : Nat → ClassId) (ad : Nat → Nat) (sz : Nat) (g : St_Log) (p1 : Int32) (res : Int32 × St_Log) (hm : m_Log_dropParts g p1 = some res) : Met l y_Log_dropParts (cws y_Log_dropParts b_Log_dropParts 6 (some .int)) (RM 6 131) (PreW D ca (wl_Log ca ad g) [.ref (ad 0), .int p1] sz) (QRm D (some (.int res.1)) (wl_Log ca ad res.2) (va_A (wl_Log ca ad g) sz)) 0 0 (va_A (wl_Log ca ad g) sz) := by
  refine met_ofM (own := R_Log) (by decide) rfl (Nat.le_of_ble_eq_true rfl) ?_
  intro p e s m below meth c A X hA hP hD ls hl
  obtain ⟨hx, hb, hml, hr, hown, hts, hK, hlocks⟩ := id X
  have hS : va_S A s.heap s.heap [] := va_S.rf
  have hl : lv_has ls 6 [(0, .ref (ad 0)), (1, .int p1)] := hl
  unfold m_Log_dropParts at hm
  refine lv_iconst (v := 0) hx hb d_Log_dropParts_0 (by decide) ?_
  refine lv_istore_n (lv' := [(2, .int 0), (0, .ref (ad 0)), (1, .int p1)]) hx hb d_Log_dropParts_1 rfl hl (by decide) rfl (fun ls hl => ?_)
  refine lv_iconst (v := 0) hx hb d_Log_dropParts_2 (by decide) ?_
  refine lv_istore_n (lv' := [(3, .int 0), (2, .int 0), (0, .ref (ad 0)), (1, .int p1)]) hx hb d_Log_dropParts_3 rfl hl (by decide) rfl (fun ls hl => ?_)
  refine lv_iconst (v := 0) hx hb d_Log_dropParts_4 (by decide) ?_
  refine lv_istore (lv' := [(4, .int 0), (3, .int 0), (2, .int 0), (0, .ref (ad 0)), (1, .int p1)]) hx hb d_Log_dropParts_5 hl (by decide) rfl (fun ls hl => ?_)
  exact k_m_Log_dropParts_L7 X hA FU g p1 0 0 0 _ hm _ _ hP hD hS ls (lv_sub hl [3, 4, 2, 1, 0] rfl)
set_option maxHeartbeats 4000000 in
set_option maxRecDepth 100000 in
theorem c_Log_drop (l : Launch) (D : va_G) (ca : Nat → ClassId) (ad : Nat → Nat) (sz : Nat) (g : St_Log) (p1 : Int32) (res : Int32 × St_Log) (hm : m_Log_drop g p1 = some res) : Met l y_Log_drop (cws y_Log_drop b_Log_drop 4 (some .int)) (RM 7 156) (PreW D ca (wl_Log ca ad g) [.ref (ad 0), .int p1] sz) (QRm D (some (.int res.1)) (wl_Log ca ad res.2) (va_A (wl_Log ca ad g) sz)) 0 0 (va_A (wl_Log ca ad g) sz) := by
  refine met_ofM (own := R_Log) (by decide) rfl (Nat.le_of_ble_eq_true rfl) ?_
  intro p e s m below meth c A X hA hP hD ls hl
  obtain ⟨hx, hb, hml, hr, hown, hts, hK, hlocks⟩ := id X
  have hS : va_S A s.heap s.heap [] := va_S.rf
  have hl : lv_has ls 4 [(0, .ref (ad 0)), (1, .int p1)] := hl
  unfold m_Log_drop at hm
  refine lv_aload_n hx hb d_Log_drop_0 rfl (lv_at hl 0 rfl) ?_
  refine va_get (D := D) (ci := 5) (v := .int (g_isOpen g)) (C := R_Log) (T := F_Log) (N := 15) hx hb hts i_Log hown hK hP 0 rfl rfl 14 (by decide) (hts _ wf_Log_69) (fun _ h9 => h9) rfl d_Log_drop_1 ?_
  refine lv_if_ne (tgt := 10) hx hb d_Log_drop_4 (by decide) (fun c1 => ?_) (fun c1 => ?_)
  · replace hm := ineg c1 hm
    refine lv_iload_n hx hb d_Log_drop_10 rfl (lv_at hl 1 rfl) ?_
    refine lv_if_ge (tgt := 17) hx hb d_Log_drop_11 (by decide) (fun c2 => ?_) (fun c2 => ?_)
    · replace hm := ip c2 hm
      refine lv_aload_n hx hb d_Log_drop_17 rfl (lv_at hl 0 rfl) ?_
      refine va_get (D := D) (ci := 5) (v := .ref (ad 21)) (C := R_Log) (T := F_Log) (N := 15) hx hb hts i_Log hown hK hP 0 rfl rfl 8 (by decide) (hts _ wf_Log_58) (fun _ h9 => h9) rfl d_Log_drop_18 ?_
      obtain ⟨q3, hq3, hm⟩ := ob hm
      refine inv_rV (C := R_Marks) (As := []) (rest := []) (v := .int q3) X (c_Marks_greatestPart l D ca (ad 21) (ad 22) (ad 23) (ad 24) (ad 25) (ad 26) _ (g_kept g) q3 hq3) g_Log_143 yo_Marks_greatestPart ⟨Nat.le_of_ble_eq_true rfl, Nat.le_of_ble_eq_true rfl⟩ hl hP hD [21, 22, 23, 24, 25, 26] rfl rfl (ci := 4) rfl rfl hS hA rfl rfl (Nat.le_of_ble_eq_true rfl) ⟨Nat.zero_le _, Nat.zero_le _⟩ d_Log_drop_21 (fun H locs hP hS => ?_)
      refine lv_istore_n (lv' := [(2, .int q3), (0, .ref (ad 0)), (1, .int p1)]) hx hb d_Log_drop_24 rfl hl (by decide) rfl (fun ls hl => ?_)
      refine lv_aload_n hx hb d_Log_drop_25 rfl (lv_at hl 1 rfl) ?_
      refine lv_aload_n hx hb d_Log_drop_26 rfl (lv_at hl 1 rfl) ?_
      refine va_get (D := D) (ci := 5) (v := .ref (ad 21)) (C := R_Log) (T := F_Log) (N := 15) hx hb hts i_Log hown hK hP 0 rfl rfl 8 (by decide) (hts _ wf_Log_58) (fun _ h9 => h9) rfl d_Log_drop_27 ?_
      obtain ⟨q4, hq4, hm⟩ := ob hm
      refine inv_rV (C := R_Marks) (As := []) (rest := [.ref (ad 0)]) (v := .int q4) X (c_Marks_size l D ca (ad 21) (ad 22) (ad 23) (ad 24) (ad 25) (ad 26) _ (g_kept g) q4 hq4) g_Log_88 yo_Marks_size ⟨Nat.le_of_ble_eq_true rfl, Nat.le_of_ble_eq_true rfl⟩ hl hP hD [21, 22, 23, 24, 25, 26] rfl rfl (ci := 4) rfl rfl hS hA rfl rfl (Nat.le_of_ble_eq_true rfl) ⟨Nat.zero_le _, Nat.zero_le _⟩ d_Log_drop_30 (fun H locs hP hS => ?_)
      refine lv_iload_n hx hb d_Log_drop_33 rfl (lv_at hl 2 rfl) ?_
      refine lv_isub hx hb d_Log_drop_34 ?_
      obtain ⟨q5, hq5, hm⟩ := ob hm
      refine inv_mVa (C := R_Log) (As := [.int (q4 - p1)]) (rest := []) (v := .int q5.1) X (c_Log_dropMarks l D ca ad _ g (q4 - p1) q5 hq5) g_Log_146 yo_Log_dropMarks ⟨Nat.le_of_ble_eq_true rfl, Nat.le_of_ble_eq_true rfl⟩ hl hP hD rfl (ci := 5) rfl rfl hS hA rfl rfl (Nat.le_of_ble_eq_true rfl) ⟨Nat.zero_le _, Nat.zero_le _⟩ d_Log_drop_35 (fun H locs hP hD hS => ?_)
      refine lv_if_ne (tgt := 44) hx hb d_Log_drop_38 (by decide) (fun c6 => ?_) (fun c6 => ?_)
      · replace hm := ineg c6 hm
        refine lv_aload_n hx hb d_Log_drop_44 rfl (lv_at hl 1 rfl) ?_
        refine lv_iload_n hx hb d_Log_drop_45 rfl (lv_at hl 0 rfl) ?_
        obtain ⟨q7, hq7, hm⟩ := ob hm
        refine inv_mVa (C := R_Log) (As := [.int q3]) (rest := []) (v := .int q7.1) X (c_Log_dropParts l D ca ad _ q5.2 q3 q7 hq7) g_Log_149 yo_Log_dropParts ⟨Nat.le_of_ble_eq_true rfl, Nat.le_of_ble_eq_true rfl⟩ hl hP hD rfl (ci := 5) rfl rfl hS hA rfl rfl (Nat.le_of_ble_eq_true rfl) ⟨Nat.zero_le _, Nat.zero_le _⟩ d_Log_drop_46 (fun H locs hP hD hS => ?_)
        refine lv_istore_n (lv' := [(3, .int q7.1), (2, .int q3), (0, .ref (ad 0)), (1, .int p1)]) hx hb d_Log_drop_49 rfl hl (by decide) rfl (fun ls hl => ?_)
        refine lv_aload_n hx hb d_Log_drop_50 rfl (lv_at hl 2 rfl) ?_
        refine va_get (D := D) (ci := 5) (v := .int (g_isOpen q7.2)) (C := R_Log) (T := F_Log) (N := 15) hx hb hts i_Log hown hK hP 0 rfl rfl 14 (by decide) (hts _ wf_Log_69) (fun _ h9 => h9) rfl d_Log_drop_51 ?_
        refine lv_if_eq (tgt := 61) hx hb d_Log_drop_54 (by decide) (fun c8 => ?_) (fun c8 => ?_)
        · replace hm := ip c8 hm
          refine lv_bipush (v := (-5)) hx hb d_Log_drop_61 (by decide) ?_
          cases hm
          exact ret_mi X hP hS d_Log_drop_63
        · replace hm := ineg c8 hm
          refine lv_iload_n hx hb d_Log_drop_57 rfl (lv_at hl 0 rfl) ?_
          refine lv_goto (tgt := 63) hx hb d_Log_drop_58 (by decide) ?_
          cases hm
          exact ret_mi X hP hS d_Log_drop_63
      · replace hm := ip c6 hm
        refine lv_bipush (v := (-5)) hx hb d_Log_drop_41 (by decide) ?_
        cases hm
        exact ret_mi X hP hS d_Log_drop_43
    · replace hm := ineg c2 hm
      refine lv_bipush (v := (-2)) hx hb d_Log_drop_14 (by decide) ?_
      cases hm
      exact ret_mi X hP hS d_Log_drop_16
  · replace hm := ip c1 hm
    refine lv_bipush (v := (-3)) hx hb d_Log_drop_7 (by decide) ?_
    cases hm
    exact ret_mi X hP hS d_Log_drop_9
set_option maxHeartbeats 4000000 in
set_option maxRecDepth 100000 in
theorem c_Log_cut (l : Launch) (D : va_G) (ca : Nat → ClassId) (ad : Nat → Nat) (sz : Nat) (g : St_Log) (p1 : Int32) (res : Int32 × St_Log) (hm : m_Log_cut g p1 = some res) : Met l y_Log_cut (cws y_Log_cut b_Log_cut 2 (some .boolean)) (RM 1 21) (PreW D ca (wl_Log ca ad g) [.ref (ad 0), .int p1] sz) (QRm D (some (.int res.1)) (wl_Log ca ad res.2) (va_A (wl_Log ca ad g) sz)) 0 0 (va_A (wl_Log ca ad g) sz) := by
  refine met_ofM (own := R_Log) (by decide) rfl (Nat.le_of_ble_eq_true rfl) ?_
  intro p e s m below meth c A X hA hP hD ls hl
  obtain ⟨hx, hb, hml, hr, hown, hts, hK, hlocks⟩ := id X
  have hS : va_S A s.heap s.heap [] := va_S.rf
  have hl : lv_has ls 2 [(0, .ref (ad 0)), (1, .int p1)] := hl
  unfold m_Log_cut at hm
  refine lv_iload_n hx hb d_Log_cut_0 rfl (lv_at hl 1 rfl) ?_
  refine lv_iconst (v := (-1)) hx hb d_Log_cut_1 (by decide) ?_
  refine lv_icmp_lt (tgt := 12) hx hb d_Log_cut_2 (by decide) (fun c1 => ?_) (fun c1 => ?_)
  · replace hm := ip c1 hm
    refine lv_iconst (v := 0) hx hb d_Log_cut_12 (by decide) ?_
    cases hm
    exact ret_mz X nz0 hP hS d_Log_cut_13
  · replace hm := ineg c1 hm
    refine lv_iload_n hx hb d_Log_cut_5 rfl (lv_at hl 1 rfl) ?_
    refine lv_sipush (v := 20000) hx hb d_Log_cut_6 (by decide) ?_
    refine lv_icmp_le (tgt := 14) hx hb d_Log_cut_9 (by decide) (fun c2 => ?_) (fun c2 => ?_)
    · replace hm := ip c2 hm
      refine lv_aload_n hx hb d_Log_cut_14 rfl (lv_at hl 0 rfl) ?_
      refine va_get (D := D) (ci := 5) (v := .ref (ad 1)) (C := R_Log) (T := F_Log) (N := 15) hx hb hts i_Log hown hK hP 0 rfl rfl 0 (by decide) (hts _ wf_Log_14) (fun _ h9 => h9) rfl d_Log_cut_15 ?_
      refine lv_iload_n hx hb d_Log_cut_18 rfl (lv_at hl 1 rfl) ?_
      obtain ⟨q3, hq3, hm⟩ := ob hm
      refine inv_mU (C := R_Medium) (As := [.int p1]) (rest := []) (ws' := wl_Log ca ad (s_medium g q3)) X (c_Medium_setPower l D ca (ad 1) (ad 2) _ (g_medium g) p1 q3 hq3) g_Log_152 yo_Medium_setPower ⟨Nat.le_of_ble_eq_true rfl, Nat.le_of_ble_eq_true rfl⟩ hl hP hD [1, 2] rfl rfl rfl rfl (ci := 0) rfl rfl hS hA rfl rfl (Nat.le_of_ble_eq_true rfl) ⟨Nat.zero_le _, Nat.zero_le _⟩ d_Log_cut_19 (fun H locs hP hD hS => ?_)
      refine lv_iconst (v := 1) hx hb d_Log_cut_22 (by decide) ?_
      cases hm
      exact ret_mz X nz1 hP hS d_Log_cut_23
    · replace hm := ineg c2 hm
      refine lv_iconst (v := 0) hx hb d_Log_cut_12 (by decide) ?_
      cases hm
      exact ret_mz X nz0 hP hS d_Log_cut_13
set_option maxHeartbeats 4000000 in
set_option maxRecDepth 100000 in
theorem c_Log_close (l : Launch) (D : va_G) (ca : Nat → ClassId) (ad : Nat → Nat) (sz : Nat) (g : St_Log)  (res : Int32 × St_Log) (hm : m_Log_close g = some res) : Met l y_Log_close (cws y_Log_close b_Log_close 2 (some .boolean)) (RM 0 0) (PreW D ca (wl_Log ca ad g) [.ref (ad 0)] sz) (QRm D (some (.int res.1)) (wl_Log ca ad res.2) (va_A (wl_Log ca ad g) sz)) 0 0 (va_A (wl_Log ca ad g) sz) := by
  refine met_ofM (own := R_Log) (by decide) rfl (Nat.le_of_ble_eq_true rfl) ?_
  intro p e s m below meth c A X hA hP hD ls hl
  obtain ⟨hx, hb, hml, hr, hown, hts, hK, hlocks⟩ := id X
  have hS : va_S A s.heap s.heap [] := va_S.rf
  have hl : lv_has ls 2 [(0, .ref (ad 0))] := hl
  unfold m_Log_close at hm
  refine lv_aload_n hx hb d_Log_close_0 rfl (lv_at hl 0 rfl) ?_
  refine va_get (D := D) (ci := 5) (v := .int (g_isOpen g)) (C := R_Log) (T := F_Log) (N := 15) hx hb hts i_Log hown hK hP 0 rfl rfl 14 (by decide) (hts _ wf_Log_69) (fun _ h9 => h9) rfl d_Log_close_1 ?_
  refine lv_istore_n (lv' := [(1, .int (g_isOpen g)), (0, .ref (ad 0))]) hx hb d_Log_close_4 rfl hl (by decide) rfl (fun ls hl => ?_)
  refine lv_aload_n hx hb d_Log_close_5 rfl (lv_at hl 1 rfl) ?_
  refine lv_iconst (v := 0) hx hb d_Log_close_6 (by decide) ?_
  refine va_put (D := D) (ci := 5) (v := .int 0) (ty := .boolean) (C := R_Log) (T := F_Log) (N := 15) hx hb hts i_Log t_Log t_Log_ok n_Log hown hK hP hD hS 0 rfl rfl 14 (by decide) (hts _ wf_Log_69) (fun _ h9 => h9) rfl (by decide +kernel) rfl rfl (Nat.le_of_ble_eq_true rfl) d_Log_close_7 (fun H locs hP hD hS => ?_)
  replace hP : va_P D classes (wl_Log ca ad (s_isOpen g 0)) H := hP
  replace hD : va_D A (wl_Log ca ad (s_isOpen g 0)) := hD
  refine lv_iload_n hx hb d_Log_close_10 rfl (lv_at hl 0 rfl) ?_
  obtain ⟨z1, hm⟩ := on hm
  cases hm
  exact ret_mz X (nz z1).1 hP hS d_Log_close_11
set_option maxHeartbeats 4000000 in
set_option maxRecDepth 100000 in
theorem c_Log_forget (l : Launch) (D : va_G) (ca : Nat → ClassId) (ad : Nat → Nat) (sz : Nat) (g : St_Log)  (res : St_Log) (hm : m_Log_forget g = some res) : Met l y_Log_forget (cws y_Log_forget b_Log_forget 1 none) (RM 3 66) (PreW D ca (wl_Log ca ad g) [.ref (ad 0)] sz) (QRm D none (wl_Log ca ad res) (va_A (wl_Log ca ad g) sz)) 0 0 (va_A (wl_Log ca ad g) sz) := by
  refine met_ofM (own := R_Log) (by decide) rfl (Nat.le_of_ble_eq_true rfl) ?_
  intro p e s m below meth c A X hA hP hD ls hl
  obtain ⟨hx, hb, hml, hr, hown, hts, hK, hlocks⟩ := id X
  have hS : va_S A s.heap s.heap [] := va_S.rf
  have hl : lv_has ls 1 [(0, .ref (ad 0))] := hl
  unfold m_Log_forget at hm
  refine lv_aload_n hx hb d_Log_forget_0 rfl (lv_at hl 0 rfl) ?_
  refine va_get (D := D) (ci := 5) (v := .ref (ad 15)) (C := R_Log) (T := F_Log) (N := 15) hx hb hts i_Log hown hK hP 0 rfl rfl 7 (by decide) (hts _ wf_Log_51) (fun _ h9 => h9) rfl d_Log_forget_1 ?_
  refine lv_iconst (v := 0) hx hb d_Log_forget_4 (by decide) ?_
  obtain ⟨q1, hq1, hm⟩ := ob hm
  refine inv_mU (C := R_Parts) (As := [.int 0]) (rest := []) (ws' := wl_Log ca ad (s_parts g q1)) X (c_Parts_shorten l D ca (ad 15) (ad 16) (ad 17) (ad 18) (ad 19) (ad 20) _ (g_parts g) 0 q1 hq1) g_Log_340 yo_Parts_shorten ⟨Nat.le_of_ble_eq_true rfl, Nat.le_of_ble_eq_true rfl⟩ hl hP hD [15, 16, 17, 18, 19, 20] rfl rfl rfl rfl (ci := 3) rfl rfl hS hA rfl rfl (Nat.le_of_ble_eq_true rfl) ⟨Nat.zero_le _, Nat.zero_le _⟩ d_Log_forget_5 (fun H locs hP hD hS => ?_)
  refine lv_aload_n hx hb d_Log_forget_8 rfl (lv_at hl 0 rfl) ?_
  refine va_get (D := D) (ci := 5) (v := .ref (ad 21)) (C := R_Log) (T := F_Log) (N := 15) hx hb hts i_Log hown hK hP 0 rfl rfl 8 (by decide) (hts _ wf_Log_58) (fun _ h9 => h9) rfl d_Log_forget_9 ?_
  refine lv_aload_n hx hb d_Log_forget_12 rfl (lv_at hl 0 rfl) ?_
  refine va_get (D := D) (ci := 5) (v := .ref (ad 21)) (C := R_Log) (T := F_Log) (N := 15) hx hb hts i_Log hown hK hP 0 rfl rfl 8 (by decide) (hts _ wf_Log_58) (fun _ h9 => h9) rfl d_Log_forget_13 ?_
  obtain ⟨q2, hq2, hm⟩ := ob hm
  refine inv_rV (C := R_Marks) (As := []) (rest := [.ref (ad 21)]) (v := .int q2) X (c_Marks_size l D ca (ad 21) (ad 22) (ad 23) (ad 24) (ad 25) (ad 26) _ (g_kept g) q2 hq2) g_Log_88 yo_Marks_size ⟨Nat.le_of_ble_eq_true rfl, Nat.le_of_ble_eq_true rfl⟩ hl hP hD [21, 22, 23, 24, 25, 26] rfl rfl (ci := 4) rfl rfl hS hA rfl rfl (Nat.le_of_ble_eq_true rfl) ⟨Nat.zero_le _, Nat.zero_le _⟩ d_Log_forget_16 (fun H locs hP hS => ?_)
  obtain ⟨q3, hq3, hm⟩ := ob hm
  refine inv_mU (C := R_Marks) (As := [.int q2]) (rest := []) (ws' := wl_Log ca ad (s_kept (s_parts g q1) q3)) X (c_Marks_removeFirst l D ca (ad 21) (ad 22) (ad 23) (ad 24) (ad 25) (ad 26) _ (g_kept g) q2 q3 hq3) g_Log_334 yo_Marks_removeFirst ⟨Nat.le_of_ble_eq_true rfl, Nat.le_of_ble_eq_true rfl⟩ hl hP hD [21, 22, 23, 24, 25, 26] rfl rfl rfl rfl (ci := 4) rfl rfl hS hA rfl rfl (Nat.le_of_ble_eq_true rfl) ⟨Nat.zero_le _, Nat.zero_le _⟩ d_Log_forget_19 (fun H locs hP hD hS => ?_)
  refine lv_aload_n hx hb d_Log_forget_22 rfl (lv_at hl 0 rfl) ?_
  refine va_get (D := D) (ci := 5) (v := .ref (ad 27)) (C := R_Log) (T := F_Log) (N := 15) hx hb hts i_Log hown hK hP 0 rfl rfl 9 (by decide) (hts _ wf_Log_62) (fun _ h9 => h9) rfl d_Log_forget_23 ?_
  refine lv_aload_n hx hb d_Log_forget_26 rfl (lv_at hl 0 rfl) ?_
  refine va_get (D := D) (ci := 5) (v := .ref (ad 27)) (C := R_Log) (T := F_Log) (N := 15) hx hb hts i_Log hown hK hP 0 rfl rfl 9 (by decide) (hts _ wf_Log_62) (fun _ h9 => h9) rfl d_Log_forget_27 ?_
  obtain ⟨q4, hq4, hm⟩ := ob hm
  refine inv_rV (C := R_Marks) (As := []) (rest := [.ref (ad 27)]) (v := .int q4) X (c_Marks_size l D ca (ad 27) (ad 28) (ad 29) (ad 30) (ad 31) (ad 32) _ (g_made g) q4 hq4) g_Log_88 yo_Marks_size ⟨Nat.le_of_ble_eq_true rfl, Nat.le_of_ble_eq_true rfl⟩ hl hP hD [27, 28, 29, 30, 31, 32] rfl rfl (ci := 4) rfl rfl hS hA rfl rfl (Nat.le_of_ble_eq_true rfl) ⟨Nat.zero_le _, Nat.zero_le _⟩ d_Log_forget_30 (fun H locs hP hS => ?_)
  obtain ⟨q5, hq5, hm⟩ := ob hm
  refine inv_mU (C := R_Marks) (As := [.int q4]) (rest := []) (ws' := wl_Log ca ad (s_made (s_kept (s_parts g q1) q3) q5)) X (c_Marks_removeFirst l D ca (ad 27) (ad 28) (ad 29) (ad 30) (ad 31) (ad 32) _ (g_made g) q4 q5 hq5) g_Log_334 yo_Marks_removeFirst ⟨Nat.le_of_ble_eq_true rfl, Nat.le_of_ble_eq_true rfl⟩ hl hP hD [27, 28, 29, 30, 31, 32] rfl rfl rfl rfl (ci := 4) rfl rfl hS hA rfl rfl (Nat.le_of_ble_eq_true rfl) ⟨Nat.zero_le _, Nat.zero_le _⟩ d_Log_forget_33 (fun H locs hP hD hS => ?_)
  refine lv_aload_n hx hb d_Log_forget_36 rfl (lv_at hl 0 rfl) ?_
  refine va_get (D := D) (ci := 5) (v := .ref (ad 11)) (C := R_Log) (T := F_Log) (N := 15) hx hb hts i_Log hown hK hP 0 rfl rfl 5 (by decide) (hts _ wf_Log_41) (fun _ h9 => h9) rfl d_Log_forget_37 ?_
  refine lv_iconst (v := 0) hx hb d_Log_forget_40 (by decide) ?_
  refine lv_aload_n hx hb d_Log_forget_41 rfl (lv_at hl 0 rfl) ?_
  refine va_get (D := D) (ci := 5) (v := .ref (ad 1)) (C := R_Log) (T := F_Log) (N := 15) hx hb hts i_Log hown hK hP 0 rfl rfl 0 (by decide) (hts _ wf_Log_14) (fun _ h9 => h9) rfl d_Log_forget_42 ?_
  obtain ⟨q6, hq6, hm⟩ := ob hm
  refine inv_rV (C := R_Medium) (As := []) (rest := [.int 0, .ref (ad 11)]) (v := .int q6) X (c_Medium_rows l D ca (ad 1) (ad 2) _ (g_medium g) q6 hq6) g_Log_36 yo_Medium_rows ⟨Nat.le_of_ble_eq_true rfl, Nat.le_of_ble_eq_true rfl⟩ hl hP hD [1, 2] rfl rfl (ci := 0) rfl rfl hS hA rfl rfl (Nat.le_of_ble_eq_true rfl) ⟨Nat.zero_le _, Nat.zero_le _⟩ d_Log_forget_45 (fun H locs hP hS => ?_)
  obtain ⟨q7, hq7, hm⟩ := ob hm
  refine inv_mU (C := R_Room) (As := [.int 0, .int q6]) (rest := []) (ws' := wl_Log ca ad (s_room (s_made (s_kept (s_parts g q1) q3) q5) q7)) X (c_Room_free l D ca (ad 11) (ad 12) _ (g_room g) 0 q6 q7 hq7) g_Log_327 yo_Room_free ⟨Nat.le_of_ble_eq_true rfl, Nat.le_of_ble_eq_true rfl⟩ hl hP hD [11, 12] rfl rfl rfl rfl (ci := 2) rfl rfl hS hA rfl rfl (Nat.le_of_ble_eq_true rfl) ⟨Nat.zero_le _, Nat.zero_le _⟩ d_Log_forget_48 (fun H locs hP hD hS => ?_)
  refine lv_aload_n hx hb d_Log_forget_51 rfl (lv_at hl 0 rfl) ?_
  refine lv_iconst (v := 0) hx hb d_Log_forget_52 (by decide) ?_
  refine va_put (D := D) (ci := 5) (v := .int 0) (ty := .int) (C := R_Log) (T := F_Log) (N := 15) hx hb hts i_Log t_Log t_Log_ok n_Log hown hK hP hD hS 0 rfl rfl 12 (by decide) (hts _ wf_Log_268) (fun _ h9 => h9) rfl (by decide +kernel) rfl rfl (Nat.le_of_ble_eq_true rfl) d_Log_forget_53 (fun H locs hP hD hS => ?_)
  replace hP : va_P D classes (wl_Log ca ad (s_greatestPart (s_room (s_made (s_kept (s_parts g q1) q3) q5) q7) 0)) H := hP
  replace hD : va_D A (wl_Log ca ad (s_greatestPart (s_room (s_made (s_kept (s_parts g q1) q3) q5) q7) 0)) := hD
  refine lv_aload_n hx hb d_Log_forget_56 rfl (lv_at hl 0 rfl) ?_
  refine lv_iconst (v := 0) hx hb d_Log_forget_57 (by decide) ?_
  refine va_put (D := D) (ci := 5) (v := .int 0) (ty := .int) (C := R_Log) (T := F_Log) (N := 15) hx hb hts i_Log t_Log t_Log_ok n_Log hown hK hP hD hS 0 rfl rfl 13 (by decide) (hts _ wf_Log_89) (fun _ h9 => h9) rfl (by decide +kernel) rfl rfl (Nat.le_of_ble_eq_true rfl) d_Log_forget_58 (fun H locs hP hD hS => ?_)
  replace hP : va_P D classes (wl_Log ca ad (s_greatestMark (s_greatestPart (s_room (s_made (s_kept (s_parts g q1) q3) q5) q7) 0) 0)) H := hP
  replace hD : va_D A (wl_Log ca ad (s_greatestMark (s_greatestPart (s_room (s_made (s_kept (s_parts g q1) q3) q5) q7) 0) 0)) := hD
  cases hm
  exact ret_mv X hP hS d_Log_forget_61
set_option maxHeartbeats 4000000 in
set_option maxRecDepth 100000 in
theorem c_Log_isGoodHead (l : Launch) (D : va_G) (ca : Nat → ClassId) (ad : Nat → Nat) (sz : Nat) (g : St_Log) (p1 : Int32) (res : Int32) (hm : m_Log_isGoodHead g p1 = some res) : Met l y_Log_isGoodHead (cws y_Log_isGoodHead b_Log_isGoodHead 2 (some .boolean)) (RM 4 94) (PreW D ca (wl_Log ca ad g) [.ref (ad 0), .int p1] sz) (QRr (.int res) (va_A [] sz)) 0 0 (va_A [] sz) := by
  refine met_ofR (own := R_Log) (by decide) rfl (Nat.le_of_ble_eq_true rfl) ?_
  intro p e s m below meth c A X hA hP hD ls hl
  obtain ⟨hx, hb, hml, hr, hown, hts, hK, hlocks⟩ := id X
  have hS : va_S A s.heap s.heap [] := va_S.rf
  have hl : lv_has ls 2 [(0, .ref (ad 0)), (1, .int p1)] := hl
  unfold m_Log_isGoodHead at hm
  refine lv_aload_n hx hb d_Log_isGoodHead_0 rfl (lv_at hl 0 rfl) ?_
  refine va_get (D := D) (ci := 5) (v := .ref (ad 1)) (C := R_Log) (T := F_Log) (N := 15) hx hb hts i_Log hown hK hP 0 rfl rfl 0 (by decide) (hts _ wf_Log_14) (fun _ h9 => h9) rfl d_Log_isGoodHead_1 ?_
  refine lv_iload_n hx hb d_Log_isGoodHead_4 rfl (lv_at hl 1 rfl) ?_
  refine lv_iconst (v := 0) hx hb d_Log_isGoodHead_5 (by decide) ?_
  obtain ⟨q1, hq1, hm⟩ := ob hm
  refine inv_rV (C := R_Medium) (As := [.int p1, .int 0]) (rest := []) (v := .int q1) X (c_Medium_at l D ca (ad 1) (ad 2) _ (g_medium g) p1 0 q1 hq1) g_Log_226 yo_Medium_at ⟨Nat.le_of_ble_eq_true rfl, Nat.le_of_ble_eq_true rfl⟩ hl hP hD [1, 2] rfl rfl (ci := 0) rfl rfl hS hA rfl rfl (Nat.le_of_ble_eq_true rfl) ⟨Nat.zero_le _, Nat.zero_le _⟩ d_Log_isGoodHead_6 (fun H locs hP hS => ?_)
  refine lv_iconst (v := 4) hx hb d_Log_isGoodHead_9 (by decide) ?_
  refine lv_icmp_ne (tgt := 44) hx hb d_Log_isGoodHead_10 (by decide) (fun c2 => ?_) (fun c2 => ?_)
  · replace hm := ineg c2 hm
    refine lv_iconst (v := 0) hx hb d_Log_isGoodHead_44 (by decide) ?_
    cases hm
    exact ret_rz X nz0 hS d_Log_isGoodHead_45
  · replace hm := ip c2 hm
    refine lv_aload_n hx hb d_Log_isGoodHead_13 rfl (lv_at hl 0 rfl) ?_
    refine va_get (D := D) (ci := 5) (v := .ref (ad 1)) (C := R_Log) (T := F_Log) (N := 15) hx hb hts i_Log hown hK hP 0 rfl rfl 0 (by decide) (hts _ wf_Log_14) (fun _ h9 => h9) rfl d_Log_isGoodHead_14 ?_
    refine lv_iload_n hx hb d_Log_isGoodHead_17 rfl (lv_at hl 1 rfl) ?_
    obtain ⟨q3, hq3, hm⟩ := ob hm
    refine inv_rV (C := R_Medium) (As := [.int p1]) (rest := []) (v := .int q3) X (c_Medium_isSumRight l D ca (ad 1) (ad 2) _ (g_medium g) p1 q3 hq3) g_Log_346 yo_Medium_isSumRight ⟨Nat.le_of_ble_eq_true rfl, Nat.le_of_ble_eq_true rfl⟩ hl hP hD [1, 2] rfl rfl (ci := 0) rfl rfl hS hA rfl rfl (Nat.le_of_ble_eq_true rfl) ⟨Nat.zero_le _, Nat.zero_le _⟩ d_Log_isGoodHead_18 (fun H locs hP hS => ?_)
    refine lv_if_eq (tgt := 44) hx hb d_Log_isGoodHead_21 (by decide) (fun c4 => ?_) (fun c4 => ?_)
    · replace hm := ip c4 hm
      refine lv_iconst (v := 0) hx hb d_Log_isGoodHead_44 (by decide) ?_
      cases hm
      exact ret_rz X nz0 hS d_Log_isGoodHead_45
    · replace hm := ineg c4 hm
      refine lv_aload_n hx hb d_Log_isGoodHead_24 rfl (lv_at hl 0 rfl) ?_
      refine va_get (D := D) (ci := 5) (v := .ref (ad 1)) (C := R_Log) (T := F_Log) (N := 15) hx hb hts i_Log hown hK hP 0 rfl rfl 0 (by decide) (hts _ wf_Log_14) (fun _ h9 => h9) rfl d_Log_isGoodHead_25 ?_
      refine lv_iload_n hx hb d_Log_isGoodHead_28 rfl (lv_at hl 1 rfl) ?_
      refine lv_iconst (v := 4) hx hb d_Log_isGoodHead_29 (by decide) ?_
      refine lv_iconst (v := 4) hx hb d_Log_isGoodHead_30 (by decide) ?_
      obtain ⟨q5, hq5, hm⟩ := ob hm
      refine inv_rV (C := R_Medium) (As := [.int p1, .int 4, .int 4]) (rest := []) (v := .long q5) X (c_Medium_number l D ca (ad 1) (ad 2) _ (g_medium g) p1 4 4 q5 hq5) g_Log_311 yo_Medium_number ⟨Nat.le_of_ble_eq_true rfl, Nat.le_of_ble_eq_true rfl⟩ hl hP hD [1, 2] rfl rfl (ci := 0) rfl rfl hS hA rfl rfl (Nat.le_of_ble_eq_true rfl) ⟨Nat.zero_le _, Nat.zero_le _⟩ d_Log_isGoodHead_31 (fun H locs hP hS => ?_)
      obtain ⟨q6, hq6, hm⟩ := ob hm
      refine inv_rS (As := [.long q5]) (rest := []) (v := .int q6) X (c_Log_isNumber l D ca  _ q5 q6 hq6) g_Log_349 yo_Log_isNumber ⟨Nat.le_of_ble_eq_true rfl, Nat.le_of_ble_eq_true rfl⟩ hl hP hD [] rfl rfl hS hA rfl rfl (Nat.le_of_ble_eq_true rfl) ⟨Nat.zero_le _, Nat.zero_le _⟩ d_Log_isGoodHead_34 (fun H locs hP hS => ?_)
      refine lv_if_eq (tgt := 44) hx hb d_Log_isGoodHead_37 (by decide) (fun c7 => ?_) (fun c7 => ?_)
      · replace hm := ip c7 hm
        refine lv_iconst (v := 0) hx hb d_Log_isGoodHead_44 (by decide) ?_
        cases hm
        exact ret_rz X nz0 hS d_Log_isGoodHead_45
      · replace hm := ineg c7 hm
        refine lv_iconst (v := 1) hx hb d_Log_isGoodHead_40 (by decide) ?_
        refine lv_goto (tgt := 45) hx hb d_Log_isGoodHead_41 (by decide) ?_
        cases hm
        exact ret_rz X nz1 hS d_Log_isGoodHead_45
set_option maxHeartbeats 4000000 in
set_option maxRecDepth 100000 in
theorem c_Log_headThatCounts (l : Launch) (D : va_G) (ca : Nat → ClassId) (ad : Nat → Nat) (sz : Nat) (g : St_Log)  (res : Int32) (hm : m_Log_headThatCounts g = some res) : Met l y_Log_headThatCounts (cws y_Log_headThatCounts b_Log_headThatCounts 1 (some .int)) (RM 5 115) (PreW D ca (wl_Log ca ad g) [.ref (ad 0)] sz) (QRr (.int res) (va_A [] sz)) 0 0 (va_A [] sz) := by
  refine met_ofR (own := R_Log) (by decide) rfl (Nat.le_of_ble_eq_true rfl) ?_
  intro p e s m below meth c A X hA hP hD ls hl
  obtain ⟨hx, hb, hml, hr, hown, hts, hK, hlocks⟩ := id X
  have hS : va_S A s.heap s.heap [] := va_S.rf
  have hl : lv_has ls 1 [(0, .ref (ad 0))] := hl
  unfold m_Log_headThatCounts at hm
  refine lv_aload_n hx hb d_Log_headThatCounts_0 rfl (lv_at hl 0 rfl) ?_
  refine lv_iconst (v := 0) hx hb d_Log_headThatCounts_1 (by decide) ?_
  obtain ⟨q1, hq1, hm⟩ := ob hm
  refine inv_rVa (C := R_Log) (As := [.int 0]) (rest := []) (v := .int q1) X (c_Log_isGoodHead l D ca ad _ g 0 q1 hq1) g_Log_213 yo_Log_isGoodHead ⟨Nat.le_of_ble_eq_true rfl, Nat.le_of_ble_eq_true rfl⟩ hl hP hD (ci := 5) rfl rfl hS hA rfl rfl (Nat.le_of_ble_eq_true rfl) ⟨Nat.zero_le _, Nat.zero_le _⟩ d_Log_headThatCounts_2 (fun H locs hP hS => ?_)
  refine lv_if_ne (tgt := 22) hx hb d_Log_headThatCounts_5 (by decide) (fun c2 => ?_) (fun c2 => ?_)
  · replace hm := ineg c2 hm
    refine lv_aload_n hx hb d_Log_headThatCounts_22 rfl (lv_at hl 0 rfl) ?_
    refine lv_iconst (v := 1) hx hb d_Log_headThatCounts_23 (by decide) ?_
    obtain ⟨q3, hq3, hm⟩ := ob hm
    refine inv_rVa (C := R_Log) (As := [.int 1]) (rest := []) (v := .int q3) X (c_Log_isGoodHead l D ca ad _ g 1 q3 hq3) g_Log_213 yo_Log_isGoodHead ⟨Nat.le_of_ble_eq_true rfl, Nat.le_of_ble_eq_true rfl⟩ hl hP hD (ci := 5) rfl rfl hS hA rfl rfl (Nat.le_of_ble_eq_true rfl) ⟨Nat.zero_le _, Nat.zero_le _⟩ d_Log_headThatCounts_24 (fun H locs hP hS => ?_)
    refine lv_if_ne (tgt := 32) hx hb d_Log_headThatCounts_27 (by decide) (fun c4 => ?_) (fun c4 => ?_)
    · replace hm := ineg c4 hm
      refine lv_aload_n hx hb d_Log_headThatCounts_32 rfl (lv_at hl 0 rfl) ?_
      refine va_get (D := D) (ci := 5) (v := .ref (ad 1)) (C := R_Log) (T := F_Log) (N := 15) hx hb hts i_Log hown hK hP 0 rfl rfl 0 (by decide) (hts _ wf_Log_14) (fun _ h9 => h9) rfl d_Log_headThatCounts_33 ?_
      refine lv_iconst (v := 1) hx hb d_Log_headThatCounts_36 (by decide) ?_
      refine lv_iconst (v := 4) hx hb d_Log_headThatCounts_37 (by decide) ?_
      refine lv_iconst (v := 4) hx hb d_Log_headThatCounts_38 (by decide) ?_
      obtain ⟨q5, hq5, hm⟩ := ob hm
      refine inv_rV (C := R_Medium) (As := [.int 1, .int 4, .int 4]) (rest := []) (v := .long q5) X (c_Medium_number l D ca (ad 1) (ad 2) _ (g_medium g) 1 4 4 q5 hq5) g_Log_311 yo_Medium_number ⟨Nat.le_of_ble_eq_true rfl, Nat.le_of_ble_eq_true rfl⟩ hl hP hD [1, 2] rfl rfl (ci := 0) rfl rfl hS hA rfl rfl (Nat.le_of_ble_eq_true rfl) ⟨Nat.zero_le _, Nat.zero_le _⟩ d_Log_headThatCounts_39 (fun H locs hP hS => ?_)
      refine lv_aload_n hx hb d_Log_headThatCounts_42 rfl (lv_at hl 0 rfl) ?_
      refine va_get (D := D) (ci := 5) (v := .ref (ad 1)) (C := R_Log) (T := F_Log) (N := 15) hx hb hts i_Log hown hK hP 0 rfl rfl 0 (by decide) (hts _ wf_Log_14) (fun _ h9 => h9) rfl d_Log_headThatCounts_43 ?_
      refine lv_iconst (v := 0) hx hb d_Log_headThatCounts_46 (by decide) ?_
      refine lv_iconst (v := 4) hx hb d_Log_headThatCounts_47 (by decide) ?_
      refine lv_iconst (v := 4) hx hb d_Log_headThatCounts_48 (by decide) ?_
      obtain ⟨q6, hq6, hm⟩ := ob hm
      refine inv_rV (C := R_Medium) (As := [.int 0, .int 4, .int 4]) (rest := [.long q5]) (v := .long q6) X (c_Medium_number l D ca (ad 1) (ad 2) _ (g_medium g) 0 4 4 q6 hq6) g_Log_311 yo_Medium_number ⟨Nat.le_of_ble_eq_true rfl, Nat.le_of_ble_eq_true rfl⟩ hl hP hD [1, 2] rfl rfl (ci := 0) rfl rfl hS hA rfl rfl (Nat.le_of_ble_eq_true rfl) ⟨Nat.zero_le _, Nat.zero_le _⟩ d_Log_headThatCounts_49 (fun H locs hP hS => ?_)
      refine W.lcmp hx hb d_Log_headThatCounts_52 ?_
      refine lv_if_le (tgt := 60) hx hb d_Log_headThatCounts_53 (by decide) (fun c7 => ?_) (fun c7 => ?_)
      · replace hm := ip c7 hm
        refine lv_iconst (v := 0) hx hb d_Log_headThatCounts_60 (by decide) ?_
        cases hm
        exact ret_ri X hS d_Log_headThatCounts_61
      · replace hm := ineg c7 hm
        refine lv_iconst (v := 1) hx hb d_Log_headThatCounts_56 (by decide) ?_
        refine lv_goto (tgt := 61) hx hb d_Log_headThatCounts_57 (by decide) ?_
        cases hm
        exact ret_ri X hS d_Log_headThatCounts_61
    · replace hm := ip c4 hm
      refine lv_iconst (v := 0) hx hb d_Log_headThatCounts_30 (by decide) ?_
      cases hm
      exact ret_ri X hS d_Log_headThatCounts_31
  · replace hm := ip c2 hm
    refine lv_aload_n hx hb d_Log_headThatCounts_8 rfl (lv_at hl 0 rfl) ?_
    refine lv_iconst (v := 1) hx hb d_Log_headThatCounts_9 (by decide) ?_
    obtain ⟨q8, hq8, hm⟩ := ob hm
    refine inv_rVa (C := R_Log) (As := [.int 1]) (rest := []) (v := .int q8) X (c_Log_isGoodHead l D ca ad _ g 1 q8 hq8) g_Log_213 yo_Log_isGoodHead ⟨Nat.le_of_ble_eq_true rfl, Nat.le_of_ble_eq_true rfl⟩ hl hP hD (ci := 5) rfl rfl hS hA rfl rfl (Nat.le_of_ble_eq_true rfl) ⟨Nat.zero_le _, Nat.zero_le _⟩ d_Log_headThatCounts_10 (fun H locs hP hS => ?_)
    refine lv_if_eq (tgt := 20) hx hb d_Log_headThatCounts_13 (by decide) (fun c9 => ?_) (fun c9 => ?_)
    · replace hm := ip c9 hm
      refine lv_iconst (v := (-1)) hx hb d_Log_headThatCounts_20 (by decide) ?_
      cases hm
      exact ret_ri X hS d_Log_headThatCounts_21
    · replace hm := ineg c9 hm
      refine lv_iconst (v := 1) hx hb d_Log_headThatCounts_16 (by decide) ?_
      refine lv_goto (tgt := 21) hx hb d_Log_headThatCounts_17 (by decide) ?_
      cases hm
      exact ret_ri X hS d_Log_headThatCounts_21
set_option maxHeartbeats 4000000 in
set_option maxRecDepth 100000 in
theorem k_m_Log_readHeads_L31 {p : Program} {l : Launch} {e : Env} {s : State} {m : MethodId} {args : Array Value} {below : List Frame} {meth : Method} {c : Code} {D : va_G} {ca : Nat → ClassId} {ad : Nat → Nat} {A : Nat → Prop} (X : Cx p s m args meth c R_Log b_Log_readHeads 3 none D ca) (hA : ∀ q, s.heap.size ≤ q → A q)  : ∀ (n : Nat) (g : St_Log) (v1 : Int32) (v2 : Int32) (res : St_Log), m_Log_readHeads_L31  n g v1 v2 = some res → ∀ (H : Heap) (locs : List Loc), va_P D classes (wl_Log ca ad g) H → va_D A (wl_Log ca ad g) → va_S A s.heap H locs → ∀ ls : Array Slot, lv_has ls 3 [(0, .ref (ad 0)), (1, .int v1), (2, .int v2)] → W p l e (RM 6 135) s m args below meth c H locs 0 0 (MQ below (QRm D none (wl_Log ca ad res) A) args s 0 0 A) (F0 m 31 ls []) := by
  obtain ⟨hx, hb, hml, hr, hown, hts, hK, hlocks⟩ := id X
  intro n
  induction n with
  | zero =>
    intro g v1 v2 res hm
    rw [m_Log_readHeads_L31] at hm
    cases hm
  | succ n ih =>
    intro g v1 v2 res hm H locs hP hD hS ls hl
    rw [m_Log_readHeads_L31] at hm
    refine lv_iload_n hx hb d_Log_readHeads_31 rfl (lv_at hl 2 rfl) ?_
    refine lv_bipush (v := 8) hx hb d_Log_readHeads_32 (by decide) ?_
    refine lv_icmp_ge (tgt := 74) hx hb d_Log_readHeads_34 (by decide) (fun c4 => ?_) (fun c4 => ?_)
    · replace hm := ip c4 hm
      cases hm
      exact ret_mv X hP hS d_Log_readHeads_74
    · replace hm := ineg c4 hm
      refine lv_aload_n hx hb d_Log_readHeads_37 rfl (lv_at hl 0 rfl) ?_
      refine va_get (D := D) (ci := 5) (v := .ref (ad 33)) (C := R_Log) (T := F_Log) (N := 15) hx hb hts i_Log hown hK hP 0 rfl rfl 10 (by decide) (hts _ wf_Log_65) (fun _ h9 => h9) rfl d_Log_readHeads_38 ?_
      refine lv_iload_n hx hb d_Log_readHeads_41 rfl (lv_at hl 2 rfl) ?_
      refine lv_iload_n hx hb d_Log_readHeads_42 rfl (lv_at hl 1 rfl) ?_
      refine lv_iconst (v := (-1)) hx hb d_Log_readHeads_43 (by decide) ?_
      refine lv_icmp_ne (tgt := 51) hx hb d_Log_readHeads_44 (by decide) (fun c5 => ?_) (fun c5 => ?_)
      · replace hm := ineg c5 hm
        refine lv_aload_n hx hb d_Log_readHeads_51 rfl (lv_at hl 0 rfl) ?_
        refine va_get (D := D) (ci := 5) (v := .ref (ad 1)) (C := R_Log) (T := F_Log) (N := 15) hx hb hts i_Log hown hK hP 0 rfl rfl 0 (by decide) (hts _ wf_Log_14) (fun _ h9 => h9) rfl d_Log_readHeads_52 ?_
        refine lv_iload_n hx hb d_Log_readHeads_55 rfl (lv_at hl 1 rfl) ?_
        refine lv_bipush (v := 8) hx hb d_Log_readHeads_56 (by decide) ?_
        refine lv_iconst (v := 2) hx hb d_Log_readHeads_58 (by decide) ?_
        refine lv_iload_n hx hb d_Log_readHeads_59 rfl (lv_at hl 2 rfl) ?_
        refine lv_imul hx hb d_Log_readHeads_60 ?_
        refine lv_iadd hx hb d_Log_readHeads_61 ?_
        refine lv_iconst (v := 2) hx hb d_Log_readHeads_62 (by decide) ?_
        obtain ⟨q6, hq6, hm⟩ := ob hm
        refine inv_rV (C := R_Medium) (As := [.int v1, .int (8 + (2 * v2)), .int 2]) (rest := [.int v2, .ref (ad 33)]) (v := .long q6) X (c_Medium_number l D ca (ad 1) (ad 2) _ (g_medium g) v1 (8 + (2 * v2)) 2 q6 hq6) g_Log_311 yo_Medium_number ⟨Nat.le_of_ble_eq_true rfl, Nat.le_of_ble_eq_true rfl⟩ hl hP hD [1, 2] rfl rfl (ci := 0) rfl rfl hS hA rfl rfl (Nat.le_of_ble_eq_true rfl) ⟨Nat.zero_le _, Nat.zero_le _⟩ d_Log_readHeads_63 (fun H locs hP hS => ?_)
        refine lv_l2i (v := ((q6).toInt32)) hx hb d_Log_readHeads_66 rfl ?_
        obtain ⟨b7, hm⟩ := on hm
        refine va_iast hx hb hK hP hD hS 33 2 rfl rfl b7 d_Log_readHeads_67 (fun H locs hP hD hS => ?_)
        replace hP : va_P D classes (wl_Log ca ad (s_owners g ((g_owners g).1, upd (g_owners g).2 (v2).toNatClampNeg ((q6).toInt32)))) H := hP
        replace hD : va_D A (wl_Log ca ad (s_owners g ((g_owners g).1, upd (g_owners g).2 (v2).toNatClampNeg ((q6).toInt32)))) := hD
        refine lv_iinc (v := (v2 + 1)) (lv' := [(2, .int (v2 + 1)), (0, .ref (ad 0)), (1, .int v1)]) hx hb d_Log_readHeads_68 hl (k := 2) rfl rfl (by decide) rfl (fun ls hl => ?_)
        refine lv_goto (tgt := 31) hx hb d_Log_readHeads_71 (by decide) ?_
        exact ih (s_owners g ((g_owners g).1, upd (g_owners g).2 (v2).toNatClampNeg ((q6).toInt32))) v1 (v2 + 1) _ hm _ _ hP hD hS ls (lv_sub hl [1, 2, 0] rfl)
      · replace hm := ip c5 hm
        refine lv_iconst (v := 0) hx hb d_Log_readHeads_47 (by decide) ?_
        refine lv_goto (tgt := 67) hx hb d_Log_readHeads_48 (by decide) ?_
        obtain ⟨b8, hm⟩ := on hm
        refine va_iast hx hb hK hP hD hS 33 2 rfl rfl b8 d_Log_readHeads_67 (fun H locs hP hD hS => ?_)
        replace hP : va_P D classes (wl_Log ca ad (s_owners g ((g_owners g).1, upd (g_owners g).2 (v2).toNatClampNeg 0))) H := hP
        replace hD : va_D A (wl_Log ca ad (s_owners g ((g_owners g).1, upd (g_owners g).2 (v2).toNatClampNeg 0))) := hD
        refine lv_iinc (v := (v2 + 1)) (lv' := [(2, .int (v2 + 1)), (0, .ref (ad 0)), (1, .int v1)]) hx hb d_Log_readHeads_68 hl (k := 2) rfl rfl (by decide) rfl (fun ls hl => ?_)
        refine lv_goto (tgt := 31) hx hb d_Log_readHeads_71 (by decide) ?_
        exact ih (s_owners g ((g_owners g).1, upd (g_owners g).2 (v2).toNatClampNeg 0)) v1 (v2 + 1) _ hm _ _ hP hD hS ls (lv_sub hl [1, 2, 0] rfl)
set_option maxHeartbeats 4000000 in
set_option maxRecDepth 100000 in
theorem c_Log_readHeads (l : Launch) (D : va_G) (ca : Nat → ClassId) (ad : Nat → Nat) (sz : Nat) (g : St_Log)  (res : St_Log) (hm : m_Log_readHeads g = some res) : Met l y_Log_readHeads (cws y_Log_readHeads b_Log_readHeads 3 none) (RM 6 135) (PreW D ca (wl_Log ca ad g) [.ref (ad 0)] sz) (QRm D none (wl_Log ca ad res) (va_A (wl_Log ca ad g) sz)) 0 0 (va_A (wl_Log ca ad g) sz) := by
  refine met_ofM (own := R_Log) (by decide) rfl (Nat.le_of_ble_eq_true rfl) ?_
  intro p e s m below meth c A X hA hP hD ls hl
  obtain ⟨hx, hb, hml, hr, hown, hts, hK, hlocks⟩ := id X
  have hS : va_S A s.heap s.heap [] := va_S.rf
  have hl : lv_has ls 3 [(0, .ref (ad 0))] := hl
  unfold m_Log_readHeads at hm
  refine lv_aload_n hx hb d_Log_readHeads_0 rfl (lv_at hl 0 rfl) ?_
  obtain ⟨q1, hq1, hm⟩ := ob hm
  refine inv_rVa (C := R_Log) (As := []) (rest := []) (v := .int q1) X (c_Log_headThatCounts l D ca ad _ g q1 hq1) g_Log_343 yo_Log_headThatCounts ⟨Nat.le_of_ble_eq_true rfl, Nat.le_of_ble_eq_true rfl⟩ hl hP hD (ci := 5) rfl rfl hS hA rfl rfl (Nat.le_of_ble_eq_true rfl) ⟨Nat.zero_le _, Nat.zero_le _⟩ d_Log_readHeads_1 (fun H locs hP hS => ?_)
  refine lv_istore_n (lv' := [(1, .int q1), (0, .ref (ad 0))]) hx hb d_Log_readHeads_4 rfl hl (by decide) rfl (fun ls hl => ?_)
  refine lv_aload_n hx hb d_Log_readHeads_5 rfl (lv_at hl 1 rfl) ?_
  refine lv_iload_n hx hb d_Log_readHeads_6 rfl (lv_at hl 0 rfl) ?_
  refine lv_iconst (v := (-1)) hx hb d_Log_readHeads_7 (by decide) ?_
  refine lv_icmp_ne (tgt := 15) hx hb d_Log_readHeads_8 (by decide) (fun c2 => ?_) (fun c2 => ?_)
  · replace hm := ineg c2 hm
    refine lv_aload_n hx hb d_Log_readHeads_15 rfl (lv_at hl 1 rfl) ?_
    refine va_get (D := D) (ci := 5) (v := .ref (ad 1)) (C := R_Log) (T := F_Log) (N := 15) hx hb hts i_Log hown hK hP 0 rfl rfl 0 (by decide) (hts _ wf_Log_14) (fun _ h9 => h9) rfl d_Log_readHeads_16 ?_
    refine lv_iload_n hx hb d_Log_readHeads_19 rfl (lv_at hl 0 rfl) ?_
    refine lv_iconst (v := 4) hx hb d_Log_readHeads_20 (by decide) ?_
    refine lv_iconst (v := 4) hx hb d_Log_readHeads_21 (by decide) ?_
    obtain ⟨q3, hq3, hm⟩ := ob hm
    refine inv_rV (C := R_Medium) (As := [.int q1, .int 4, .int 4]) (rest := [.ref (ad 0)]) (v := .long q3) X (c_Medium_number l D ca (ad 1) (ad 2) _ (g_medium g) q1 4 4 q3 hq3) g_Log_311 yo_Medium_number ⟨Nat.le_of_ble_eq_true rfl, Nat.le_of_ble_eq_true rfl⟩ hl hP hD [1, 2] rfl rfl (ci := 0) rfl rfl hS hA rfl rfl (Nat.le_of_ble_eq_true rfl) ⟨Nat.zero_le _, Nat.zero_le _⟩ d_Log_readHeads_22 (fun H locs hP hS => ?_)
    refine lv_l2i (v := ((q3).toInt32)) hx hb d_Log_readHeads_25 rfl ?_
    refine va_put (D := D) (ci := 5) (v := .int ((q3).toInt32)) (ty := .int) (C := R_Log) (T := F_Log) (N := 15) hx hb hts i_Log t_Log t_Log_ok n_Log hown hK hP hD hS 0 rfl rfl 11 (by decide) (hts _ wf_Log_137) (fun _ h9 => h9) rfl (by decide +kernel) rfl rfl (Nat.le_of_ble_eq_true rfl) d_Log_readHeads_26 (fun H locs hP hD hS => ?_)
    replace hP : va_P D classes (wl_Log ca ad (s_serial g ((q3).toInt32))) H := hP
    replace hD : va_D A (wl_Log ca ad (s_serial g ((q3).toInt32))) := hD
    refine lv_iconst (v := 0) hx hb d_Log_readHeads_29 (by decide) ?_
    refine lv_istore_n (lv' := [(2, .int 0), (1, .int q1), (0, .ref (ad 0))]) hx hb d_Log_readHeads_30 rfl hl (by decide) rfl (fun ls hl => ?_)
    exact k_m_Log_readHeads_L31 X hA FU (s_serial g ((q3).toInt32)) q1 0 _ hm _ _ hP hD hS ls (lv_sub hl [2, 1, 0] rfl)
  · replace hm := ip c2 hm
    refine lv_iconst (v := 0) hx hb d_Log_readHeads_11 (by decide) ?_
    refine lv_goto (tgt := 26) hx hb d_Log_readHeads_12 (by decide) ?_
    refine va_put (D := D) (ci := 5) (v := .int 0) (ty := .int) (C := R_Log) (T := F_Log) (N := 15) hx hb hts i_Log t_Log t_Log_ok n_Log hown hK hP hD hS 0 rfl rfl 11 (by decide) (hts _ wf_Log_137) (fun _ h9 => h9) rfl (by decide +kernel) rfl rfl (Nat.le_of_ble_eq_true rfl) d_Log_readHeads_26 (fun H locs hP hD hS => ?_)
    replace hP : va_P D classes (wl_Log ca ad (s_serial g 0)) H := hP
    replace hD : va_D A (wl_Log ca ad (s_serial g 0)) := hD
    refine lv_iconst (v := 0) hx hb d_Log_readHeads_29 (by decide) ?_
    refine lv_istore_n (lv' := [(2, .int 0), (1, .int q1), (0, .ref (ad 0))]) hx hb d_Log_readHeads_30 rfl hl (by decide) rfl (fun ls hl => ?_)
    exact k_m_Log_readHeads_L31 X hA FU (s_serial g 0) q1 0 _ hm _ _ hP hD hS ls (lv_sub hl [2, 1, 0] rfl)
set_option maxHeartbeats 4000000 in
set_option maxRecDepth 100000 in
theorem c_Log_isPartThere (l : Launch) (D : va_G) (ca : Nat → ClassId) (ad : Nat → Nat) (sz : Nat) (g : St_Log) (p1 : Int32) (res : Int32) (hm : m_Log_isPartThere g p1 = some res) : Met l y_Log_isPartThere (cws y_Log_isPartThere b_Log_isPartThere 3 (some .boolean)) (RM 4 94) (PreW D ca (wl_Log ca ad g) [.ref (ad 0), .int p1] sz) (QRr (.int res) (va_A [] sz)) 0 0 (va_A [] sz) := by
  refine met_ofR (own := R_Log) (by decide) rfl (Nat.le_of_ble_eq_true rfl) ?_
  intro p e s m below meth c A X hA hP hD ls hl
  obtain ⟨hx, hb, hml, hr, hown, hts, hK, hlocks⟩ := id X
  have hS : va_S A s.heap s.heap [] := va_S.rf
  have hl : lv_has ls 3 [(0, .ref (ad 0)), (1, .int p1)] := hl
  unfold m_Log_isPartThere at hm
  refine lv_aload_n hx hb d_Log_isPartThere_0 rfl (lv_at hl 0 rfl) ?_
  refine va_get (D := D) (ci := 5) (v := .ref (ad 1)) (C := R_Log) (T := F_Log) (N := 15) hx hb hts i_Log hown hK hP 0 rfl rfl 0 (by decide) (hts _ wf_Log_14) (fun _ h9 => h9) rfl d_Log_isPartThere_1 ?_
  refine lv_iload_n hx hb d_Log_isPartThere_4 rfl (lv_at hl 1 rfl) ?_
  refine lv_iconst (v := 0) hx hb d_Log_isPartThere_5 (by decide) ?_
  obtain ⟨q1, hq1, hm⟩ := ob hm
  refine inv_rV (C := R_Medium) (As := [.int p1, .int 0]) (rest := []) (v := .int q1) X (c_Medium_at l D ca (ad 1) (ad 2) _ (g_medium g) p1 0 q1 hq1) g_Log_226 yo_Medium_at ⟨Nat.le_of_ble_eq_true rfl, Nat.le_of_ble_eq_true rfl⟩ hl hP hD [1, 2] rfl rfl (ci := 0) rfl rfl hS hA rfl rfl (Nat.le_of_ble_eq_true rfl) ⟨Nat.zero_le _, Nat.zero_le _⟩ d_Log_isPartThere_6 (fun H locs hP hS => ?_)
  refine lv_iconst (v := 1) hx hb d_Log_isPartThere_9 (by decide) ?_
  refine lv_icmp_ne (tgt := 24) hx hb d_Log_isPartThere_10 (by decide) (fun c2 => ?_) (fun c2 => ?_)
  · replace hm := ineg c2 hm
    refine lv_iconst (v := 0) hx hb d_Log_isPartThere_24 (by decide) ?_
    cases hm
    exact ret_rz X nz0 hS d_Log_isPartThere_25
  · replace hm := ip c2 hm
    refine lv_aload_n hx hb d_Log_isPartThere_13 rfl (lv_at hl 0 rfl) ?_
    refine va_get (D := D) (ci := 5) (v := .ref (ad 1)) (C := R_Log) (T := F_Log) (N := 15) hx hb hts i_Log hown hK hP 0 rfl rfl 0 (by decide) (hts _ wf_Log_14) (fun _ h9 => h9) rfl d_Log_isPartThere_14 ?_
    refine lv_iload_n hx hb d_Log_isPartThere_17 rfl (lv_at hl 1 rfl) ?_
    obtain ⟨q3, hq3, hm⟩ := ob hm
    refine inv_rV (C := R_Medium) (As := [.int p1]) (rest := []) (v := .int q3) X (c_Medium_isSumRight l D ca (ad 1) (ad 2) _ (g_medium g) p1 q3 hq3) g_Log_346 yo_Medium_isSumRight ⟨Nat.le_of_ble_eq_true rfl, Nat.le_of_ble_eq_true rfl⟩ hl hP hD [1, 2] rfl rfl (ci := 0) rfl rfl hS hA rfl rfl (Nat.le_of_ble_eq_true rfl) ⟨Nat.zero_le _, Nat.zero_le _⟩ d_Log_isPartThere_18 (fun H locs hP hS => ?_)
    refine lv_if_ne (tgt := 26) hx hb d_Log_isPartThere_21 (by decide) (fun c4 => ?_) (fun c4 => ?_)
    · replace hm := ineg c4 hm
      refine lv_aload_n hx hb d_Log_isPartThere_26 rfl (lv_at hl 0 rfl) ?_
      refine va_get (D := D) (ci := 5) (v := .ref (ad 1)) (C := R_Log) (T := F_Log) (N := 15) hx hb hts i_Log hown hK hP 0 rfl rfl 0 (by decide) (hts _ wf_Log_14) (fun _ h9 => h9) rfl d_Log_isPartThere_27 ?_
      refine lv_iload_n hx hb d_Log_isPartThere_30 rfl (lv_at hl 1 rfl) ?_
      refine lv_iconst (v := 2) hx hb d_Log_isPartThere_31 (by decide) ?_
      refine lv_iconst (v := 2) hx hb d_Log_isPartThere_32 (by decide) ?_
      obtain ⟨q5, hq5, hm⟩ := ob hm
      refine inv_rV (C := R_Medium) (As := [.int p1, .int 2, .int 2]) (rest := []) (v := .long q5) X (c_Medium_number l D ca (ad 1) (ad 2) _ (g_medium g) p1 2 2 q5 hq5) g_Log_311 yo_Medium_number ⟨Nat.le_of_ble_eq_true rfl, Nat.le_of_ble_eq_true rfl⟩ hl hP hD [1, 2] rfl rfl (ci := 0) rfl rfl hS hA rfl rfl (Nat.le_of_ble_eq_true rfl) ⟨Nat.zero_le _, Nat.zero_le _⟩ d_Log_isPartThere_33 (fun H locs hP hS => ?_)
      refine lv_l2i (v := ((q5).toInt32)) hx hb d_Log_isPartThere_36 rfl ?_
      refine lv_istore_n (lv' := [(2, .int ((q5).toInt32)), (0, .ref (ad 0)), (1, .int p1)]) hx hb d_Log_isPartThere_37 rfl hl (by decide) rfl (fun ls hl => ?_)
      refine lv_aload_n hx hb d_Log_isPartThere_38 rfl (lv_at hl 1 rfl) ?_
      refine va_get (D := D) (ci := 5) (v := .ref (ad 1)) (C := R_Log) (T := F_Log) (N := 15) hx hb hts i_Log hown hK hP 0 rfl rfl 0 (by decide) (hts _ wf_Log_14) (fun _ h9 => h9) rfl d_Log_isPartThere_39 ?_
      refine lv_iload_n hx hb d_Log_isPartThere_42 rfl (lv_at hl 2 rfl) ?_
      refine lv_iconst (v := 1) hx hb d_Log_isPartThere_43 (by decide) ?_
      obtain ⟨q6, hq6, hm⟩ := ob hm
      refine inv_rV (C := R_Medium) (As := [.int p1, .int 1]) (rest := []) (v := .int q6) X (c_Medium_at l D ca (ad 1) (ad 2) _ (g_medium g) p1 1 q6 hq6) g_Log_226 yo_Medium_at ⟨Nat.le_of_ble_eq_true rfl, Nat.le_of_ble_eq_true rfl⟩ hl hP hD [1, 2] rfl rfl (ci := 0) rfl rfl hS hA rfl rfl (Nat.le_of_ble_eq_true rfl) ⟨Nat.zero_le _, Nat.zero_le _⟩ d_Log_isPartThere_44 (fun H locs hP hS => ?_)
      obtain ⟨q7, hq7, hm⟩ := ob hm
      refine inv_rS (As := [.int q6]) (rest := []) (v := .int q7) X (c_Log_isGroup l D ca  _ q6 q7 hq7) g_Log_132 yo_Log_isGroup ⟨Nat.le_of_ble_eq_true rfl, Nat.le_of_ble_eq_true rfl⟩ hl hP hD [] rfl rfl hS hA rfl rfl (Nat.le_of_ble_eq_true rfl) ⟨Nat.zero_le _, Nat.zero_le _⟩ d_Log_isPartThere_47 (fun H locs hP hS => ?_)
      refine lv_if_eq (tgt := 96) hx hb d_Log_isPartThere_50 (by decide) (fun c8 => ?_) (fun c8 => ?_)
      · replace hm := ip c8 hm
        refine lv_iconst (v := 0) hx hb d_Log_isPartThere_96 (by decide) ?_
        cases hm
        exact ret_rz X nz0 hS d_Log_isPartThere_97
      · replace hm := ineg c8 hm
        refine lv_iload_n hx hb d_Log_isPartThere_53 rfl (lv_at hl 0 rfl) ?_
        refine lv_sipush (v := 155) hx hb d_Log_isPartThere_54 (by decide) ?_
        refine lv_icmp_gt (tgt := 96) hx hb d_Log_isPartThere_57 (by decide) (fun c9 => ?_) (fun c9 => ?_)
        · replace hm := ip c9 hm
          refine lv_iconst (v := 0) hx hb d_Log_isPartThere_96 (by decide) ?_
          cases hm
          exact ret_rz X nz0 hS d_Log_isPartThere_97
        · replace hm := ineg c9 hm
          refine lv_aload_n hx hb d_Log_isPartThere_60 rfl (lv_at hl 1 rfl) ?_
          refine va_get (D := D) (ci := 5) (v := .ref (ad 1)) (C := R_Log) (T := F_Log) (N := 15) hx hb hts i_Log hown hK hP 0 rfl rfl 0 (by decide) (hts _ wf_Log_14) (fun _ h9 => h9) rfl d_Log_isPartThere_61 ?_
          refine lv_iload_n hx hb d_Log_isPartThere_64 rfl (lv_at hl 2 rfl) ?_
          refine lv_iconst (v := 4) hx hb d_Log_isPartThere_65 (by decide) ?_
          refine lv_iconst (v := 4) hx hb d_Log_isPartThere_66 (by decide) ?_
          obtain ⟨q10, hq10, hm⟩ := ob hm
          refine inv_rV (C := R_Medium) (As := [.int p1, .int 4, .int 4]) (rest := []) (v := .long q10) X (c_Medium_number l D ca (ad 1) (ad 2) _ (g_medium g) p1 4 4 q10 hq10) g_Log_311 yo_Medium_number ⟨Nat.le_of_ble_eq_true rfl, Nat.le_of_ble_eq_true rfl⟩ hl hP hD [1, 2] rfl rfl (ci := 0) rfl rfl hS hA rfl rfl (Nat.le_of_ble_eq_true rfl) ⟨Nat.zero_le _, Nat.zero_le _⟩ d_Log_isPartThere_67 (fun H locs hP hS => ?_)
          obtain ⟨q11, hq11, hm⟩ := ob hm
          refine inv_rS (As := [.long q10]) (rest := []) (v := .int q11) X (c_Log_isNumber l D ca  _ q10 q11 hq11) g_Log_349 yo_Log_isNumber ⟨Nat.le_of_ble_eq_true rfl, Nat.le_of_ble_eq_true rfl⟩ hl hP hD [] rfl rfl hS hA rfl rfl (Nat.le_of_ble_eq_true rfl) ⟨Nat.zero_le _, Nat.zero_le _⟩ d_Log_isPartThere_70 (fun H locs hP hS => ?_)
          refine lv_if_eq (tgt := 96) hx hb d_Log_isPartThere_73 (by decide) (fun c12 => ?_) (fun c12 => ?_)
          · replace hm := ip c12 hm
            refine lv_iconst (v := 0) hx hb d_Log_isPartThere_96 (by decide) ?_
            cases hm
            exact ret_rz X nz0 hS d_Log_isPartThere_97
          · replace hm := ineg c12 hm
            refine lv_iload_n hx hb d_Log_isPartThere_76 rfl (lv_at hl 2 rfl) ?_
            refine lv_iload_n hx hb d_Log_isPartThere_77 rfl (lv_at hl 0 rfl) ?_
            obtain ⟨q13, hq13, hm⟩ := ob hm
            refine inv_rS (As := [.int ((q5).toInt32)]) (rest := [.int p1]) (v := .int q13) X (c_Log_rowsOfPart l D ca  _ ((q5).toInt32) q13 hq13) g_Log_270 yo_Log_rowsOfPart ⟨Nat.le_of_ble_eq_true rfl, Nat.le_of_ble_eq_true rfl⟩ hl hP hD [] rfl rfl hS hA rfl rfl (Nat.le_of_ble_eq_true rfl) ⟨Nat.zero_le _, Nat.zero_le _⟩ d_Log_isPartThere_78 (fun H locs hP hS => ?_)
            refine lv_iadd hx hb d_Log_isPartThere_81 ?_
            refine lv_aload_n hx hb d_Log_isPartThere_82 rfl (lv_at hl 1 rfl) ?_
            refine va_get (D := D) (ci := 5) (v := .ref (ad 1)) (C := R_Log) (T := F_Log) (N := 15) hx hb hts i_Log hown hK hP 0 rfl rfl 0 (by decide) (hts _ wf_Log_14) (fun _ h9 => h9) rfl d_Log_isPartThere_83 ?_
            obtain ⟨q14, hq14, hm⟩ := ob hm
            refine inv_rV (C := R_Medium) (As := []) (rest := [.int (p1 + q13)]) (v := .int q14) X (c_Medium_rows l D ca (ad 1) (ad 2) _ (g_medium g) q14 hq14) g_Log_36 yo_Medium_rows ⟨Nat.le_of_ble_eq_true rfl, Nat.le_of_ble_eq_true rfl⟩ hl hP hD [1, 2] rfl rfl (ci := 0) rfl rfl hS hA rfl rfl (Nat.le_of_ble_eq_true rfl) ⟨Nat.zero_le _, Nat.zero_le _⟩ d_Log_isPartThere_86 (fun H locs hP hS => ?_)
            refine lv_icmp_gt (tgt := 96) hx hb d_Log_isPartThere_89 (by decide) (fun c15 => ?_) (fun c15 => ?_)
            · replace hm := ip c15 hm
              refine lv_iconst (v := 0) hx hb d_Log_isPartThere_96 (by decide) ?_
              cases hm
              exact ret_rz X nz0 hS d_Log_isPartThere_97
            · replace hm := ineg c15 hm
              refine lv_iconst (v := 1) hx hb d_Log_isPartThere_92 (by decide) ?_
              refine lv_goto (tgt := 97) hx hb d_Log_isPartThere_93 (by decide) ?_
              cases hm
              exact ret_rz X nz1 hS d_Log_isPartThere_97
    · replace hm := ip c4 hm
      refine lv_iconst (v := 0) hx hb d_Log_isPartThere_24 (by decide) ?_
      cases hm
      exact ret_rz X nz0 hS d_Log_isPartThere_25
set_option maxHeartbeats 4000000 in
set_option maxRecDepth 100000 in
theorem k_m_Log_areEntriesRising_L5 {p : Program} {l : Launch} {e : Env} {s : State} {m : MethodId} {args : Array Value} {below : List Frame} {meth : Method} {c : Code} {D : va_G} {ca : Nat → ClassId} {ad : Nat → Nat} {A : Nat → Prop} (X : Cx p s m args meth c R_Log b_Log_areEntriesRising 8 (some .boolean) D ca) (hA : ∀ q, s.heap.size ≤ q → A q) {g : St_Log} : ∀ (n : Nat) (v1 : Int32) (v2 : Int32) (v3 : Int64) (v5 : Int32) (res : Int32), m_Log_areEntriesRising_L5 g n v1 v2 v3 v5 = some res → ∀ (H : Heap) (locs : List Loc), va_P D classes (wl_Log ca ad g) H → va_D (fun _ => True) (wl_Log ca ad g) → va_S A s.heap H locs → ∀ ls : Array Slot, lv_has ls 8 [(0, .ref (ad 0)), (1, .int v1), (2, .int v2), (3, .long v3), (5, .int v5)] → W p l e (RM 3 70) s m args below meth c H locs 0 0 (MQ below (QRr (.int res) A) args s 0 0 A) (F0 m 5 ls []) := by
  obtain ⟨hx, hb, hml, hr, hown, hts, hK, hlocks⟩ := id X
  intro n
  induction n with
  | zero =>
    intro v1 v2 v3 v5 res hm
    rw [m_Log_areEntriesRising_L5] at hm
    cases hm
  | succ n ih =>
    intro v1 v2 v3 v5 res hm H locs hP hD hS ls hl
    rw [m_Log_areEntriesRising_L5] at hm
    refine lv_iload hx hb d_Log_areEntriesRising_5 (lv_at hl 4 rfl) ?_
    refine lv_iload_n hx hb d_Log_areEntriesRising_7 rfl (lv_at hl 2 rfl) ?_
    refine lv_icmp_ge (tgt := 58) hx hb d_Log_areEntriesRising_8 (by decide) (fun c1 => ?_) (fun c1 => ?_)
    · replace hm := ip c1 hm
      refine lv_iconst (v := 1) hx hb d_Log_areEntriesRising_58 (by decide) ?_
      cases hm
      exact ret_rz X nz1 hS d_Log_areEntriesRising_59
    · replace hm := ineg c1 hm
      refine lv_aload_n hx hb d_Log_areEntriesRising_11 rfl (lv_at hl 0 rfl) ?_
      refine va_get (D := D) (ci := 5) (v := .ref (ad 1)) (C := R_Log) (T := F_Log) (N := 15) hx hb hts i_Log hown hK hP 0 rfl rfl 0 (by decide) (hts _ wf_Log_14) (fun _ h9 => h9) rfl d_Log_areEntriesRising_12 ?_
      refine lv_iload_n hx hb d_Log_areEntriesRising_15 rfl (lv_at hl 1 rfl) ?_
      refine lv_iload hx hb d_Log_areEntriesRising_16 (lv_at hl 4 rfl) ?_
      obtain ⟨q2, hq2, hm⟩ := ob hm
      refine inv_rS (As := [.int v1, .int v5]) (rest := [.ref (ad 1)]) (v := .int q2) X (c_Log_entryRow l D ca  _ v1 v5 q2 hq2) g_Log_303 yo_Log_entryRow ⟨Nat.le_of_ble_eq_true rfl, Nat.le_of_ble_eq_true rfl⟩ hl hP hD [] rfl rfl hS hA rfl rfl (Nat.le_of_ble_eq_true rfl) ⟨Nat.zero_le _, Nat.zero_le _⟩ d_Log_areEntriesRising_18 (fun H locs hP hS => ?_)
      refine lv_iload hx hb d_Log_areEntriesRising_21 (lv_at hl 4 rfl) ?_
      obtain ⟨q3, hq3, hm⟩ := ob hm
      refine inv_rS (As := [.int v5]) (rest := [.int q2, .ref (ad 1)]) (v := .int q3) X (c_Log_entryByte l D ca  _ v5 q3 hq3) g_Log_308 yo_Log_entryByte ⟨Nat.le_of_ble_eq_true rfl, Nat.le_of_ble_eq_true rfl⟩ hl hP hD [] rfl rfl hS hA rfl rfl (Nat.le_of_ble_eq_true rfl) ⟨Nat.zero_le _, Nat.zero_le _⟩ d_Log_areEntriesRising_23 (fun H locs hP hS => ?_)
      refine lv_iconst (v := 4) hx hb d_Log_areEntriesRising_26 (by decide) ?_
      obtain ⟨q4, hq4, hm⟩ := ob hm
      refine inv_rV (C := R_Medium) (As := [.int q2, .int q3, .int 4]) (rest := []) (v := .long q4) X (c_Medium_number l D ca (ad 1) (ad 2) _ (g_medium g) q2 q3 4 q4 hq4) g_Log_311 yo_Medium_number ⟨Nat.le_of_ble_eq_true rfl, Nat.le_of_ble_eq_true rfl⟩ hl hP hD [1, 2] rfl rfl (ci := 0) rfl rfl hS hA rfl rfl (Nat.le_of_ble_eq_true rfl) ⟨Nat.zero_le _, Nat.zero_le _⟩ d_Log_areEntriesRising_27 (fun H locs hP hS => ?_)
      refine lv_lstore (lv' := [(6, .long q4), (0, .ref (ad 0)), (1, .int v1), (2, .int v2), (3, .long v3), (5, .int v5)]) hx hb d_Log_areEntriesRising_30 hl (by decide) rfl (fun ls hl => ?_)
      refine lv_lload hx hb d_Log_areEntriesRising_32 (lv_at hl 0 rfl) ?_
      refine lv_lload_n hx hb d_Log_areEntriesRising_34 rfl (lv_at hl 4 rfl) ?_
      refine W.lcmp hx hb d_Log_areEntriesRising_35 ?_
      refine lv_if_le (tgt := 47) hx hb d_Log_areEntriesRising_36 (by decide) (fun c5 => ?_) (fun c5 => ?_)
      · replace hm := ip c5 hm
        refine lv_iconst (v := 0) hx hb d_Log_areEntriesRising_47 (by decide) ?_
        cases hm
        exact ret_rz X nz0 hS d_Log_areEntriesRising_48
      · replace hm := ineg c5 hm
        refine lv_lload hx hb d_Log_areEntriesRising_39 (lv_at hl 0 rfl) ?_
        obtain ⟨q6, hq6, hm⟩ := ob hm
        refine inv_rS (As := [.long q4]) (rest := []) (v := .int q6) X (c_Log_isNumber l D ca  _ q4 q6 hq6) g_Log_349 yo_Log_isNumber ⟨Nat.le_of_ble_eq_true rfl, Nat.le_of_ble_eq_true rfl⟩ hl hP hD [] rfl rfl hS hA rfl rfl (Nat.le_of_ble_eq_true rfl) ⟨Nat.zero_le _, Nat.zero_le _⟩ d_Log_areEntriesRising_41 (fun H locs hP hS => ?_)
        refine lv_if_ne (tgt := 49) hx hb d_Log_areEntriesRising_44 (by decide) (fun c7 => ?_) (fun c7 => ?_)
        · replace hm := ineg c7 hm
          refine lv_lload hx hb d_Log_areEntriesRising_49 (lv_at hl 0 rfl) ?_
          refine lv_lstore_n (lv' := [(3, .long q4), (6, .long q4), (0, .ref (ad 0)), (1, .int v1), (2, .int v2), (5, .int v5)]) hx hb d_Log_areEntriesRising_51 rfl hl (by decide) rfl (fun ls hl => ?_)
          refine lv_iinc (v := (v5 + 1)) (lv' := [(5, .int (v5 + 1)), (3, .long q4), (6, .long q4), (0, .ref (ad 0)), (1, .int v1), (2, .int v2)]) hx hb d_Log_areEntriesRising_52 hl (k := 5) rfl rfl (by decide) rfl (fun ls hl => ?_)
          refine lv_goto (tgt := 5) hx hb d_Log_areEntriesRising_55 (by decide) ?_
          exact ih  v1 v2 q4 (v5 + 1) _ hm _ _ hP hD hS ls (lv_sub hl [3, 4, 5, 1, 0] rfl)
        · replace hm := ip c7 hm
          refine lv_iconst (v := 0) hx hb d_Log_areEntriesRising_47 (by decide) ?_
          cases hm
          exact ret_rz X nz0 hS d_Log_areEntriesRising_48
set_option maxHeartbeats 4000000 in
set_option maxRecDepth 100000 in
theorem c_Log_areEntriesRising (l : Launch) (D : va_G) (ca : Nat → ClassId) (ad : Nat → Nat) (sz : Nat) (g : St_Log) (p1 : Int32) (p2 : Int32) (res : Int32) (hm : m_Log_areEntriesRising g p1 p2 = some res) : Met l y_Log_areEntriesRising (cws y_Log_areEntriesRising b_Log_areEntriesRising 8 (some .boolean)) (RM 3 70) (PreW D ca (wl_Log ca ad g) [.ref (ad 0), .int p1, .int p2] sz) (QRr (.int res) (va_A [] sz)) 0 0 (va_A [] sz) := by
  refine met_ofR (own := R_Log) (by decide) rfl (Nat.le_of_ble_eq_true rfl) ?_
  intro p e s m below meth c A X hA hP hD ls hl
  obtain ⟨hx, hb, hml, hr, hown, hts, hK, hlocks⟩ := id X
  have hS : va_S A s.heap s.heap [] := va_S.rf
  have hl : lv_has ls 8 [(0, .ref (ad 0)), (1, .int p1), (2, .int p2)] := hl
  unfold m_Log_areEntriesRising at hm
  refine lv_lconst (v := 0) hx hb d_Log_areEntriesRising_0 (by decide) ?_
  refine lv_lstore_n (lv' := [(3, .long 0), (0, .ref (ad 0)), (1, .int p1), (2, .int p2)]) hx hb d_Log_areEntriesRising_1 rfl hl (by decide) rfl (fun ls hl => ?_)
  refine lv_iconst (v := 0) hx hb d_Log_areEntriesRising_2 (by decide) ?_
  refine lv_istore (lv' := [(5, .int 0), (3, .long 0), (0, .ref (ad 0)), (1, .int p1), (2, .int p2)]) hx hb d_Log_areEntriesRising_3 hl (by decide) rfl (fun ls hl => ?_)
  exact k_m_Log_areEntriesRising_L5 X hA FU  p1 p2 0 0 _ hm _ _ hP hD hS ls (lv_sub hl [2, 3, 4, 1, 0] rfl)
set_option maxHeartbeats 4000000 in
set_option maxRecDepth 100000 in
theorem c_Log_isMarkThere (l : Launch) (D : va_G) (ca : Nat → ClassId) (ad : Nat → Nat) (sz : Nat) (g : St_Log) (p1 : Int32) (res : Int32) (hm : m_Log_isMarkThere g p1 = some res) : Met l y_Log_isMarkThere (cws y_Log_isMarkThere b_Log_isMarkThere 3 (some .boolean)) (RM 4 97) (PreW D ca (wl_Log ca ad g) [.ref (ad 0), .int p1] sz) (QRr (.int res) (va_A [] sz)) 0 0 (va_A [] sz) := by
  refine met_ofR (own := R_Log) (by decide) rfl (Nat.le_of_ble_eq_true rfl) ?_
  intro p e s m below meth c A X hA hP hD ls hl
  obtain ⟨hx, hb, hml, hr, hown, hts, hK, hlocks⟩ := id X
  have hS : va_S A s.heap s.heap [] := va_S.rf
  have hl : lv_has ls 3 [(0, .ref (ad 0)), (1, .int p1)] := hl
  unfold m_Log_isMarkThere at hm
  refine lv_aload_n hx hb d_Log_isMarkThere_0 rfl (lv_at hl 0 rfl) ?_
  refine va_get (D := D) (ci := 5) (v := .ref (ad 1)) (C := R_Log) (T := F_Log) (N := 15) hx hb hts i_Log hown hK hP 0 rfl rfl 0 (by decide) (hts _ wf_Log_14) (fun _ h9 => h9) rfl d_Log_isMarkThere_1 ?_
  refine lv_iload_n hx hb d_Log_isMarkThere_4 rfl (lv_at hl 1 rfl) ?_
  refine lv_iconst (v := 0) hx hb d_Log_isMarkThere_5 (by decide) ?_
  obtain ⟨q1, hq1, hm⟩ := ob hm
  refine inv_rV (C := R_Medium) (As := [.int p1, .int 0]) (rest := []) (v := .int q1) X (c_Medium_at l D ca (ad 1) (ad 2) _ (g_medium g) p1 0 q1 hq1) g_Log_226 yo_Medium_at ⟨Nat.le_of_ble_eq_true rfl, Nat.le_of_ble_eq_true rfl⟩ hl hP hD [1, 2] rfl rfl (ci := 0) rfl rfl hS hA rfl rfl (Nat.le_of_ble_eq_true rfl) ⟨Nat.zero_le _, Nat.zero_le _⟩ d_Log_isMarkThere_6 (fun H locs hP hS => ?_)
  refine lv_iconst (v := 2) hx hb d_Log_isMarkThere_9 (by decide) ?_
  refine lv_icmp_ne (tgt := 24) hx hb d_Log_isMarkThere_10 (by decide) (fun c2 => ?_) (fun c2 => ?_)
  · replace hm := ineg c2 hm
    refine lv_iconst (v := 0) hx hb d_Log_isMarkThere_24 (by decide) ?_
    cases hm
    exact ret_rz X nz0 hS d_Log_isMarkThere_25
  · replace hm := ip c2 hm
    refine lv_aload_n hx hb d_Log_isMarkThere_13 rfl (lv_at hl 0 rfl) ?_
    refine va_get (D := D) (ci := 5) (v := .ref (ad 1)) (C := R_Log) (T := F_Log) (N := 15) hx hb hts i_Log hown hK hP 0 rfl rfl 0 (by decide) (hts _ wf_Log_14) (fun _ h9 => h9) rfl d_Log_isMarkThere_14 ?_
    refine lv_iload_n hx hb d_Log_isMarkThere_17 rfl (lv_at hl 1 rfl) ?_
    obtain ⟨q3, hq3, hm⟩ := ob hm
    refine inv_rV (C := R_Medium) (As := [.int p1]) (rest := []) (v := .int q3) X (c_Medium_isSumRight l D ca (ad 1) (ad 2) _ (g_medium g) p1 q3 hq3) g_Log_346 yo_Medium_isSumRight ⟨Nat.le_of_ble_eq_true rfl, Nat.le_of_ble_eq_true rfl⟩ hl hP hD [1, 2] rfl rfl (ci := 0) rfl rfl hS hA rfl rfl (Nat.le_of_ble_eq_true rfl) ⟨Nat.zero_le _, Nat.zero_le _⟩ d_Log_isMarkThere_18 (fun H locs hP hS => ?_)
    refine lv_if_ne (tgt := 26) hx hb d_Log_isMarkThere_21 (by decide) (fun c4 => ?_) (fun c4 => ?_)
    · replace hm := ineg c4 hm
      refine lv_aload_n hx hb d_Log_isMarkThere_26 rfl (lv_at hl 0 rfl) ?_
      refine va_get (D := D) (ci := 5) (v := .ref (ad 1)) (C := R_Log) (T := F_Log) (N := 15) hx hb hts i_Log hown hK hP 0 rfl rfl 0 (by decide) (hts _ wf_Log_14) (fun _ h9 => h9) rfl d_Log_isMarkThere_27 ?_
      refine lv_iload_n hx hb d_Log_isMarkThere_30 rfl (lv_at hl 1 rfl) ?_
      refine lv_iconst (v := 1) hx hb d_Log_isMarkThere_31 (by decide) ?_
      obtain ⟨q5, hq5, hm⟩ := ob hm
      refine inv_rV (C := R_Medium) (As := [.int p1, .int 1]) (rest := []) (v := .int q5) X (c_Medium_at l D ca (ad 1) (ad 2) _ (g_medium g) p1 1 q5 hq5) g_Log_226 yo_Medium_at ⟨Nat.le_of_ble_eq_true rfl, Nat.le_of_ble_eq_true rfl⟩ hl hP hD [1, 2] rfl rfl (ci := 0) rfl rfl hS hA rfl rfl (Nat.le_of_ble_eq_true rfl) ⟨Nat.zero_le _, Nat.zero_le _⟩ d_Log_isMarkThere_32 (fun H locs hP hS => ?_)
      refine lv_istore_n (lv' := [(2, .int q5), (0, .ref (ad 0)), (1, .int p1)]) hx hb d_Log_isMarkThere_35 rfl hl (by decide) rfl (fun ls hl => ?_)
      refine lv_iload_n hx hb d_Log_isMarkThere_36 rfl (lv_at hl 0 rfl) ?_
      refine lv_iconst (v := 1) hx hb d_Log_isMarkThere_37 (by decide) ?_
      refine lv_icmp_lt (tgt := 122) hx hb d_Log_isMarkThere_38 (by decide) (fun c6 => ?_) (fun c6 => ?_)
      · replace hm := ip c6 hm
        refine lv_iconst (v := 0) hx hb d_Log_isMarkThere_122 (by decide) ?_
        cases hm
        exact ret_rz X nz0 hS d_Log_isMarkThere_123
      · replace hm := ineg c6 hm
        refine lv_iload_n hx hb d_Log_isMarkThere_41 rfl (lv_at hl 0 rfl) ?_
        refine lv_bipush (v := 12) hx hb d_Log_isMarkThere_42 (by decide) ?_
        refine lv_icmp_gt (tgt := 122) hx hb d_Log_isMarkThere_44 (by decide) (fun c7 => ?_) (fun c7 => ?_)
        · replace hm := ip c7 hm
          refine lv_iconst (v := 0) hx hb d_Log_isMarkThere_122 (by decide) ?_
          cases hm
          exact ret_rz X nz0 hS d_Log_isMarkThere_123
        · replace hm := ineg c7 hm
          refine lv_aload_n hx hb d_Log_isMarkThere_47 rfl (lv_at hl 1 rfl) ?_
          refine va_get (D := D) (ci := 5) (v := .ref (ad 1)) (C := R_Log) (T := F_Log) (N := 15) hx hb hts i_Log hown hK hP 0 rfl rfl 0 (by decide) (hts _ wf_Log_14) (fun _ h9 => h9) rfl d_Log_isMarkThere_48 ?_
          refine lv_iload_n hx hb d_Log_isMarkThere_51 rfl (lv_at hl 2 rfl) ?_
          refine lv_iconst (v := 4) hx hb d_Log_isMarkThere_52 (by decide) ?_
          refine lv_iconst (v := 4) hx hb d_Log_isMarkThere_53 (by decide) ?_
          obtain ⟨q8, hq8, hm⟩ := ob hm
          refine inv_rV (C := R_Medium) (As := [.int p1, .int 4, .int 4]) (rest := []) (v := .long q8) X (c_Medium_number l D ca (ad 1) (ad 2) _ (g_medium g) p1 4 4 q8 hq8) g_Log_311 yo_Medium_number ⟨Nat.le_of_ble_eq_true rfl, Nat.le_of_ble_eq_true rfl⟩ hl hP hD [1, 2] rfl rfl (ci := 0) rfl rfl hS hA rfl rfl (Nat.le_of_ble_eq_true rfl) ⟨Nat.zero_le _, Nat.zero_le _⟩ d_Log_isMarkThere_54 (fun H locs hP hS => ?_)
          obtain ⟨q9, hq9, hm⟩ := ob hm
          refine inv_rS (As := [.long q8]) (rest := []) (v := .int q9) X (c_Log_isNumber l D ca  _ q8 q9 hq9) g_Log_349 yo_Log_isNumber ⟨Nat.le_of_ble_eq_true rfl, Nat.le_of_ble_eq_true rfl⟩ hl hP hD [] rfl rfl hS hA rfl rfl (Nat.le_of_ble_eq_true rfl) ⟨Nat.zero_le _, Nat.zero_le _⟩ d_Log_isMarkThere_57 (fun H locs hP hS => ?_)
          refine lv_if_eq (tgt := 122) hx hb d_Log_isMarkThere_60 (by decide) (fun c10 => ?_) (fun c10 => ?_)
          · replace hm := ip c10 hm
            refine lv_iconst (v := 0) hx hb d_Log_isMarkThere_122 (by decide) ?_
            cases hm
            exact ret_rz X nz0 hS d_Log_isMarkThere_123
          · replace hm := ineg c10 hm
            refine lv_iload_n hx hb d_Log_isMarkThere_63 rfl (lv_at hl 2 rfl) ?_
            refine lv_iload_n hx hb d_Log_isMarkThere_64 rfl (lv_at hl 0 rfl) ?_
            obtain ⟨q11, hq11, hm⟩ := ob hm
            refine inv_rS (As := [.int q5]) (rest := [.int p1]) (v := .int q11) X (c_Log_rowsOfMark l D ca  _ q5 q11 hq11) g_Log_104 yo_Log_rowsOfMark ⟨Nat.le_of_ble_eq_true rfl, Nat.le_of_ble_eq_true rfl⟩ hl hP hD [] rfl rfl hS hA rfl rfl (Nat.le_of_ble_eq_true rfl) ⟨Nat.zero_le _, Nat.zero_le _⟩ d_Log_isMarkThere_65 (fun H locs hP hS => ?_)
            refine lv_iadd hx hb d_Log_isMarkThere_68 ?_
            refine lv_aload_n hx hb d_Log_isMarkThere_69 rfl (lv_at hl 1 rfl) ?_
            refine va_get (D := D) (ci := 5) (v := .ref (ad 1)) (C := R_Log) (T := F_Log) (N := 15) hx hb hts i_Log hown hK hP 0 rfl rfl 0 (by decide) (hts _ wf_Log_14) (fun _ h9 => h9) rfl d_Log_isMarkThere_70 ?_
            obtain ⟨q12, hq12, hm⟩ := ob hm
            refine inv_rV (C := R_Medium) (As := []) (rest := [.int (p1 + q11)]) (v := .int q12) X (c_Medium_rows l D ca (ad 1) (ad 2) _ (g_medium g) q12 hq12) g_Log_36 yo_Medium_rows ⟨Nat.le_of_ble_eq_true rfl, Nat.le_of_ble_eq_true rfl⟩ hl hP hD [1, 2] rfl rfl (ci := 0) rfl rfl hS hA rfl rfl (Nat.le_of_ble_eq_true rfl) ⟨Nat.zero_le _, Nat.zero_le _⟩ d_Log_isMarkThere_73 (fun H locs hP hS => ?_)
            refine lv_icmp_gt (tgt := 122) hx hb d_Log_isMarkThere_76 (by decide) (fun c13 => ?_) (fun c13 => ?_)
            · replace hm := ip c13 hm
              refine lv_iconst (v := 0) hx hb d_Log_isMarkThere_122 (by decide) ?_
              cases hm
              exact ret_rz X nz0 hS d_Log_isMarkThere_123
            · replace hm := ineg c13 hm
              refine lv_aload_n hx hb d_Log_isMarkThere_79 rfl (lv_at hl 1 rfl) ?_
              refine va_get (D := D) (ci := 5) (v := .ref (ad 1)) (C := R_Log) (T := F_Log) (N := 15) hx hb hts i_Log hown hK hP 0 rfl rfl 0 (by decide) (hts _ wf_Log_14) (fun _ h9 => h9) rfl d_Log_isMarkThere_80 ?_
              refine lv_iload_n hx hb d_Log_isMarkThere_83 rfl (lv_at hl 2 rfl) ?_
              refine lv_bipush (v := 8) hx hb d_Log_isMarkThere_84 (by decide) ?_
              refine lv_bipush (v := 8) hx hb d_Log_isMarkThere_86 (by decide) ?_
              obtain ⟨q14, hq14, hm⟩ := ob hm
              refine inv_rV (C := R_Medium) (As := [.int p1, .int 8, .int 8]) (rest := []) (v := .long q14) X (c_Medium_number l D ca (ad 1) (ad 2) _ (g_medium g) p1 8 8 q14 hq14) g_Log_311 yo_Medium_number ⟨Nat.le_of_ble_eq_true rfl, Nat.le_of_ble_eq_true rfl⟩ hl hP hD [1, 2] rfl rfl (ci := 0) rfl rfl hS hA rfl rfl (Nat.le_of_ble_eq_true rfl) ⟨Nat.zero_le _, Nat.zero_le _⟩ d_Log_isMarkThere_88 (fun H locs hP hS => ?_)
              refine lv_aload_n hx hb d_Log_isMarkThere_91 rfl (lv_at hl 1 rfl) ?_
              refine va_get (D := D) (ci := 5) (v := .ref (ad 1)) (C := R_Log) (T := F_Log) (N := 15) hx hb hts i_Log hown hK hP 0 rfl rfl 0 (by decide) (hts _ wf_Log_14) (fun _ h9 => h9) rfl d_Log_isMarkThere_92 ?_
              refine lv_iload_n hx hb d_Log_isMarkThere_95 rfl (lv_at hl 2 rfl) ?_
              refine lv_iconst (v := 1) hx hb d_Log_isMarkThere_96 (by decide) ?_
              refine lv_iadd hx hb d_Log_isMarkThere_97 ?_
              refine lv_iload_n hx hb d_Log_isMarkThere_98 rfl (lv_at hl 0 rfl) ?_
              obtain ⟨q15, hq15, hm⟩ := ob hm
              refine inv_rS (As := [.int q5]) (rest := [.int (p1 + 1), .ref (ad 1), .long q14]) (v := .int q15) X (c_Log_entriesOf l D ca  _ q5 q15 hq15) g_Log_262 yo_Log_entriesOf ⟨Nat.le_of_ble_eq_true rfl, Nat.le_of_ble_eq_true rfl⟩ hl hP hD [] rfl rfl hS hA rfl rfl (Nat.le_of_ble_eq_true rfl) ⟨Nat.zero_le _, Nat.zero_le _⟩ d_Log_isMarkThere_99 (fun H locs hP hS => ?_)
              obtain ⟨q16, hq16, hm⟩ := ob hm
              refine inv_rV (C := R_Medium) (As := [.int (p1 + 1), .int q15]) (rest := [.long q14]) (v := .long q16) X (c_Medium_digest l D ca (ad 1) (ad 2) _ (g_medium g) (p1 + 1) q15 q16 hq16) g_Log_365 yo_Medium_digest ⟨Nat.le_of_ble_eq_true rfl, Nat.le_of_ble_eq_true rfl⟩ hl hP hD [1, 2] rfl rfl (ci := 0) rfl rfl hS hA rfl rfl (Nat.le_of_ble_eq_true rfl) ⟨Nat.zero_le _, Nat.zero_le _⟩ d_Log_isMarkThere_102 (fun H locs hP hS => ?_)
              refine W.lcmp hx hb d_Log_isMarkThere_105 ?_
              refine lv_if_ne (tgt := 122) hx hb d_Log_isMarkThere_106 (by decide) (fun c17 => ?_) (fun c17 => ?_)
              · replace hm := ineg c17 hm
                refine lv_iconst (v := 0) hx hb d_Log_isMarkThere_122 (by decide) ?_
                cases hm
                exact ret_rz X nz0 hS d_Log_isMarkThere_123
              · replace hm := ip c17 hm
                refine lv_aload_n hx hb d_Log_isMarkThere_109 rfl (lv_at hl 1 rfl) ?_
                refine lv_iload_n hx hb d_Log_isMarkThere_110 rfl (lv_at hl 2 rfl) ?_
                refine lv_iload_n hx hb d_Log_isMarkThere_111 rfl (lv_at hl 0 rfl) ?_
                obtain ⟨q18, hq18, hm⟩ := ob hm
                refine inv_rVa (C := R_Log) (As := [.int p1, .int q5]) (rest := []) (v := .int q18) X (c_Log_areEntriesRising l D ca ad _ g p1 q5 q18 hq18) g_Log_366 yo_Log_areEntriesRising ⟨Nat.le_of_ble_eq_true rfl, Nat.le_of_ble_eq_true rfl⟩ hl hP hD (ci := 5) rfl rfl hS hA rfl rfl (Nat.le_of_ble_eq_true rfl) ⟨Nat.zero_le _, Nat.zero_le _⟩ d_Log_isMarkThere_112 (fun H locs hP hS => ?_)
                refine lv_if_eq (tgt := 122) hx hb d_Log_isMarkThere_115 (by decide) (fun c19 => ?_) (fun c19 => ?_)
                · replace hm := ip c19 hm
                  refine lv_iconst (v := 0) hx hb d_Log_isMarkThere_122 (by decide) ?_
                  cases hm
                  exact ret_rz X nz0 hS d_Log_isMarkThere_123
                · replace hm := ineg c19 hm
                  refine lv_iconst (v := 1) hx hb d_Log_isMarkThere_118 (by decide) ?_
                  refine lv_goto (tgt := 123) hx hb d_Log_isMarkThere_119 (by decide) ?_
                  cases hm
                  exact ret_rz X nz1 hS d_Log_isMarkThere_123
    · replace hm := ip c4 hm
      refine lv_iconst (v := 0) hx hb d_Log_isMarkThere_24 (by decide) ?_
      cases hm
      exact ret_rz X nz0 hS d_Log_isMarkThere_25
set_option maxHeartbeats 4000000 in
set_option maxRecDepth 100000 in
theorem k_m_Log_learnMark_L61 {p : Program} {l : Launch} {e : Env} {s : State} {m : MethodId} {args : Array Value} {below : List Frame} {meth : Method} {c : Code} {D : va_G} {ca : Nat → ClassId} {ad : Nat → Nat} {A : Nat → Prop} (X : Cx p s m args meth c R_Log b_Log_learnMark 7 (some .int) D ca) (hA : ∀ q, s.heap.size ≤ q → A q)  : ∀ (n : Nat) (g : St_Log) (v1 : Int32) (v2 : Int32) (v3 : Int32) (v4 : Int32) (v5 : Int32) (res : Int32 × St_Log), m_Log_learnMark_L61  n g v1 v2 v3 v4 v5 = some res → ∀ (H : Heap) (locs : List Loc), va_P D classes (wl_Log ca ad g) H → va_D A (wl_Log ca ad g) → va_S A s.heap H locs → ∀ ls : Array Slot, lv_has ls 7 [(0, .ref (ad 0)), (1, .int v1), (2, .int v2), (3, .int v3), (4, .int v4), (5, .int v5)] → W p l e (RM 3 71) s m args below meth c H locs 0 0 (MQ below (QRm D (some (.int res.1)) (wl_Log ca ad res.2) A) args s 0 0 A) (F0 m 61 ls []) := by
  obtain ⟨hx, hb, hml, hr, hown, hts, hK, hlocks⟩ := id X
  intro n
  induction n with
  | zero =>
    intro g v1 v2 v3 v4 v5 res hm
    rw [m_Log_learnMark_L61] at hm
    cases hm
  | succ n ih =>
    intro g v1 v2 v3 v4 v5 res hm H locs hP hD hS ls hl
    rw [m_Log_learnMark_L61] at hm
    refine lv_iload hx hb d_Log_learnMark_61 (lv_at hl 5 rfl) ?_
    refine lv_iload_n hx hb d_Log_learnMark_63 rfl (lv_at hl 3 rfl) ?_
    refine lv_icmp_ge (tgt := 121) hx hb d_Log_learnMark_64 (by decide) (fun c8 => ?_) (fun c8 => ?_)
    · replace hm := ip c8 hm
      refine lv_aload_n hx hb d_Log_learnMark_121 rfl (lv_at hl 0 rfl) ?_
      refine va_get (D := D) (ci := 5) (v := .ref (ad 11)) (C := R_Log) (T := F_Log) (N := 15) hx hb hts i_Log hown hK hP 0 rfl rfl 5 (by decide) (hts _ wf_Log_41) (fun _ h9 => h9) rfl d_Log_learnMark_122 ?_
      refine lv_iload_n hx hb d_Log_learnMark_125 rfl (lv_at hl 1 rfl) ?_
      refine lv_iload_n hx hb d_Log_learnMark_126 rfl (lv_at hl 3 rfl) ?_
      obtain ⟨q9, hq9, hm⟩ := ob hm
      refine inv_rS (As := [.int v3]) (rest := [.int v1, .ref (ad 11)]) (v := .int q9) X (c_Log_rowsOfMark l D ca  _ v3 q9 hq9) g_Log_104 yo_Log_rowsOfMark ⟨Nat.le_of_ble_eq_true rfl, Nat.le_of_ble_eq_true rfl⟩ hl hP hD [] rfl rfl hS hA rfl rfl (Nat.le_of_ble_eq_true rfl) ⟨Nat.zero_le _, Nat.zero_le _⟩ d_Log_learnMark_127 (fun H locs hP hS => ?_)
      obtain ⟨q10, hq10, hm⟩ := ob hm
      refine inv_mU (C := R_Room) (As := [.int v1, .int q9]) (rest := []) (ws' := wl_Log ca ad (s_room g q10)) X (c_Room_take l D ca (ad 11) (ad 12) _ (g_room g) v1 q9 q10 hq10) g_Log_321 yo_Room_take ⟨Nat.le_of_ble_eq_true rfl, Nat.le_of_ble_eq_true rfl⟩ hl hP hD [11, 12] rfl rfl rfl rfl (ci := 2) rfl rfl hS hA rfl rfl (Nat.le_of_ble_eq_true rfl) ⟨Nat.zero_le _, Nat.zero_le _⟩ d_Log_learnMark_130 (fun H locs hP hD hS => ?_)
      refine lv_aload_n hx hb d_Log_learnMark_133 rfl (lv_at hl 0 rfl) ?_
      refine lv_aload_n hx hb d_Log_learnMark_134 rfl (lv_at hl 0 rfl) ?_
      refine va_get (D := D) (ci := 5) (v := .int (g_greatestMark g)) (C := R_Log) (T := F_Log) (N := 15) hx hb hts i_Log hown hK hP 0 rfl rfl 13 (by decide) (hts _ wf_Log_89) (fun _ h9 => h9) rfl d_Log_learnMark_135 ?_
      refine lv_iload_n hx hb d_Log_learnMark_138 rfl (lv_at hl 2 rfl) ?_
      refine va_mmax hx hb (hml.trans hl.1.symm) hown (hts _ wm_Log_164) (hts _ w_max_static) (hts _ w_math_init) (hts _ w_max_code) (Nat.le_of_ble_eq_true rfl) (Nat.le_of_ble_eq_true rfl) (Nat.zero_le _) (Nat.zero_le _) d_Log_learnMark_139 ?_
      refine va_put (D := D) (ci := 5) (v := .int (jmax (g_greatestMark g) v2)) (ty := .int) (C := R_Log) (T := F_Log) (N := 15) hx hb hts i_Log t_Log t_Log_ok n_Log hown hK hP hD hS 0 rfl rfl 13 (by decide) (hts _ wf_Log_89) (fun _ h9 => h9) rfl (by decide +kernel) rfl rfl (Nat.le_of_ble_eq_true rfl) d_Log_learnMark_142 (fun H locs hP hD hS => ?_)
      replace hP : va_P D classes (wl_Log ca ad (s_greatestMark (s_room g q10) (jmax (g_greatestMark g) v2))) H := hP
      replace hD : va_D A (wl_Log ca ad (s_greatestMark (s_room g q10) (jmax (g_greatestMark g) v2))) := hD
      refine lv_iload_n hx hb d_Log_learnMark_145 rfl (lv_at hl 3 rfl) ?_
      obtain ⟨q11, hq11, hm⟩ := ob hm
      refine inv_rS (As := [.int v3]) (rest := []) (v := .int q11) X (c_Log_rowsOfMark l D ca  _ v3 q11 hq11) g_Log_104 yo_Log_rowsOfMark ⟨Nat.le_of_ble_eq_true rfl, Nat.le_of_ble_eq_true rfl⟩ hl hP hD [] rfl rfl hS hA rfl rfl (Nat.le_of_ble_eq_true rfl) ⟨Nat.zero_le _, Nat.zero_le _⟩ d_Log_learnMark_146 (fun H locs hP hS => ?_)
      cases hm
      exact ret_mi X hP hS d_Log_learnMark_149
    · replace hm := ineg c8 hm
      refine lv_aload_n hx hb d_Log_learnMark_67 rfl (lv_at hl 0 rfl) ?_
      refine va_get (D := D) (ci := 5) (v := .ref (ad 1)) (C := R_Log) (T := F_Log) (N := 15) hx hb hts i_Log hown hK hP 0 rfl rfl 0 (by decide) (hts _ wf_Log_14) (fun _ h9 => h9) rfl d_Log_learnMark_68 ?_
      refine lv_iload_n hx hb d_Log_learnMark_71 rfl (lv_at hl 1 rfl) ?_
      refine lv_iload hx hb d_Log_learnMark_72 (lv_at hl 5 rfl) ?_
      obtain ⟨q12, hq12, hm⟩ := ob hm
      refine inv_rS (As := [.int v1, .int v5]) (rest := [.ref (ad 1)]) (v := .int q12) X (c_Log_entryRow l D ca  _ v1 v5 q12 hq12) g_Log_303 yo_Log_entryRow ⟨Nat.le_of_ble_eq_true rfl, Nat.le_of_ble_eq_true rfl⟩ hl hP hD [] rfl rfl hS hA rfl rfl (Nat.le_of_ble_eq_true rfl) ⟨Nat.zero_le _, Nat.zero_le _⟩ d_Log_learnMark_74 (fun H locs hP hS => ?_)
      refine lv_iload hx hb d_Log_learnMark_77 (lv_at hl 5 rfl) ?_
      obtain ⟨q13, hq13, hm⟩ := ob hm
      refine inv_rS (As := [.int v5]) (rest := [.int q12, .ref (ad 1)]) (v := .int q13) X (c_Log_entryByte l D ca  _ v5 q13 hq13) g_Log_308 yo_Log_entryByte ⟨Nat.le_of_ble_eq_true rfl, Nat.le_of_ble_eq_true rfl⟩ hl hP hD [] rfl rfl hS hA rfl rfl (Nat.le_of_ble_eq_true rfl) ⟨Nat.zero_le _, Nat.zero_le _⟩ d_Log_learnMark_79 (fun H locs hP hS => ?_)
      refine lv_iconst (v := 4) hx hb d_Log_learnMark_82 (by decide) ?_
      obtain ⟨q14, hq14, hm⟩ := ob hm
      refine inv_rV (C := R_Medium) (As := [.int q12, .int q13, .int 4]) (rest := []) (v := .long q14) X (c_Medium_number l D ca (ad 1) (ad 2) _ (g_medium g) q12 q13 4 q14 hq14) g_Log_311 yo_Medium_number ⟨Nat.le_of_ble_eq_true rfl, Nat.le_of_ble_eq_true rfl⟩ hl hP hD [1, 2] rfl rfl (ci := 0) rfl rfl hS hA rfl rfl (Nat.le_of_ble_eq_true rfl) ⟨Nat.zero_le _, Nat.zero_le _⟩ d_Log_learnMark_83 (fun H locs hP hS => ?_)
      refine lv_l2i (v := ((q14).toInt32)) hx hb d_Log_learnMark_86 rfl ?_
      refine lv_istore (lv' := [(6, .int ((q14).toInt32)), (0, .ref (ad 0)), (1, .int v1), (2, .int v2), (3, .int v3), (4, .int v4), (5, .int v5)]) hx hb d_Log_learnMark_87 hl (by decide) rfl (fun ls hl => ?_)
      refine lv_aload_n hx hb d_Log_learnMark_89 rfl (lv_at hl 1 rfl) ?_
      refine va_get (D := D) (ci := 5) (v := .ref (ad 21)) (C := R_Log) (T := F_Log) (N := 15) hx hb hts i_Log hown hK hP 0 rfl rfl 8 (by decide) (hts _ wf_Log_58) (fun _ h9 => h9) rfl d_Log_learnMark_90 ?_
      refine lv_iload hx hb d_Log_learnMark_93 (lv_at hl 5 rfl) ?_
      refine lv_iload hx hb d_Log_learnMark_95 (lv_at hl 6 rfl) ?_
      refine lv_iload hx hb d_Log_learnMark_97 (lv_at hl 0 rfl) ?_
      obtain ⟨q15, hq15, hm⟩ := ob hm
      refine inv_mU (C := R_Marks) (As := [.int v4, .int v5, .int ((q14).toInt32)]) (rest := []) (ws' := wl_Log ca ad (s_kept g q15)) X (c_Marks_setPart l D ca (ad 21) (ad 22) (ad 23) (ad 24) (ad 25) (ad 26) _ (g_kept g) v4 v5 ((q14).toInt32) q15 hq15) g_Log_125 yo_Marks_setPart ⟨Nat.le_of_ble_eq_true rfl, Nat.le_of_ble_eq_true rfl⟩ hl hP hD [21, 22, 23, 24, 25, 26] rfl rfl rfl rfl (ci := 4) rfl rfl hS hA rfl rfl (Nat.le_of_ble_eq_true rfl) ⟨Nat.zero_le _, Nat.zero_le _⟩ d_Log_learnMark_99 (fun H locs hP hD hS => ?_)
      refine lv_aload_n hx hb d_Log_learnMark_102 rfl (lv_at hl 1 rfl) ?_
      refine lv_aload_n hx hb d_Log_learnMark_103 rfl (lv_at hl 1 rfl) ?_
      refine va_get (D := D) (ci := 5) (v := .int (g_greatestPart g)) (C := R_Log) (T := F_Log) (N := 15) hx hb hts i_Log hown hK hP 0 rfl rfl 12 (by decide) (hts _ wf_Log_268) (fun _ h9 => h9) rfl d_Log_learnMark_104 ?_
      refine lv_iload hx hb d_Log_learnMark_107 (lv_at hl 0 rfl) ?_
      refine va_mmax hx hb (hml.trans hl.1.symm) hown (hts _ wm_Log_164) (hts _ w_max_static) (hts _ w_math_init) (hts _ w_max_code) (Nat.le_of_ble_eq_true rfl) (Nat.le_of_ble_eq_true rfl) (Nat.zero_le _) (Nat.zero_le _) d_Log_learnMark_109 ?_
      refine va_put (D := D) (ci := 5) (v := .int (jmax (g_greatestPart g) ((q14).toInt32))) (ty := .int) (C := R_Log) (T := F_Log) (N := 15) hx hb hts i_Log t_Log t_Log_ok n_Log hown hK hP hD hS 0 rfl rfl 12 (by decide) (hts _ wf_Log_268) (fun _ h9 => h9) rfl (by decide +kernel) rfl rfl (Nat.le_of_ble_eq_true rfl) d_Log_learnMark_112 (fun H locs hP hD hS => ?_)
      replace hP : va_P D classes (wl_Log ca ad (s_greatestPart (s_kept g q15) (jmax (g_greatestPart g) ((q14).toInt32)))) H := hP
      replace hD : va_D A (wl_Log ca ad (s_greatestPart (s_kept g q15) (jmax (g_greatestPart g) ((q14).toInt32)))) := hD
      refine lv_iinc (v := (v5 + 1)) (lv' := [(5, .int (v5 + 1)), (6, .int ((q14).toInt32)), (0, .ref (ad 0)), (1, .int v1), (2, .int v2), (3, .int v3), (4, .int v4)]) hx hb d_Log_learnMark_115 hl (k := 6) rfl rfl (by decide) rfl (fun ls hl => ?_)
      refine lv_goto (tgt := 61) hx hb d_Log_learnMark_118 (by decide) ?_
      exact ih (s_greatestPart (s_kept g q15) (jmax (g_greatestPart g) ((q14).toInt32))) v1 v2 v3 v4 (v5 + 1) _ hm _ _ hP hD hS ls (lv_sub hl [2, 3, 4, 5, 6, 0] rfl)
set_option maxHeartbeats 4000000 in
set_option maxRecDepth 100000 in
theorem c_Log_learnMark (l : Launch) (D : va_G) (ca : Nat → ClassId) (ad : Nat → Nat) (sz : Nat) (g : St_Log) (p1 : Int32) (res : Int32 × St_Log) (hm : m_Log_learnMark g p1 = some res) : Met l y_Log_learnMark (cws y_Log_learnMark b_Log_learnMark 7 (some .int)) (RM 3 71) (PreW D ca (wl_Log ca ad g) [.ref (ad 0), .int p1] sz) (QRm D (some (.int res.1)) (wl_Log ca ad res.2) (va_A (wl_Log ca ad g) sz)) 0 0 (va_A (wl_Log ca ad g) sz) := by
  refine met_ofM (own := R_Log) (by decide) rfl (Nat.le_of_ble_eq_true rfl) ?_
  intro p e s m below meth c A X hA hP hD ls hl
  obtain ⟨hx, hb, hml, hr, hown, hts, hK, hlocks⟩ := id X
  have hS : va_S A s.heap s.heap [] := va_S.rf
  have hl : lv_has ls 7 [(0, .ref (ad 0)), (1, .int p1)] := hl
  unfold m_Log_learnMark at hm
  refine lv_aload_n hx hb d_Log_learnMark_0 rfl (lv_at hl 0 rfl) ?_
  refine va_get (D := D) (ci := 5) (v := .ref (ad 1)) (C := R_Log) (T := F_Log) (N := 15) hx hb hts i_Log hown hK hP 0 rfl rfl 0 (by decide) (hts _ wf_Log_14) (fun _ h9 => h9) rfl d_Log_learnMark_1 ?_
  refine lv_iload_n hx hb d_Log_learnMark_4 rfl (lv_at hl 1 rfl) ?_
  refine lv_iconst (v := 4) hx hb d_Log_learnMark_5 (by decide) ?_
  refine lv_iconst (v := 4) hx hb d_Log_learnMark_6 (by decide) ?_
  obtain ⟨q1, hq1, hm⟩ := ob hm
  refine inv_rV (C := R_Medium) (As := [.int p1, .int 4, .int 4]) (rest := []) (v := .long q1) X (c_Medium_number l D ca (ad 1) (ad 2) _ (g_medium g) p1 4 4 q1 hq1) g_Log_311 yo_Medium_number ⟨Nat.le_of_ble_eq_true rfl, Nat.le_of_ble_eq_true rfl⟩ hl hP hD [1, 2] rfl rfl (ci := 0) rfl rfl hS hA rfl rfl (Nat.le_of_ble_eq_true rfl) ⟨Nat.zero_le _, Nat.zero_le _⟩ d_Log_learnMark_7 (fun H locs hP hS => ?_)
  refine lv_l2i (v := ((q1).toInt32)) hx hb d_Log_learnMark_10 rfl ?_
  refine lv_istore_n (lv' := [(2, .int ((q1).toInt32)), (0, .ref (ad 0)), (1, .int p1)]) hx hb d_Log_learnMark_11 rfl hl (by decide) rfl (fun ls hl => ?_)
  refine lv_aload_n hx hb d_Log_learnMark_12 rfl (lv_at hl 1 rfl) ?_
  refine va_get (D := D) (ci := 5) (v := .ref (ad 1)) (C := R_Log) (T := F_Log) (N := 15) hx hb hts i_Log hown hK hP 0 rfl rfl 0 (by decide) (hts _ wf_Log_14) (fun _ h9 => h9) rfl d_Log_learnMark_13 ?_
  refine lv_iload_n hx hb d_Log_learnMark_16 rfl (lv_at hl 2 rfl) ?_
  refine lv_iconst (v := 1) hx hb d_Log_learnMark_17 (by decide) ?_
  obtain ⟨q2, hq2, hm⟩ := ob hm
  refine inv_rV (C := R_Medium) (As := [.int p1, .int 1]) (rest := []) (v := .int q2) X (c_Medium_at l D ca (ad 1) (ad 2) _ (g_medium g) p1 1 q2 hq2) g_Log_226 yo_Medium_at ⟨Nat.le_of_ble_eq_true rfl, Nat.le_of_ble_eq_true rfl⟩ hl hP hD [1, 2] rfl rfl (ci := 0) rfl rfl hS hA rfl rfl (Nat.le_of_ble_eq_true rfl) ⟨Nat.zero_le _, Nat.zero_le _⟩ d_Log_learnMark_18 (fun H locs hP hS => ?_)
  refine lv_istore_n (lv' := [(3, .int q2), (2, .int ((q1).toInt32)), (0, .ref (ad 0)), (1, .int p1)]) hx hb d_Log_learnMark_21 rfl hl (by decide) rfl (fun ls hl => ?_)
  refine lv_aload_n hx hb d_Log_learnMark_22 rfl (lv_at hl 2 rfl) ?_
  refine va_get (D := D) (ci := 5) (v := .ref (ad 21)) (C := R_Log) (T := F_Log) (N := 15) hx hb hts i_Log hown hK hP 0 rfl rfl 8 (by decide) (hts _ wf_Log_58) (fun _ h9 => h9) rfl d_Log_learnMark_23 ?_
  refine lv_iload_n hx hb d_Log_learnMark_26 rfl (lv_at hl 1 rfl) ?_
  obtain ⟨q3, hq3, hm⟩ := ob hm
  refine inv_rV (C := R_Marks) (As := [.int ((q1).toInt32)]) (rest := []) (v := .int q3) X (c_Marks_find l D ca (ad 21) (ad 22) (ad 23) (ad 24) (ad 25) (ad 26) _ (g_kept g) ((q1).toInt32) q3 hq3) g_Log_98 yo_Marks_find ⟨Nat.le_of_ble_eq_true rfl, Nat.le_of_ble_eq_true rfl⟩ hl hP hD [21, 22, 23, 24, 25, 26] rfl rfl (ci := 4) rfl rfl hS hA rfl rfl (Nat.le_of_ble_eq_true rfl) ⟨Nat.zero_le _, Nat.zero_le _⟩ d_Log_learnMark_27 (fun H locs hP hS => ?_)
  refine lv_iconst (v := (-1)) hx hb d_Log_learnMark_30 (by decide) ?_
  refine lv_icmp_ne (tgt := 145) hx hb d_Log_learnMark_31 (by decide) (fun c4 => ?_) (fun c4 => ?_)
  · replace hm := ineg c4 hm
    refine lv_iload_n hx hb d_Log_learnMark_145 rfl (lv_at hl 0 rfl) ?_
    obtain ⟨q5, hq5, hm⟩ := ob hm
    refine inv_rS (As := [.int q2]) (rest := []) (v := .int q5) X (c_Log_rowsOfMark l D ca  _ q2 q5 hq5) g_Log_104 yo_Log_rowsOfMark ⟨Nat.le_of_ble_eq_true rfl, Nat.le_of_ble_eq_true rfl⟩ hl hP hD [] rfl rfl hS hA rfl rfl (Nat.le_of_ble_eq_true rfl) ⟨Nat.zero_le _, Nat.zero_le _⟩ d_Log_learnMark_146 (fun H locs hP hS => ?_)
    cases hm
    exact ret_mi X hP hS d_Log_learnMark_149
  · replace hm := ip c4 hm
    refine lv_aload_n hx hb d_Log_learnMark_34 rfl (lv_at hl 2 rfl) ?_
    refine va_get (D := D) (ci := 5) (v := .ref (ad 21)) (C := R_Log) (T := F_Log) (N := 15) hx hb hts i_Log hown hK hP 0 rfl rfl 8 (by decide) (hts _ wf_Log_58) (fun _ h9 => h9) rfl d_Log_learnMark_35 ?_
    refine lv_iload_n hx hb d_Log_learnMark_38 rfl (lv_at hl 1 rfl) ?_
    refine lv_iload_n hx hb d_Log_learnMark_39 rfl (lv_at hl 0 rfl) ?_
    refine lv_iload_n hx hb d_Log_learnMark_40 rfl (lv_at hl 3 rfl) ?_
    refine lv_aload_n hx hb d_Log_learnMark_41 rfl (lv_at hl 2 rfl) ?_
    refine va_get (D := D) (ci := 5) (v := .ref (ad 1)) (C := R_Log) (T := F_Log) (N := 15) hx hb hts i_Log hown hK hP 0 rfl rfl 0 (by decide) (hts _ wf_Log_14) (fun _ h9 => h9) rfl d_Log_learnMark_42 ?_
    refine lv_iload_n hx hb d_Log_learnMark_45 rfl (lv_at hl 3 rfl) ?_
    refine lv_bipush (v := 8) hx hb d_Log_learnMark_46 (by decide) ?_
    refine lv_bipush (v := 8) hx hb d_Log_learnMark_48 (by decide) ?_
    obtain ⟨q6, hq6, hm⟩ := ob hm
    refine inv_rV (C := R_Medium) (As := [.int p1, .int 8, .int 8]) (rest := [.int p1, .int q2, .int ((q1).toInt32), .ref (ad 21)]) (v := .long q6) X (c_Medium_number l D ca (ad 1) (ad 2) _ (g_medium g) p1 8 8 q6 hq6) g_Log_311 yo_Medium_number ⟨Nat.le_of_ble_eq_true rfl, Nat.le_of_ble_eq_true rfl⟩ hl hP hD [1, 2] rfl rfl (ci := 0) rfl rfl hS hA rfl rfl (Nat.le_of_ble_eq_true rfl) ⟨Nat.zero_le _, Nat.zero_le _⟩ d_Log_learnMark_50 (fun H locs hP hS => ?_)
    obtain ⟨q7, hq7, hm⟩ := ob hm
    refine inv_mV (C := R_Marks) (As := [.int ((q1).toInt32), .int q2, .int p1, .long q6]) (rest := []) (v := .int q7.1) (ws' := wl_Log ca ad (s_kept g q7.2)) X (c_Marks_add l D ca (ad 21) (ad 22) (ad 23) (ad 24) (ad 25) (ad 26) _ (g_kept g) ((q1).toInt32) q2 p1 q6 q7 hq7) g_Log_118 yo_Marks_add ⟨Nat.le_of_ble_eq_true rfl, Nat.le_of_ble_eq_true rfl⟩ hl hP hD [21, 22, 23, 24, 25, 26] rfl rfl rfl rfl (ci := 4) rfl rfl hS hA rfl rfl (Nat.le_of_ble_eq_true rfl) ⟨Nat.zero_le _, Nat.zero_le _⟩ d_Log_learnMark_53 (fun H locs hP hD hS => ?_)
    refine lv_istore (lv' := [(4, .int q7.1), (3, .int q2), (2, .int ((q1).toInt32)), (0, .ref (ad 0)), (1, .int p1)]) hx hb d_Log_learnMark_56 hl (by decide) rfl (fun ls hl => ?_)
    refine lv_iconst (v := 0) hx hb d_Log_learnMark_58 (by decide) ?_
    refine lv_istore (lv' := [(5, .int 0), (4, .int q7.1), (3, .int q2), (2, .int ((q1).toInt32)), (0, .ref (ad 0)), (1, .int p1)]) hx hb d_Log_learnMark_59 hl (by decide) rfl (fun ls hl => ?_)
    exact k_m_Log_learnMark_L61 X hA FU (s_kept g q7.2) p1 ((q1).toInt32) q2 q7.1 0 _ hm _ _ hP hD hS ls (lv_sub hl [4, 5, 3, 2, 1, 0] rfl)
