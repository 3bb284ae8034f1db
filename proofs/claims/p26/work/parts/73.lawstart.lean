set_option maxHeartbeats 8000000 in
set_option maxRecDepth 100000 in
theorem law_start {p : Program} {e : Env} {s : State} {m : MethodId} {below : List Frame} {meth : Method} {c : Code} (l : Launch) {b L : Nat} {xs : Nat → Int32} (C0 : lw_At p s m meth c b L xs) (g : St_Log) (r : St_Ref) (hg : m_Log_init (if Int32.ofNat L ≤ 0 then 0 else xs 0) = some g) (hr0 : m_RRef_init (if Int32.ofNat L ≤ 0 then 0 else xs 0) = some r) (n : Nat) (hm : lawL xs L n g r 1 = some 1) : W p l e room_1 s m #[Value.ref b] below meth c s.heap [] 0 0 (lw_Z below #[Value.ref b] s) (entryFrame m ([Value.ref b] : List Value).toArray 4) := by
  obtain ⟨hx, hb, hr, hml, hown, hts0, hX, hbl, hlocks, hgv⟩ := id C0
  have hts : ∀ w ∈ ALL, w.before #[Value.ref b] s = true := fun w hw => hts0 w (List.mem_filter.mp hw).1
  have hNW : NW s := fun w hw => by
    have h1 := hts0 w (NL_in w hw)
    obtain ⟨a, i, x, h9, rfl⟩ := NL_is w hw
    exact va_Nw.of rfl h1
  have hA : ∀ q : Nat, s.heap.size ≤ q → (fun q : Nat => s.heap.size ≤ q) q := fun _ h => h
  have hbA : ¬ (fun q : Nat => s.heap.size ≤ q) b := Nat.not_le.mpr hbl
  obtain ⟨c0, iS0, hKn0⟩ := u_known (C := R_Medium) (T := F_Medium) (N := 4) (n := 4) hts i_Medium (hts _ wi_Medium)
  obtain ⟨c1, iS1, hKn1⟩ := u_known (C := R_Bytes) (T := F_Bytes) (N := 2) (n := 2) hts i_Bytes (hts _ wi_Bytes)
  obtain ⟨c2, iS2, hKn2⟩ := u_known (C := R_Room) (T := F_Room) (N := 1) (n := 1) hts i_Room (hts _ wi_Room)
  obtain ⟨c3, iS3, hKn3⟩ := u_known (C := R_Parts) (T := F_Parts) (N := 6) (n := 6) hts i_Parts (hts _ wi_Parts)
  obtain ⟨c4, iS4, hKn4⟩ := u_known (C := R_Marks) (T := F_Marks) (N := 6) (n := 6) hts i_Marks (hts _ wi_Marks)
  obtain ⟨c5, iS5, hKn5⟩ := u_known (C := R_Log) (T := F_Log) (N := 15) (n := 15) hts i_Log (hts _ wi_law_7)
  obtain ⟨c6, iS6, hKn6⟩ := u_known (C := R_RRef) (T := F_RRef) (N := 29) (n := 29) hts i_RRef (hts _ wi_law_18)
  obtain ⟨ac0, ak0, ap0, af0, ag0, ah0⟩ := Cond.arrayClass_spec (hts _ wa_0)
  obtain ⟨ac1, ak1, ap1, af1, ag1, ah1⟩ := Cond.arrayClass_spec (hts _ wa_1)
  obtain ⟨ac2, ak2, ap2, af2, ag2, ah2⟩ := Cond.arrayClass_spec (hts _ wa_2)
  obtain ⟨ac3, ak3, ap3, af3, ag3, ah3⟩ := Cond.arrayClass_spec (hts _ wa_3)
  obtain ⟨D, hKc⟩ : ∃ D : va_G, ∀ (k : Nat) (q : vw_C), classes[k]? = some q → u_Kn s q.1 q.2.1 q.2.2 (D.1 k) (D.2 k) := by
    refine ⟨(fun k => if k = 0 then c0 else if k = 1 then c1 else if k = 2 then c2 else if k = 3 then c3 else if k = 4 then c4 else if k = 5 then c5 else c6, fun k => if k = 0 then iS0 else if k = 1 then iS1 else if k = 2 then iS2 else if k = 3 then iS3 else if k = 4 then iS4 else if k = 5 then iS5 else iS6), ?_⟩
    intro k q hq
    match k, hq with
    | 0, hq => cases hq; exact hKn0
    | 1, hq => cases hq; exact hKn1
    | 2, hq => cases hq; exact hKn2
    | 3, hq => cases hq; exact hKn3
    | 4, hq => cases hq; exact hKn4
    | 5, hq => cases hq; exact hKn5
    | 6, hq => cases hq; exact hKn6
    | k + 7, hq => simp [classes] at hq
  obtain ⟨ca, hca⟩ : ∃ ca : Nat → ClassId, ∀ (k : Nat) (q : ClassId × FieldType), (TY ca)[k]? = some q → ArrOfT s q.1 q.2 ∧ va_RA s q.1 q.2 := by
    refine ⟨fun k => if k = 0 then ac0 else if k = 1 then ac1 else if k = 2 then ac2 else ac3, ?_⟩
    intro k q hq
    match k, hq with
    | 0, hq => cases hq; exact ⟨fun n z => ⟨fun k h => (by cases h), ak0, ag0, ap0, ah0⟩, af0⟩
    | 1, hq => cases hq; exact ⟨fun n z => ⟨fun k h => (by cases h), ak1, ag1, ap1, ah1⟩, af1⟩
    | 2, hq => cases hq; exact ⟨fun n z => ⟨fun k h => (by cases h), ak2, ag2, ap2, ah2⟩, af2⟩
    | 3, hq => cases hq; exact ⟨fun n z => ⟨fun k h => (by cases h), ak3, ag3, ap3, ah3⟩, af3⟩
    | k + 4, hq => simp [TY] at hq
  have hK : va_K D classes (TY ca) s := ⟨hKc, hca⟩
  have X : Cx p s m #[Value.ref b] meth c R_law code 4 ret D ca := ⟨hx, hb, hml, hr, hown, hts, hK, hlocks, hNW⟩
  have hS : va_S (fun q : Nat => s.heap.size ≤ q) s.heap s.heap [] := va_S.rf
  have hP : va_P D classes [] s.heap := fun k q h => by simp at h
  have hD : va_D (fun q : Nat => s.heap.size ≤ q) [] := ⟨fun i j p q h => by simp at h, fun k q h => by simp at h⟩
  have hl := lv_entry ([.ref b]) (n := 4) (Nat.le_of_ble_eq_true rfl)
  rw [lg_entry_eq]
  generalize (lg_sl ([.ref b]) ++ List.replicate (4 - (lg_sl ([.ref b])).length) Slot.unset).toArray = ls at hl ⊢
  have hl : lv_has ls 4 [(0, .ref b)] := hl
  refine va_new (ci := 5) (fs := [.null, .null, .null, .null, .null, .null, .null, .null, .null, .null, .null, .int 0, .int 0, .int 0, .int 0]) (C := R_Log) (T := F_Log) (N := 15) hx hb hts i_Log t_Log t_Log_ok hown (hts _ wk_law_7) (hts _ wi_law_7) (hts _ wj_law_7) hK hP hD hS hA rfl (fun j hj => by rcases (show j = 0 ∨ j = 1 ∨ j = 2 ∨ j = 3 ∨ j = 4 ∨ j = 5 ∨ j = 6 ∨ j = 7 ∨ j = 8 ∨ j = 9 ∨ j = 10 ∨ j = 11 ∨ j = 12 ∨ j = 13 ∨ j = 14 by omega) with rfl | rfl | rfl | rfl | rfl | rfl | rfl | rfl | rfl | rfl | rfl | rfl | rfl | rfl | rfl <;> rfl) (Nat.le_of_ble_eq_true rfl) (Nat.le_of_ble_eq_true rfl) d_law_0 (fun o0 H hP hD hS => ?_)
  replace hP : va_P D classes ([(o0, .inr (5, [.null, .null, .null, .null, .null, .null, .null, .null, .null, .null, .null, .int 0, .int 0, .int 0, .int 0]))]) H := hP
  replace hD : va_D (fun q : Nat => s.heap.size ≤ q) ([(o0, .inr (5, [.null, .null, .null, .null, .null, .null, .null, .null, .null, .null, .null, .int 0, .int 0, .int 0, .int 0]))]) := hD
  refine lv_dup hx hb d_law_3 rfl ?_
  refine lv_aload_n hx hb d_law_4 rfl (lv_at hl 0 rfl) ?_
  refine lv_iconst (v := 0) hx hb d_law_5 (by decide) ?_
  refine inv_cell (As := [.ref b, .int 0]) (rest := [.ref o0, .ref o0]) (v := .int (if Int32.ofNat L ≤ 0 then 0 else xs 0)) X (c_cell l b L _ xs) g_law_cell yo_Law_cell ⟨Nat.le_of_ble_eq_true rfl, Nat.le_of_ble_eq_true rfl⟩ hl hX hbl hbA hP hS hA rfl rfl (Nat.le_of_ble_eq_true rfl) ⟨Nat.le_of_ble_eq_true rfl, Nat.le_of_ble_eq_true rfl⟩ d_law_6 (fun H locs hP hS => ?_)
  refine inv_I (As := [.int (if Int32.ofNat L ≤ 0 then 0 else xs 0)]) (rest := [.ref o0]) (wr := []) X (c_Log_init l D ca o0 _ (if Int32.ofNat L ≤ 0 then 0 else xs 0) g hg) gi_law_15 rfl yo_Log_init.2 ⟨Nat.le_of_ble_eq_true rfl, Nat.le_of_ble_eq_true rfl⟩ hl hP hD [0] [] rfl rfl rfl (by decide) (by decide) hS hA rfl rfl (Nat.le_of_ble_eq_true rfl) ⟨Nat.le_of_ble_eq_true rfl, Nat.le_of_ble_eq_true rfl⟩ d_law_9 (fun ad0 H locs hP hD hS => ?_)
  replace hP : va_P D classes (wl_Log ca (fun k => if k = 0 then o0 else ad0 k) g) H := hP
  replace hD : va_D (fun q : Nat => s.heap.size ≤ q) (wl_Log ca (fun k => if k = 0 then o0 else ad0 k) g) := hD
  obtain ⟨ad, ead⟩ : ∃ f : Nat → Nat, f = fun k => if k = 0 then o0 else ad0 k := ⟨_, rfl⟩
  rw [← ead] at hP hD
  have h0ad : o0 = ad 0 := by rw [ead]; rfl
  rw [h0ad]
  refine lv_astore_n (lv' := [(1, .ref (ad 0)), (0, .ref b)]) hx hb d_law_12 rfl hl (by decide) rfl (fun ls hl => ?_)
  refine va_new (ci := 6) (fs := [.null, .int 0, .int 0, .int 0, .int 0, .null, .int 0, .null, .null, .null, .null, .null, .int 0, .null, .null, .null, .null, .null, .null, .null, .int 0, .null, .int 0, .int 0, .int 0, .null, .null, .null, .null]) (C := R_RRef) (T := F_RRef) (N := 29) hx hb hts i_RRef t_RRef t_RRef_ok hown (hts _ wk_law_18) (hts _ wi_law_18) (hts _ wj_law_18) hK hP hD hS hA rfl (fun j hj => by rcases (show j = 0 ∨ j = 1 ∨ j = 2 ∨ j = 3 ∨ j = 4 ∨ j = 5 ∨ j = 6 ∨ j = 7 ∨ j = 8 ∨ j = 9 ∨ j = 10 ∨ j = 11 ∨ j = 12 ∨ j = 13 ∨ j = 14 ∨ j = 15 ∨ j = 16 ∨ j = 17 ∨ j = 18 ∨ j = 19 ∨ j = 20 ∨ j = 21 ∨ j = 22 ∨ j = 23 ∨ j = 24 ∨ j = 25 ∨ j = 26 ∨ j = 27 ∨ j = 28 by omega) with rfl | rfl | rfl | rfl | rfl | rfl | rfl | rfl | rfl | rfl | rfl | rfl | rfl | rfl | rfl | rfl | rfl | rfl | rfl | rfl | rfl | rfl | rfl | rfl | rfl | rfl | rfl | rfl | rfl <;> rfl) (Nat.le_of_ble_eq_true rfl) (Nat.le_of_ble_eq_true rfl) d_law_13 (fun o1 H hP hD hS => ?_)
  replace hP : va_P D classes (wl_Log ca ad g ++ [(o1, .inr (6, [.null, .int 0, .int 0, .int 0, .int 0, .null, .int 0, .null, .null, .null, .null, .null, .int 0, .null, .null, .null, .null, .null, .null, .null, .int 0, .null, .int 0, .int 0, .int 0, .null, .null, .null, .null]))]) H := hP
  replace hD : va_D (fun q : Nat => s.heap.size ≤ q) (wl_Log ca ad g ++ [(o1, .inr (6, [.null, .int 0, .int 0, .int 0, .int 0, .null, .int 0, .null, .null, .null, .null, .null, .int 0, .null, .null, .null, .null, .null, .null, .null, .int 0, .null, .int 0, .int 0, .int 0, .null, .null, .null, .null]))]) := hD
  refine lv_dup hx hb d_law_16 rfl ?_
  refine lv_aload_n hx hb d_law_17 rfl (lv_at hl 1 rfl) ?_
  refine lv_iconst (v := 0) hx hb d_law_18 (by decide) ?_
  refine inv_cell (As := [.ref b, .int 0]) (rest := [.ref o1, .ref o1]) (v := .int (if Int32.ofNat L ≤ 0 then 0 else xs 0)) X (c_cell l b L _ xs) g_law_cell yo_Law_cell ⟨Nat.le_of_ble_eq_true rfl, Nat.le_of_ble_eq_true rfl⟩ hl hX hbl hbA hP hS hA rfl rfl (Nat.le_of_ble_eq_true rfl) ⟨Nat.le_of_ble_eq_true rfl, Nat.le_of_ble_eq_true rfl⟩ d_law_19 (fun H locs hP hS => ?_)
  refine inv_I (As := [.int (if Int32.ofNat L ≤ 0 then 0 else xs 0)]) (rest := [.ref o1]) (wr := wl_Log ca ad g) X (c_RRef_init l D ca o1 _ (if Int32.ofNat L ≤ 0 then 0 else xs 0) r hr0) gi_law_20 rfl yo_RRef_init.2 ⟨Nat.le_of_ble_eq_true rfl, Nat.le_of_ble_eq_true rfl⟩ hl hP hD [34] [0, 1, 2, 3, 4, 5, 6, 7, 8, 9, 10, 11, 12, 13, 14, 15, 16, 17, 18, 19, 20, 21, 22, 23, 24, 25, 26, 27, 28, 29, 30, 31, 32, 33] rfl rfl rfl (by decide) (by decide) hS hA rfl rfl (Nat.le_of_ble_eq_true rfl) ⟨Nat.le_of_ble_eq_true rfl, Nat.le_of_ble_eq_true rfl⟩ d_law_22 (fun bd0 H locs hP hD hS => ?_)
  replace hP : va_P D classes (wl_Log ca ad g ++ wl_Ref ca (fun k => if k = 0 then o1 else bd0 k) r) H := hP
  replace hD : va_D (fun q : Nat => s.heap.size ≤ q) (wl_Log ca ad g ++ wl_Ref ca (fun k => if k = 0 then o1 else bd0 k) r) := hD
  obtain ⟨bd, ebd⟩ : ∃ f : Nat → Nat, f = fun k => if k = 0 then o1 else bd0 k := ⟨_, rfl⟩
  rw [← ebd] at hP hD
  have h0bd : o1 = bd 0 := by rw [ebd]; rfl
  rw [h0bd]
  refine lv_astore_n (lv' := [(2, .ref (bd 0)), (1, .ref (ad 0)), (0, .ref b)]) hx hb d_law_25 rfl hl (by decide) rfl (fun ls hl => ?_)
  refine lv_iconst (v := 1) hx hb d_law_26 (by decide) ?_
  refine lv_istore_n (lv' := [(3, .int 1), (2, .ref (bd 0)), (1, .ref (ad 0)), (0, .ref b)]) hx hb d_law_27 rfl hl (by decide) rfl (fun ls hl => ?_)
  exact k_law X hX hbl n g r 1 hm _ _ hP hD hS ls (lv_sub hl [3, 2, 1, 0] rfl)
