-- ===== end of PART A; then your names; then what follows =====
/-! THE CLAIM OUT OF ONE WALK OF THE LAW'S BODY. Your part is whole_start (and what it stands on); all else here is the same for every law, but numbers. -/
def R_law : String := "MarkLogLaw"
def lw_P (b : Addr) (xs : List Int32) (args : Array Value) (s : State) : Prop := args = #[.ref b] ∧ s.IntsAt b xs ∧ xs.length ≤ 2049 ∧ (Jvm.Cond.and given_1 narrow_1).before args s = true
def lw_Q (_ : Array Value) (s : State) (o : Outcome) (t : State) : Prop := o = .returned (some (.int 1)) ∧ Framed s o t [] 600000 7302250
def lw_Z (below : List Frame) (a : Array Value) (s : State) : State → Prop := fun t => ∃ o, t.status = .running ∧ Ended t below o ∧ lw_Q a s o t
/-- the law's own end, with 1 on the stack, nothing written that was there before, its room as the claim has it -/
theorem lw_ret {p : Program} {l : Launch} {e : Env} {s : State} {m : MethodId} {below : List Frame} {meth : Method} {c : Code} {b : Nat} (hx : p.tables.exec = Jvm.exec) (hb : c.code = code) (hr : meth.sig.returnType = ret) (hlocks : meth.locks = false) {pc : Nat} {H : Heap} {ls : Array Slot} (hdg : decode code pc = .ok (.ireturn, 1)) : W p l e room_1 s m #[Value.ref b] below meth c H [] 600000 7302250 (lw_Z below #[Value.ref b] s) (F0 m pc ls [.int 1]) := by
  intro T hT X
  obtain ⟨fs, hret, hrun, hended, hW, hframe⟩ := X.leave (v := some (.int 1)) (hlocks := hlocks) (fun h => by rw [hr] at h; cases h)
  have hmeth' : T.vm.method? m = some meth := X.method'
  refine ⟨T.setFrames fs, ?_, .returned (some (.int 1)), hrun, hended, rfl, ⟨_, rfl⟩, hW, hframe⟩
  jvm_step X.here [X.here.top, hx, hb, hdg, hmeth', hr, ret, narrow_b1]
  (try refine ⟨rfl, ?_⟩); (try refine ⟨rfl, ?_⟩)
  first | (intro acts; rw [hret _ acts rfl rfl rfl]) | rw [hret _ _ rfl rfl rfl]
  exact Steps.refl _
/-- what holds at the law's entry: the machine, the code, the tables' words (any of lw_tbl by 'hts w (by decide +kernel)'), the script of L ints xs at the cell b, what the Statement gives of the start (any of its parts by flat_of_before) -/
def lw_At (p : Program) (s : State) (m : MethodId) (meth : Method) (c : Code) (b L : Nat) (xs : Nat → Int32) : Prop :=
  p.tables.exec = Jvm.exec ∧ c.code = code ∧ meth.sig.returnType = ret ∧ c.maxLocals = 4 ∧ s.vm.findClass R_law = some m.cls ∧ (∀ w ∈ lw_tbl, w.before #[Value.ref b] s = true) ∧ va_X b L xs s s.heap ∧ b < s.heap.size ∧ meth.locks = false ∧ (Jvm.Cond.and given_1 narrow_1).before #[Value.ref b] s = true

-- THE LAW: two systems side by side
theorem va_Pl {D : va_G} {cl : List vw_C} {wa wb : va_W} {H : Heap} (h : va_P D cl (wa ++ wb) H) : va_P D cl wa H := fun k q hk => h k q (by
  rw [List.getElem?_append_left (List.getElem?_eq_some_iff.mp hk).1]; exact hk)
theorem va_Pr {D : va_G} {cl : List vw_C} {wa wb : va_W} {H : Heap} (h : va_P D cl (wa ++ wb) H) : va_P D cl wb H := fun k q hk => h (wa.length + k) q (by
  rw [List.getElem?_append_right (Nat.le_add_right _ _), Nat.add_sub_cancel_left]; exact hk)
theorem va_Dl {A : Nat → Prop} {wa wb : va_W} (h : va_D A (wa ++ wb)) : va_D A wa :=
  ⟨fun i j p q h1 h2 e => h.1 i j p q (by rw [List.getElem?_append_left (List.getElem?_eq_some_iff.mp h1).1]; exact h1) (by rw [List.getElem?_append_left (List.getElem?_eq_some_iff.mp h2).1]; exact h2) e,
   fun k q hk => h.2 k q (by rw [List.getElem?_append_left (List.getElem?_eq_some_iff.mp hk).1]; exact hk)⟩
theorem va_Dr {A : Nat → Prop} {wa wb : va_W} (h : va_D A (wa ++ wb)) : va_D A wb :=
  ⟨fun i j p q h1 h2 e => Nat.add_left_cancel (h.1 (wa.length + i) (wa.length + j) p q (by rw [List.getElem?_append_right (Nat.le_add_right _ _), Nat.add_sub_cancel_left]; exact h1) (by rw [List.getElem?_append_right (Nat.le_add_right _ _), Nat.add_sub_cancel_left]; exact h2) e),
   fun k q hk => h.2 (wa.length + k) q (by rw [List.getElem?_append_right (Nat.le_add_right _ _), Nat.add_sub_cancel_left]; exact hk)⟩
theorem wadr {ws ws' : va_W} (hadr : ws'.map (fun q => q.1) = ws.map (fun q => q.1)) {k : Nat} {q : Nat × va_E} (h : ws'[k]? = some q) : ∃ q0, ws[k]? = some q0 ∧ q0.1 = q.1 := by
  have h3 := congrArg (fun l => l[k]?) hadr
  simp only [List.getElem?_map, h, Option.map_some] at h3
  cases hw : ws[k]? with
  | none => rw [hw] at h3; simp at h3
  | some q0 =>
    rw [hw] at h3
    simp only [Option.map_some, Option.some.injEq] at h3
    exact ⟨q0, rfl, h3.symm⟩
theorem va_Dadr {A : Nat → Prop} {ws ws' : va_W} (hD : va_D A ws) (hadr : ws'.map (fun q => q.1) = ws.map (fun q => q.1)) : va_D A ws' := by
  refine ⟨fun i j p q h1 h2 e => ?_, fun k q h => ?_⟩
  · obtain ⟨p0, a1, a2⟩ := wadr hadr h1
    obtain ⟨q0, b1, b2⟩ := wadr hadr h2
    exact hD.1 i j p0 q0 a1 b1 (by rw [a2, b2, e])
  · obtain ⟨q0, a1, a2⟩ := wadr hadr h
    exact a2 ▸ hD.2 k q0 a1
theorem jn_L {A0 : Nat → Prop} {D : va_G} {cl : List vw_C} {wa wb wa' : va_W} {H : Heap} (hP : va_P D cl (wa ++ wb) H) (hD : va_D A0 (wa ++ wb)) (hadr : wa'.map (fun q => q.1) = wa.map (fun q => q.1)) (H1 : Heap) (hk : ∀ q : Nat, q < H.size → ¬ va_A wa H.size q → H1[q]? = H[q]?) (hP1 : va_P D cl wa' H1) : va_P D cl (wa' ++ wb) H1 ∧ va_D A0 (wa' ++ wb) := by
  have hlen : wa'.length = wa.length := by
    have h2 := congrArg List.length hadr
    simp only [List.length_map] at h2
    exact h2
  refine ⟨fun k q h => ?_, va_Dadr hD (by rw [List.map_append, List.map_append, hadr])⟩
  rcases Nat.lt_or_ge k wa'.length with hl | hl
  · rw [List.getElem?_append_left hl] at h
    exact hP1 k q h
  · have h2 : (wa ++ wb)[k]? = some q := by
      rw [List.getElem?_append_right (by omega)] at h ⊢
      rw [← hlen]; exact h
    have hat := hP k q h2
    refine hat.kept (hk q.1 hat.lt ?_)
    rintro (⟨j, e, hj⟩ | hz)
    · have hjl : j < wa.length := (List.getElem?_eq_some_iff.mp hj).1
      have h4 : (wa ++ wb)[j]? = some (q.1, e) := by rw [List.getElem?_append_left hjl]; exact hj
      have h5 := hD.1 _ _ _ _ h4 h2 rfl
      omega
    · exact absurd hat.lt (Nat.not_lt.mpr hz)
theorem jn_R {A0 : Nat → Prop} {D : va_G} {cl : List vw_C} {wa wb wb' : va_W} {H : Heap} (hP : va_P D cl (wa ++ wb) H) (hD : va_D A0 (wa ++ wb)) (hadr : wb'.map (fun q => q.1) = wb.map (fun q => q.1)) (H1 : Heap) (hk : ∀ q : Nat, q < H.size → ¬ va_A wb H.size q → H1[q]? = H[q]?) (hP1 : va_P D cl wb' H1) : va_P D cl (wa ++ wb') H1 ∧ va_D A0 (wa ++ wb') := by
  refine ⟨fun k q h => ?_, va_Dadr hD (by rw [List.map_append, List.map_append, hadr])⟩
  rcases Nat.lt_or_ge k wa.length with hl | hl
  · have h2 : (wa ++ wb)[k]? = some q := by
      rw [List.getElem?_append_left hl] at h ⊢
      exact h
    have hat := hP k q h2
    refine hat.kept (hk q.1 hat.lt ?_)
    rintro (⟨j, e, hj⟩ | hz)
    · have h4 : (wa ++ wb)[wa.length + j]? = some (q.1, e) := by rw [List.getElem?_append_right (Nat.le_add_right _ _), Nat.add_sub_cancel_left]; exact hj
      have h5 := hD.1 _ _ _ _ h4 h2 rfl
      omega
    · exact absurd hat.lt (Nat.not_lt.mpr hz)
  · rw [List.getElem?_append_right hl] at h
    exact hP1 _ q h
section
variable {p : Program} {l : Launch} {e : Env} {R : Room} {s : State} {m : MethodId} {args : Array Value} {below : List Frame} {meth : Method} {c : Code} {H : Heap} {locs : List Loc} {cells slots : Nat} {Q : State → Prop} {own : String} {cc : ByteArray} {nL : Nat} {ret : Option FieldType} {D : va_G} {ca : Nat → ClassId} {A B : Nat → Prop} {pc : Nat} {ls : Array Slot} {lv : List (Nat × Value)} {ws ws' wc wc' : va_W} {rest st As : List Value} {v : Value}
theorem free_of {wx : va_W} (hD : va_D A wx) (hS : va_S A s.heap H locs) (hA : ∀ q, s.heap.size ≤ q → A q) : ∀ q, va_A wx H.size q → A q := by
  rintro q (⟨k, e, hke⟩ | z)
  · exact hD.2 k _ hke
  · exact hA _ (Nat.le_trans hS.1 z)
theorem aft_mg {a : Array Value} {vo : Option Value} (hr : va_Run p l e R s m args below meth c H locs cells slots 0 0 (F0 m pc ls st) rest (QRm D vo wc' (va_A wc H.size) a) (va_A wc H.size)) (hF : ∀ q, va_A wc H.size q → A q) (hj : ∀ H1 : Heap, (∀ q : Nat, q < H.size → ¬ va_A wc H.size q → H1[q]? = H[q]?) → va_P D classes wc' H1 → va_P D classes ws' H1 ∧ va_D A ws') (hS : va_S A s.heap H locs)
    (kk : ∀ (H1 : Heap) (locs1 : List Loc), va_P D classes ws' H1 → va_D A ws' → va_S A s.heap H1 locs1 → W p l e R s m args below meth c H1 locs1 cells slots Q (F0 m (pc + 3) ls (vo.toList ++ rest))) : W p l e R s m args below meth c H locs cells slots Q (F0 m pc ls st) := by
  intro T hT XX
  obtain ⟨v', st₀, t, T', L, h0, X', hL, e1, e2, ⟨hv, hp1, hz, hk⟩, stp⟩ := hr T hT XX
  cases hv
  rw [h0] at hz hk
  have hk' : ∀ q : Nat, q < H.size → ¬ va_A wc H.size q → T'.heap[q]? = H[q]? := fun q h1 h2 => by rw [e1]; exact hk q h1 h2
  have hz' : H.size ≤ T'.heap.size := by rw [e1]; exact hz
  have hS1 : va_S A s.heap T'.heap (locs ++ L) := ⟨Nat.le_trans hS.1 hz', fun q h1 h2 => by rw [hk' q (Nat.lt_of_lt_of_le h1 hS.1) (fun z => h2 (hF q z))]; exact hS.2.1 q h1 h2, fun q hq => by
    rcases List.mem_append.mp hq with h | h
    · exact hS.2.2 q h
    · exact hF _ (hL q h)⟩
  rw [← e1] at hp1
  obtain ⟨hP1, hD1⟩ := hj T'.heap hk' hp1
  obtain ⟨t2, a1, b1⟩ := kk T'.heap (locs ++ L) hP1 hD1 hS1 T' rfl X'
  exact ⟨t2, stp t2 a1, b1⟩
theorem inv_rVg {C : String} {y : MethodName} {cc' : ByteArray} {maxL' : Nat} {ret' : Option FieldType} {f' l' index n b ci N : Nat} {T : u_T} {fs : List Value} (X : Cx p s m args meth c own cc nL ret D ca)
    (hM : Met l y (cws y cc' maxL' ret') (RM f' l') (PreW D ca wc (.ref b :: As) H.size) (QRr v (va_A [] H.size)) 0 0 (va_A [] H.size)) (hw : CWV own index C y cc' maxL' ret') (hyo : y.cls = C ∧ YO y n) (hR : f' + 1 ≤ R.frames ∧ 8 + (maxL' + 11) + l' ≤ R.locals) (hl : lv_has ls nL lv)
    (hPc : va_P D classes wc H) (hDc : va_D B wc) (he : wc[0]? = some (b, .inr (ci, fs))) (hc : classes[ci]? = some (C, T, N)) (hP : va_P D classes ws H) (hS : va_S A s.heap H locs) (hA : ∀ q, s.heap.size ≤ q → A q) (hn : As.length = n) (hst : st = As.reverse ++ .ref b :: rest) (hrm : (rest.map fun v => v.category).sum ≤ 8) (hfit : cells + 0 ≤ R.cells ∧ slots + 0 ≤ R.slots) (hdg : decode cc pc = .ok (.invokevirtual index, 3))
    (kk : ∀ (H1 : Heap) (locs1 : List Loc), va_P D classes ws H1 → va_S A s.heap H1 locs1 → W p l e R s m args below meth c H1 locs1 cells slots Q (F0 m (pc + 3) ls (v :: rest))) : W p l e R s m args below meth c H locs cells slots Q (F0 m pc ls st) :=
  aft_r (va_runV (As := As) (rest := rest) (nL := nL) (Ts := ALL) ⟨X.1, X.2.1, X.2.2.1, X.2.2.2.2.1, X.2.2.2.2.2.1⟩ hM (cwV n X.2.2.2.2.2.1 (good_V hw) rfl rfl rfl hyo hR) (preV_all X hPc hDc he hc) rfl hn hl.1 hst (lv_room hrm) hdg hfit) hP hS hA kk
theorem inv_mVg {C : String} {y : MethodName} {cc' : ByteArray} {maxL' : Nat} {ret' : Option FieldType} {f' l' index n b ci N : Nat} {T : u_T} {fs : List Value} (X : Cx p s m args meth c own cc nL ret D ca)
    (hM : Met l y (cws y cc' maxL' ret') (RM f' l') (PreW D ca wc (.ref b :: As) H.size) (QRm D (some v) wc' (va_A wc H.size)) 0 0 (va_A wc H.size)) (hw : CWV own index C y cc' maxL' ret') (hyo : y.cls = C ∧ YO y n) (hR : f' + 1 ≤ R.frames ∧ 8 + (maxL' + 11) + l' ≤ R.locals) (hl : lv_has ls nL lv)
    (hPc : va_P D classes wc H) (hDc : va_D A wc) (hj : ∀ H1 : Heap, (∀ q : Nat, q < H.size → ¬ va_A wc H.size q → H1[q]? = H[q]?) → va_P D classes wc' H1 → va_P D classes ws' H1 ∧ va_D A ws') (he : wc[0]? = some (b, .inr (ci, fs))) (hc : classes[ci]? = some (C, T, N)) (hS : va_S A s.heap H locs) (hA : ∀ q, s.heap.size ≤ q → A q) (hn : As.length = n) (hst : st = As.reverse ++ .ref b :: rest) (hrm : (rest.map fun v => v.category).sum ≤ 8) (hfit : cells + 0 ≤ R.cells ∧ slots + 0 ≤ R.slots) (hdg : decode cc pc = .ok (.invokevirtual index, 3))
    (kk : ∀ (H1 : Heap) (locs1 : List Loc), va_P D classes ws' H1 → va_D A ws' → va_S A s.heap H1 locs1 → W p l e R s m args below meth c H1 locs1 cells slots Q (F0 m (pc + 3) ls (v :: rest))) : W p l e R s m args below meth c H locs cells slots Q (F0 m pc ls st) :=
  aft_mg (va_runV (As := As) (rest := rest) (nL := nL) (Ts := ALL) ⟨X.1, X.2.1, X.2.2.1, X.2.2.2.2.1, X.2.2.2.2.2.1⟩ hM (cwV n X.2.2.2.2.2.1 (good_V hw) rfl rfl rfl hyo hR) (preV_all X hPc hDc he hc) rfl hn hl.1 hst (lv_room hrm) hdg hfit) (free_of hDc hS hA) hj hS kk
/-- cell(script, k): the script is none of our cells -/
def PreX (b L : Nat) (xs : Nat → Int32) (as : List Value) (sz : Nat) : Array Value → State → Prop := va_Pc as (fun U => U.heap.size = sz ∧ va_X b L xs U U.heap ∧ b < sz)
theorem inv_cell {y : MethodName} {cc' : ByteArray} {maxL' : Nat} {ret' : Option FieldType} {f' l' index n b L : Nat} {xs : Nat → Int32} (X : Cx p s m args meth c own cc nL ret D ca)
    (hM : Met l y (cws y cc' maxL' ret') (RM f' l') (PreX b L xs As H.size) (QRr v (va_A [] H.size)) 0 0 (va_A [] H.size)) (hw : CWS own index y cc' maxL' ret') (hyo : y.cls = own ∧ YO y n) (hR : f' + 1 ≤ R.frames ∧ 8 + (maxL' + 11) + l' ≤ R.locals) (hl : lv_has ls nL lv)
    (hX : va_X b L xs s s.heap) (hbl : b < s.heap.size) (hbA : ¬ A b) (hP : va_P D classes ws H) (hS : va_S A s.heap H locs) (hA : ∀ q, s.heap.size ≤ q → A q) (hn : As.length = n) (hst : st = As.reverse ++ rest) (hrm : (rest.map fun v => v.category).sum ≤ 8) (hfit : cells + 0 ≤ R.cells ∧ slots + 0 ≤ R.slots) (hdg : decode cc pc = .ok (.invokestatic index, 3))
    (kk : ∀ (H1 : Heap) (locs1 : List Loc), va_P D classes ws H1 → va_S A s.heap H1 locs1 → W p l e R s m args below meth c H1 locs1 cells slots Q (F0 m (pc + 3) ls (v :: rest))) : W p l e R s m args below meth c H locs cells slots Q (F0 m pc ls st) := by
  have hXH : va_X b L xs s H := hX.kept (hS.2.1 b hbl hbA)
  have hbH : b < H.size := Nat.lt_of_lt_of_le hbl hS.1
  refine aft_r (va_runS (As := As) (rest := rest) (nL := nL) (Ts := ALL) ⟨X.1, X.2.1, X.2.2.1, X.2.2.2.2.1, X.2.2.2.2.2.1⟩ hM (cwS n X.2.2.2.2.2.1 (good_S hw) rfl rfl rfl hyo hR) ⟨?_, fun U hU hW => ⟨rfl, by rw [hU], by rw [hU]; exact va_X.moved hW.alike hXH, hbH⟩⟩ rfl hn hl.1 hst (lv_room hrm) hdg hfit) hP hS hA kk
  intro a U g mk q
  obtain ⟨q0, q1, qX, qb⟩ := q
  exact ⟨q0, q1, va_X.moved (u := U) (U := U.calling g mk a) (Vm.Alike.refl U.vm) qX, qb⟩
end

def y_Law_cell : MethodName := ⟨R_law, "cell", "([II)I"⟩
abbrev b_Law_cell : ByteArray := method_2_code
theorem yo_Law_cell : y_Law_cell.cls = R_law ∧ YO y_Law_cell 2 := ⟨rfl, by decide +kernel, by decide +kernel, by decide +kernel⟩
set_option maxRecDepth 100000 in
theorem g_law_cell : CWS R_law 9 y_Law_cell b_Law_cell 2 (some .int) := ⟨ALL_of (i := 787) rfl rfl, ALL_of (i := 788) rfl rfl, ALL_of (i := 78) rfl rfl, ALL_of (i := 789) rfl rfl⟩
theorem d_cell_0 : decode b_Law_cell 0 = .ok (.iload_n 1, 1) := by decide +kernel
theorem d_cell_1 : decode b_Law_cell 1 = .ok (.aload_n 0, 1) := by decide +kernel
theorem d_cell_2 : decode b_Law_cell 2 = .ok (.arraylength, 1) := by decide +kernel
theorem d_cell_3 : decode b_Law_cell 3 = .ok (.if_icmp .ge 9, 3) := by decide +kernel
theorem d_cell_6 : decode b_Law_cell 6 = .ok (.aload_n 0, 1) := by decide +kernel
theorem d_cell_7 : decode b_Law_cell 7 = .ok (.iload_n 1, 1) := by decide +kernel
theorem d_cell_8 : decode b_Law_cell 8 = .ok (.iaload, 1) := by decide +kernel
theorem d_cell_9 : decode b_Law_cell 9 = .ok (.goto 4, 3) := by decide +kernel
theorem d_cell_12 : decode b_Law_cell 12 = .ok (.iconst 0, 1) := by decide +kernel
theorem d_cell_13 : decode b_Law_cell 13 = .ok (.ireturn, 1) := by decide +kernel
set_option maxRecDepth 100000 in
theorem wc_law_21 : (Jvm.Cond.constantLong "MarkLogLaw" (21 : Nat) (4294967295 : Int64)) ∈ ALL := ALL_of (i := 1138) rfl rfl
set_option maxRecDepth 100000 in
theorem g_law_23 : CWV R_law 23 R_Log y_Log_feed b_Log_feed 5 (some .int) := ⟨ALL_of (i := 251) rfl rfl, ALL_of (i := 252) rfl rfl, ALL_of (i := 253) rfl rfl, ALL_of (i := 79) rfl rfl, ALL_of (i := 254) rfl rfl⟩
set_option maxRecDepth 100000 in
theorem g_law_27 : CWV R_law 27 R_RRef y_RRef_feed b_RRef_feed 5 (some .int) := ⟨ALL_of (i := 946) rfl rfl, ALL_of (i := 947) rfl rfl, ALL_of (i := 948) rfl rfl, ALL_of (i := 86) rfl rfl, ALL_of (i := 949) rfl rfl⟩
set_option maxRecDepth 100000 in
theorem g_law_28 : CWV R_law 28 R_Log y_Log_wipe b_Log_wipe 2 (some .int) := ⟨ALL_of (i := 271) rfl rfl, ALL_of (i := 272) rfl rfl, ALL_of (i := 273) rfl rfl, ALL_of (i := 79) rfl rfl, ALL_of (i := 274) rfl rfl⟩
set_option maxRecDepth 100000 in
theorem g_law_32 : CWV R_law 32 R_RRef y_RRef_wipe b_RRef_wipe 2 (some .int) := ⟨ALL_of (i := 953) rfl rfl, ALL_of (i := 954) rfl rfl, ALL_of (i := 955) rfl rfl, ALL_of (i := 86) rfl rfl, ALL_of (i := 956) rfl rfl⟩
set_option maxRecDepth 100000 in
theorem g_law_33 : CWV R_law 33 R_Log y_Log_part b_Log_part 5 (some .int) := ⟨ALL_of (i := 279) rfl rfl, ALL_of (i := 280) rfl rfl, ALL_of (i := 281) rfl rfl, ALL_of (i := 79) rfl rfl, ALL_of (i := 282) rfl rfl⟩
set_option maxRecDepth 100000 in
theorem g_law_37 : CWV R_law 37 R_RRef y_RRef_part b_RRef_part 6 (some .int) := ⟨ALL_of (i := 957) rfl rfl, ALL_of (i := 958) rfl rfl, ALL_of (i := 959) rfl rfl, ALL_of (i := 86) rfl rfl, ALL_of (i := 960) rfl rfl⟩
set_option maxRecDepth 100000 in
theorem g_law_38 : CWV R_law 38 R_Log y_Log_mark b_Log_mark 2 (some .int) := ⟨ALL_of (i := 369) rfl rfl, ALL_of (i := 370) rfl rfl, ALL_of (i := 371) rfl rfl, ALL_of (i := 79) rfl rfl, ALL_of (i := 372) rfl rfl⟩
set_option maxRecDepth 100000 in
theorem g_law_42 : CWV R_law 42 R_RRef y_RRef_mark b_RRef_mark 4 (some .int) := ⟨ALL_of (i := 993) rfl rfl, ALL_of (i := 994) rfl rfl, ALL_of (i := 995) rfl rfl, ALL_of (i := 86) rfl rfl, ALL_of (i := 996) rfl rfl⟩
set_option maxRecDepth 100000 in
theorem g_law_43 : CWV R_law 43 R_Log y_Log_keep b_Log_keep 9 (some .int) := ⟨ALL_of (i := 411) rfl rfl, ALL_of (i := 412) rfl rfl, ALL_of (i := 413) rfl rfl, ALL_of (i := 79) rfl rfl, ALL_of (i := 414) rfl rfl⟩
set_option maxRecDepth 100000 in
theorem g_law_46 : CWV R_law 46 R_RRef y_RRef_keep b_RRef_keep 8 (some .int) := ⟨ALL_of (i := 1010) rfl rfl, ALL_of (i := 1011) rfl rfl, ALL_of (i := 1012) rfl rfl, ALL_of (i := 86) rfl rfl, ALL_of (i := 1013) rfl rfl⟩
set_option maxRecDepth 100000 in
theorem g_law_47 : CWV R_law 47 R_Log y_Log_give b_Log_give 3 (some .int) := ⟨ALL_of (i := 472) rfl rfl, ALL_of (i := 473) rfl rfl, ALL_of (i := 474) rfl rfl, ALL_of (i := 79) rfl rfl, ALL_of (i := 475) rfl rfl⟩
set_option maxRecDepth 100000 in
theorem g_law_50 : CWV R_law 50 R_RRef y_RRef_give b_RRef_give 3 (some .int) := ⟨ALL_of (i := 1014) rfl rfl, ALL_of (i := 1015) rfl rfl, ALL_of (i := 1016) rfl rfl, ALL_of (i := 86) rfl rfl, ALL_of (i := 1017) rfl rfl⟩
set_option maxRecDepth 100000 in
theorem g_law_51 : CWV R_law 51 R_Log y_Log_owner b_Log_owner 2 (some .int) := ⟨ALL_of (i := 476) rfl rfl, ALL_of (i := 477) rfl rfl, ALL_of (i := 478) rfl rfl, ALL_of (i := 79) rfl rfl, ALL_of (i := 479) rfl rfl⟩
set_option maxRecDepth 100000 in
theorem g_law_54 : CWV R_law 54 R_RRef y_RRef_owner b_RRef_owner 3 (some .int) := ⟨ALL_of (i := 1022) rfl rfl, ALL_of (i := 1023) rfl rfl, ALL_of (i := 1024) rfl rfl, ALL_of (i := 86) rfl rfl, ALL_of (i := 1025) rfl rfl⟩
set_option maxRecDepth 100000 in
theorem g_law_55 : CWV R_law 55 R_Log y_Log_drop b_Log_drop 4 (some .int) := ⟨ALL_of (i := 486) rfl rfl, ALL_of (i := 487) rfl rfl, ALL_of (i := 488) rfl rfl, ALL_of (i := 79) rfl rfl, ALL_of (i := 489) rfl rfl⟩
set_option maxRecDepth 100000 in
theorem g_law_58 : CWV R_law 58 R_RRef y_RRef_drop b_RRef_drop 8 (some .int) := ⟨ALL_of (i := 1027) rfl rfl, ALL_of (i := 1028) rfl rfl, ALL_of (i := 1029) rfl rfl, ALL_of (i := 86) rfl rfl, ALL_of (i := 1030) rfl rfl⟩
set_option maxRecDepth 100000 in
theorem g_law_59 : CWV R_law 59 R_Log y_Log_cut b_Log_cut 2 (some .boolean) := ⟨ALL_of (i := 545) rfl rfl, ALL_of (i := 546) rfl rfl, ALL_of (i := 547) rfl rfl, ALL_of (i := 79) rfl rfl, ALL_of (i := 548) rfl rfl⟩
set_option maxRecDepth 100000 in
theorem g_law_63 : CWV R_law 63 R_RRef y_RRef_cut b_RRef_cut 2 (some .boolean) := ⟨ALL_of (i := 1047) rfl rfl, ALL_of (i := 1048) rfl rfl, ALL_of (i := 1049) rfl rfl, ALL_of (i := 86) rfl rfl, ALL_of (i := 1050) rfl rfl⟩
set_option maxRecDepth 100000 in
theorem g_law_64 : CWV R_law 64 R_Log y_Log_close b_Log_close 2 (some .boolean) := ⟨ALL_of (i := 553) rfl rfl, ALL_of (i := 554) rfl rfl, ALL_of (i := 555) rfl rfl, ALL_of (i := 79) rfl rfl, ALL_of (i := 556) rfl rfl⟩
set_option maxRecDepth 100000 in
theorem g_law_68 : CWV R_law 68 R_RRef y_RRef_close b_RRef_close 2 (some .boolean) := ⟨ALL_of (i := 1051) rfl rfl, ALL_of (i := 1052) rfl rfl, ALL_of (i := 1053) rfl rfl, ALL_of (i := 86) rfl rfl, ALL_of (i := 1054) rfl rfl⟩
set_option maxRecDepth 100000 in
theorem g_law_69 : CWV R_law 69 R_Log y_Log_open_ b_Log_open_ 3 (some .int) := ⟨ALL_of (i := 557) rfl rfl, ALL_of (i := 558) rfl rfl, ALL_of (i := 559) rfl rfl, ALL_of (i := 79) rfl rfl, ALL_of (i := 560) rfl rfl⟩
set_option maxRecDepth 100000 in
theorem g_law_72 : CWV R_law 72 R_RRef y_RRef_open_ b_RRef_open_ 4 (some .int) := ⟨ALL_of (i := 884) rfl rfl, ALL_of (i := 885) rfl rfl, ALL_of (i := 886) rfl rfl, ALL_of (i := 86) rfl rfl, ALL_of (i := 887) rfl rfl⟩
set_option maxRecDepth 100000 in
theorem g_law_73 : CWV R_law 73 R_Log y_Log_usable b_Log_usable 2 (some .int) := ⟨ALL_of (i := 617) rfl rfl, ALL_of (i := 618) rfl rfl, ALL_of (i := 619) rfl rfl, ALL_of (i := 79) rfl rfl, ALL_of (i := 620) rfl rfl⟩
set_option maxRecDepth 100000 in
theorem g_law_76 : CWV R_law 76 R_RRef y_RRef_usable b_RRef_usable 3 (some .int) := ⟨ALL_of (i := 1055) rfl rfl, ALL_of (i := 1056) rfl rfl, ALL_of (i := 1057) rfl rfl, ALL_of (i := 86) rfl rfl, ALL_of (i := 1058) rfl rfl⟩
set_option maxRecDepth 100000 in
theorem g_law_77 : CWV R_law 77 R_Log y_Log_whole b_Log_whole 2 (some .int) := ⟨ALL_of (i := 641) rfl rfl, ALL_of (i := 642) rfl rfl, ALL_of (i := 643) rfl rfl, ALL_of (i := 79) rfl rfl, ALL_of (i := 644) rfl rfl⟩
set_option maxRecDepth 100000 in
theorem g_law_80 : CWV R_law 80 R_RRef y_RRef_whole b_RRef_whole 3 (some .int) := ⟨ALL_of (i := 1071) rfl rfl, ALL_of (i := 1072) rfl rfl, ALL_of (i := 1073) rfl rfl, ALL_of (i := 86) rfl rfl, ALL_of (i := 1074) rfl rfl⟩
set_option maxRecDepth 100000 in
theorem g_law_81 : CWV R_law 81 R_Log y_Log_marks b_Log_marks 2 (some .int) := ⟨ALL_of (i := 657) rfl rfl, ALL_of (i := 658) rfl rfl, ALL_of (i := 659) rfl rfl, ALL_of (i := 79) rfl rfl, ALL_of (i := 660) rfl rfl⟩
set_option maxRecDepth 100000 in
theorem g_law_84 : CWV R_law 84 R_RRef y_RRef_marks b_RRef_marks 6 (some .int) := ⟨ALL_of (i := 1075) rfl rfl, ALL_of (i := 1076) rfl rfl, ALL_of (i := 1077) rfl rfl, ALL_of (i := 86) rfl rfl, ALL_of (i := 1078) rfl rfl⟩
set_option maxRecDepth 100000 in
theorem g_law_85 : CWV R_law 85 R_Log y_Log_markOf b_Log_markOf 5 (some .int) := ⟨ALL_of (i := 661) rfl rfl, ALL_of (i := 662) rfl rfl, ALL_of (i := 663) rfl rfl, ALL_of (i := 79) rfl rfl, ALL_of (i := 664) rfl rfl⟩
set_option maxRecDepth 100000 in
theorem g_law_89 : CWV R_law 89 R_RRef y_RRef_markOf b_RRef_markOf 4 (some .int) := ⟨ALL_of (i := 1079) rfl rfl, ALL_of (i := 1080) rfl rfl, ALL_of (i := 1081) rfl rfl, ALL_of (i := 86) rfl rfl, ALL_of (i := 1082) rfl rfl⟩
set_option maxRecDepth 100000 in
theorem g_law_90 : CWV R_law 90 R_Log y_Log_partOf b_Log_partOf 4 (some .long) := ⟨ALL_of (i := 665) rfl rfl, ALL_of (i := 666) rfl rfl, ALL_of (i := 667) rfl rfl, ALL_of (i := 79) rfl rfl, ALL_of (i := 668) rfl rfl⟩
set_option maxRecDepth 100000 in
theorem g_law_94 : CWV R_law 94 R_RRef y_RRef_partOf b_RRef_partOf 4 (some .long) := ⟨ALL_of (i := 1083) rfl rfl, ALL_of (i := 1084) rfl rfl, ALL_of (i := 1085) rfl rfl, ALL_of (i := 86) rfl rfl, ALL_of (i := 1086) rfl rfl⟩
set_option maxRecDepth 100000 in
theorem g_law_95 : CWV R_law 95 R_Log y_Log_partByte b_Log_partByte 4 (some .int) := ⟨ALL_of (i := 681) rfl rfl, ALL_of (i := 682) rfl rfl, ALL_of (i := 683) rfl rfl, ALL_of (i := 79) rfl rfl, ALL_of (i := 684) rfl rfl⟩
set_option maxRecDepth 100000 in
theorem g_law_98 : CWV R_law 98 R_RRef y_RRef_partByte b_RRef_partByte 4 (some .int) := ⟨ALL_of (i := 1090) rfl rfl, ALL_of (i := 1091) rfl rfl, ALL_of (i := 1092) rfl rfl, ALL_of (i := 86) rfl rfl, ALL_of (i := 1093) rfl rfl⟩
set_option maxRecDepth 100000 in
theorem g_law_99 : CWV R_law 99 R_Log y_Log_named b_Log_named 2 (some .int) := ⟨ALL_of (i := 689) rfl rfl, ALL_of (i := 690) rfl rfl, ALL_of (i := 691) rfl rfl, ALL_of (i := 79) rfl rfl, ALL_of (i := 692) rfl rfl⟩
set_option maxRecDepth 100000 in
theorem g_law_102 : CWV R_law 102 R_RRef y_RRef_named b_RRef_named 2 (some .int) := ⟨ALL_of (i := 1098) rfl rfl, ALL_of (i := 1099) rfl rfl, ALL_of (i := 1100) rfl rfl, ALL_of (i := 86) rfl rfl, ALL_of (i := 1101) rfl rfl⟩
set_option maxRecDepth 100000 in
theorem g_law_103 : CWV R_law 103 R_Log y_Log_badAt b_Log_badAt 3 (some .int) := ⟨ALL_of (i := 693) rfl rfl, ALL_of (i := 694) rfl rfl, ALL_of (i := 695) rfl rfl, ALL_of (i := 79) rfl rfl, ALL_of (i := 696) rfl rfl⟩
set_option maxRecDepth 100000 in
theorem g_law_106 : CWV R_law 106 R_RRef y_RRef_badAt b_RRef_badAt 5 (some .int) := ⟨ALL_of (i := 1102) rfl rfl, ALL_of (i := 1103) rfl rfl, ALL_of (i := 1104) rfl rfl, ALL_of (i := 86) rfl rfl, ALL_of (i := 1105) rfl rfl⟩
set_option maxRecDepth 100000 in
theorem g_law_107 : CWV R_law 107 R_Log y_Log_poke b_Log_poke 4 (some .int) := ⟨ALL_of (i := 701) rfl rfl, ALL_of (i := 702) rfl rfl, ALL_of (i := 703) rfl rfl, ALL_of (i := 79) rfl rfl, ALL_of (i := 704) rfl rfl⟩
set_option maxRecDepth 100000 in
theorem g_law_111 : CWV R_law 111 R_RRef y_RRef_poke b_RRef_poke 4 (some .int) := ⟨ALL_of (i := 1106) rfl rfl, ALL_of (i := 1107) rfl rfl, ALL_of (i := 1108) rfl rfl, ALL_of (i := 86) rfl rfl, ALL_of (i := 1109) rfl rfl⟩
set_option maxRecDepth 100000 in
theorem g_law_112 : CWV R_law 112 R_Log y_Log_byteAt b_Log_byteAt 3 (some .int) := ⟨ALL_of (i := 710) rfl rfl, ALL_of (i := 711) rfl rfl, ALL_of (i := 712) rfl rfl, ALL_of (i := 79) rfl rfl, ALL_of (i := 713) rfl rfl⟩
set_option maxRecDepth 100000 in
theorem g_law_115 : CWV R_law 115 R_RRef y_RRef_byteAt b_RRef_byteAt 3 (some .int) := ⟨ALL_of (i := 1110) rfl rfl, ALL_of (i := 1111) rfl rfl, ALL_of (i := 1112) rfl rfl, ALL_of (i := 86) rfl rfl, ALL_of (i := 1113) rfl rfl⟩
set_option maxRecDepth 100000 in
theorem g_law_116 : CWV R_law 116 R_Log y_Log_out b_Log_out 3 (some .int) := ⟨ALL_of (i := 730) rfl rfl, ALL_of (i := 731) rfl rfl, ALL_of (i := 732) rfl rfl, ALL_of (i := 79) rfl rfl, ALL_of (i := 733) rfl rfl⟩
set_option maxRecDepth 100000 in
theorem g_law_119 : CWV R_law 119 R_RRef y_RRef_out b_RRef_out 5 (some .int) := ⟨ALL_of (i := 1114) rfl rfl, ALL_of (i := 1115) rfl rfl, ALL_of (i := 1116) rfl rfl, ALL_of (i := 86) rfl rfl, ALL_of (i := 1117) rfl rfl⟩
set_option maxRecDepth 100000 in
theorem g_law_120 : CWV R_law 120 R_Log y_Log_in_ b_Log_in_ 3 (some .int) := ⟨ALL_of (i := 743) rfl rfl, ALL_of (i := 744) rfl rfl, ALL_of (i := 745) rfl rfl, ALL_of (i := 79) rfl rfl, ALL_of (i := 746) rfl rfl⟩
set_option maxRecDepth 100000 in
theorem g_law_123 : CWV R_law 123 R_RRef y_RRef_in_ b_RRef_in_ 8 (some .int) := ⟨ALL_of (i := 1122) rfl rfl, ALL_of (i := 1123) rfl rfl, ALL_of (i := 1124) rfl rfl, ALL_of (i := 86) rfl rfl, ALL_of (i := 1125) rfl rfl⟩
set_option maxRecDepth 100000 in
theorem g_law_124 : CWV R_law 124 R_Log y_Log_equal b_Log_equal 3 (some .int) := ⟨ALL_of (i := 779) rfl rfl, ALL_of (i := 780) rfl rfl, ALL_of (i := 781) rfl rfl, ALL_of (i := 79) rfl rfl, ALL_of (i := 782) rfl rfl⟩
set_option maxRecDepth 100000 in
theorem g_law_127 : CWV R_law 127 R_RRef y_RRef_equal b_RRef_equal 10 (some .int) := ⟨ALL_of (i := 1130) rfl rfl, ALL_of (i := 1131) rfl rfl, ALL_of (i := 1132) rfl rfl, ALL_of (i := 86) rfl rfl, ALL_of (i := 1133) rfl rfl⟩
set_option maxRecDepth 100000 in
theorem g_law_128 : CWV R_law 128 R_Log y_Log_told b_Log_told 2 (some .int) := ⟨ALL_of (i := 714) rfl rfl, ALL_of (i := 715) rfl rfl, ALL_of (i := 716) rfl rfl, ALL_of (i := 79) rfl rfl, ALL_of (i := 717) rfl rfl⟩
set_option maxRecDepth 100000 in
theorem g_law_131 : CWV R_law 131 R_RRef y_RRef_told b_RRef_told 4 (some .int) := ⟨ALL_of (i := 1134) rfl rfl, ALL_of (i := 1135) rfl rfl, ALL_of (i := 1136) rfl rfl, ALL_of (i := 86) rfl rfl, ALL_of (i := 1137) rfl rfl⟩
set_option maxRecDepth 100000 in
theorem gi_law_15 : Cond.methodLink R_law 15 y_Log_init ∈ ALL ∧ Cond.instanceMethod y_Log_init ∈ ALL ∧ Cond.initialized y_Log_init.cls ∈ ALL ∧ Cond.code y_Log_init b_Log_init 2 none ∈ ALL := ⟨ALL_of (i := 89) rfl rfl, ALL_of (i := 90) rfl rfl, ALL_of (i := 79) rfl rfl, ALL_of (i := 91) rfl rfl⟩
set_option maxRecDepth 100000 in
theorem wk_law_7 : (Jvm.Cond.classLink "MarkLogLaw" (7 : Nat) "MarkLog") ∈ ALL := ALL_of (i := 87) rfl rfl
set_option maxRecDepth 100000 in
theorem wi_law_7 : (Jvm.Cond.instantiable "MarkLog" (15 : Nat)) ∈ ALL := ALL_of (i := 88) rfl rfl
set_option maxRecDepth 100000 in
theorem wj_law_7 : (Jvm.Cond.initialized "MarkLog") ∈ ALL := ALL_of (i := 79) rfl rfl
set_option maxRecDepth 100000 in
theorem gi_law_20 : Cond.methodLink R_law 20 y_RRef_init ∈ ALL ∧ Cond.instanceMethod y_RRef_init ∈ ALL ∧ Cond.initialized y_RRef_init.cls ∈ ALL ∧ Cond.code y_RRef_init b_RRef_init 2 none ∈ ALL := ⟨ALL_of (i := 792) rfl rfl, ALL_of (i := 793) rfl rfl, ALL_of (i := 86) rfl rfl, ALL_of (i := 794) rfl rfl⟩
set_option maxRecDepth 100000 in
theorem wk_law_18 : (Jvm.Cond.classLink "MarkLogLaw" (18 : Nat) "MarkLogModel") ∈ ALL := ALL_of (i := 790) rfl rfl
set_option maxRecDepth 100000 in
theorem wi_law_18 : (Jvm.Cond.instantiable "MarkLogModel" (29 : Nat)) ∈ ALL := ALL_of (i := 791) rfl rfl
set_option maxRecDepth 100000 in
theorem wj_law_18 : (Jvm.Cond.initialized "MarkLogModel") ∈ ALL := ALL_of (i := 86) rfl rfl
