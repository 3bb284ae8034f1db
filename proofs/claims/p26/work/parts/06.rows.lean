-- OWN ROWS: one context for a method's walk (Cx), contracts of readers and of writers, calls, returns
abbrev AI : Type := Nat × (Nat → Int32)
abbrev AL : Type := Nat × (Nat → Int64)
abbrev RM (f lo : Nat) : Room := { frames := f, cells := 0, slots := 0, locals := lo }
abbrev TY (ca : Nat → ClassId) : List (ClassId × FieldType) := [(ca 0, .byte), (ca 1, .boolean), (ca 2, .int), (ca 3, .long)]
abbrev cws (y : MethodName) (cc : ByteArray) (maxL : Nat) (ret : Option FieldType) : List Cond := Cond.code y cc maxL ret :: ALL
abbrev wl_AI (cA : ClassId) (a0 : Nat) (x : AI) : va_W := [(a0, .inl (cA, x.1, .inl x.2))]
abbrev wl_AL (cA : ClassId) (a0 : Nat) (x : AL) : va_W := [(a0, .inl (cA, x.1, .inr (.inl x.2)))]
def jmax (x y : Int32) : Int32 := if x < y then y else x
def jmin (x y : Int32) : Int32 := if y < x then y else x
def jrem (x y : Int32) : Int32 := x - x / y * y
def jshl (x y : Int32) : Int32 := x <<< (y &&& 31)
def jshr (x y : Int32) : Int32 := x >>> (y &&& 31)
def jiushr (x y : Int32) : Int32 := (x.toUInt32 >>> (y.toUInt32 &&& Int32.toUInt32 31)).toInt32
def jlushr (x : Int64) (y : Int32) : Int64 := (x.toUInt64 >>> (y.toInt64.toUInt64 &&& Int64.toUInt64 63)).toInt64
def jlshl (x : Int64) (y : Int32) : Int64 := x <<< (y.toInt64 &&& 63)
def jlshr (x : Int64) (y : Int32) : Int64 := x >>> (y.toInt64 &&& 63)
/-- fuel of every loop, as large as any loop here needs, and stuck -/
noncomputable def FU : Nat := Classical.choose (⟨1048576, Nat.le_refl _⟩ : ∃ n : Nat, 1048576 ≤ n)
theorem FU_ge : 1048576 ≤ FU := Classical.choose_spec (⟨1048576, Nat.le_refl _⟩ : ∃ n : Nat, 1048576 ≤ n)
theorem ob {α β : Type} {o : Option α} {f : α → Option β} {b : β} (h : o.bind f = some b) : ∃ a, o = some a ∧ f a = some b := by
  cases o with
  | none => cases h
  | some a => exact ⟨a, rfl, h⟩
theorem on {α : Type} {c : Prop} {dc : Decidable c} {a : Option α} {b : α} (h : @ite (Option α) c dc none a = some b) : ¬ c ∧ a = some b := by
  by_cases hc : c
  · rw [if_pos hc] at h; cases h
  · rw [if_neg hc] at h; exact ⟨hc, h⟩
theorem ip {α : Type} {c : Prop} {dc : Decidable c} {a b : Option α} {r : α} (hc : c) (h : @ite (Option α) c dc a b = some r) : a = some r := by
  rw [if_pos hc] at h; exact h
theorem ineg {α : Type} {c : Prop} {dc : Decidable c} {a b : Option α} {r : α} (hc : ¬ c) (h : @ite (Option α) c dc a b = some r) : b = some r := by
  rw [if_neg hc] at h; exact h
theorem nz {v : Int32} (h : ¬ ¬ (v = 0 ∨ v = 1)) : narrow .boolean (.int v) = .int v ∧ fits .boolean (.int v) = true := by
  rcases Classical.not_not.mp h with rfl | rfl
  · exact ⟨rfl, rfl⟩
  · exact ⟨rfl, rfl⟩
/-- the nest mates' links: not among the words that a call keeps by itself -/
def NW (U : State) : Prop := ∀ w ∈ NL, va_Nw w U
theorem NW.same {u U : State} (hN : NW u) (h : u.vm = U.vm) : NW U := fun w hw => by
  obtain ⟨a, i, x, h9, rfl⟩ := NL_is w hw
  exact va_Nw.same rfl h (hN _ hw)
theorem NW.warm {s U : State} (hN : NW s) (hW : s.WarmedH U.vm) : NW U := fun w hw => by
  obtain ⟨a, i, x, h9, rfl⟩ := NL_is w hw
  exact va_Nw.warmM hW (hN _ hw)
theorem nz0 : narrow .boolean (.int 0) = .int 0 := rfl
theorem nz1 : narrow .boolean (.int 1) = .int 1 := rfl
def PreW (D : va_G) (ca : Nat → ClassId) (wc : va_W) (as : List Value) (sz : Nat) : Array Value → State → Prop := va_Pc as (fun U => U.heap.size = sz ∧ va_P D classes wc U.heap ∧ va_K D classes (TY ca) U ∧ va_D (fun _ => True) wc ∧ NW U)
/-- a reader's end: this answer, nothing old has changed -/
def QRr (v : Value) (A : Nat → Prop) : Array Value → State → Outcome → State → Prop := fun _ st oc t => oc = .returned (some v) ∧ va_F A st t
/-- a writer's end: this answer, its cells hold ws', nothing else has changed -/
def QRm (D : va_G) (v : Option Value) (ws' : va_W) (A : Nat → Prop) : Array Value → State → Outcome → State → Prop := fun _ st oc t => oc = .returned v ∧ va_P D classes ws' t.heap ∧ va_F A st t
def Cx (p : Program) (s : State) (m : MethodId) (args : Array Value) (meth : Method) (c : Code) (own : String) (cc : ByteArray) (nL : Nat) (ret : Option FieldType) (D : va_G) (ca : Nat → ClassId) : Prop :=
  p.tables.exec = Jvm.exec ∧ c.code = cc ∧ c.maxLocals = nL ∧ meth.sig.returnType = ret ∧ s.vm.findClass own = some m.cls ∧ (∀ w ∈ ALL, w.before args s = true) ∧ va_K D classes (TY ca) s ∧ meth.locks = false ∧ NW s
theorem met_ofR {l : Launch} {y : MethodName} {own : String} {cc : ByteArray} {maxL : Nat} {ret : Option FieldType} {f lo : Nat} {D : va_G} {ca : Nat → ClassId} {ws : va_W} {as : List Value} {sz : Nat} {v : Value} (hy : plainName y.cls = true) (ho : y.cls = own) (hn : (lg_sl as).length ≤ maxL)
    (body : ∀ (p : Program) (e : Env) (s : State) (m : MethodId) (below : List Frame) (meth : Method) (c : Code) (A : Nat → Prop), Cx p s m as.toArray meth c own cc maxL ret D ca → (∀ q, s.heap.size ≤ q → A q) → va_P D classes ws s.heap → va_D (fun _ => True) ws → ∀ ls : Array Slot, lv_has ls maxL (lv_args 0 as) → W p l e (RM f lo) s m as.toArray below meth c s.heap [] 0 0 (MQ below (QRr v A) as.toArray s 0 0 A) (F0 m 0 ls [])) :
    Met l y (cws y cc maxL ret) (RM f lo) (PreW D ca ws as sz) (QRr v (va_A [] sz)) 0 0 (va_A [] sz) := by
  refine Met.ofW (cc := cc) (maxL := maxL) (ret := ret) hy rfl ?_
  intro p e s m args below meth c s₁ B hml hv
  obtain ⟨rfl, hsz, hP, hK, hD0, hNW⟩ := hv
  have hts := atoms_spec (ws := cws y cc maxL ret) B.pre
  have hown : s.vm.findClass own = some m.cls := by rw [← ho]; exact findClass_of_methodNamed B.named
  subst hsz
  rw [lg_entry_eq]
  exact body p e s m below meth c _ ⟨B.exec, B.bytes, hml, B.returns, hown, fun w hw => hts w (List.mem_cons_of_mem _ hw), hK, B.notSynchronized, hNW⟩ (fun q h => Or.inr h) hP hD0 _ (lv_entry as hn)
theorem met_ofM {l : Launch} {y : MethodName} {own : String} {cc : ByteArray} {maxL : Nat} {ret : Option FieldType} {f lo : Nat} {D : va_G} {ca : Nat → ClassId} {ws ws' : va_W} {as : List Value} {sz : Nat} {v : Option Value} (hy : plainName y.cls = true) (ho : y.cls = own) (hn : (lg_sl as).length ≤ maxL)
    (body : ∀ (p : Program) (e : Env) (s : State) (m : MethodId) (below : List Frame) (meth : Method) (c : Code) (A : Nat → Prop), Cx p s m as.toArray meth c own cc maxL ret D ca → (∀ q, s.heap.size ≤ q → A q) → va_P D classes ws s.heap → va_D A ws → ∀ ls : Array Slot, lv_has ls maxL (lv_args 0 as) → W p l e (RM f lo) s m as.toArray below meth c s.heap [] 0 0 (MQ below (QRm D v ws' A) as.toArray s 0 0 A) (F0 m 0 ls [])) :
    Met l y (cws y cc maxL ret) (RM f lo) (PreW D ca ws as sz) (QRm D v ws' (va_A ws sz)) 0 0 (va_A ws sz) := by
  refine Met.ofW (cc := cc) (maxL := maxL) (ret := ret) hy rfl ?_
  intro p e s m args below meth c s₁ B hml hv
  obtain ⟨rfl, hsz, hP, hK, hD0, hNW⟩ := hv
  have hts := atoms_spec (ws := cws y cc maxL ret) B.pre
  have hown : s.vm.findClass own = some m.cls := by rw [← ho]; exact findClass_of_methodNamed B.named
  subst hsz
  rw [lg_entry_eq]
  exact body p e s m below meth c _ ⟨B.exec, B.bytes, hml, B.returns, hown, fun w hw => hts w (List.mem_cons_of_mem _ hw), hK, B.notSynchronized, hNW⟩ (fun q h => Or.inr h) hP hD0.self _ (lv_entry as hn)
/-- the world with the cells at the places is taken by those of xs -/
def wrep : va_W → List Nat → va_W → va_W
  | ws, i :: is, x :: xs => wrep (ws.set i x) is xs
  | ws, _, _ => ws
theorem wrep_get : ∀ (is : List Nat) (xs ws : va_W) (k : Nat) (q : Nat × va_E), is.length = xs.length → (wrep ws is xs)[k]? = some q → (∃ j : Nat, is[j]? = some k ∧ xs[j]? = some q) ∨ (k ∉ is ∧ ws[k]? = some q) := by
  intro is
  induction is with
  | nil =>
    intro xs ws k q hl h
    cases xs with
    | nil => exact Or.inr ⟨List.not_mem_nil, h⟩
    | cons x xs => cases hl
  | cons i is ih =>
    intro xs ws k q hl h
    cases xs with
    | nil => cases hl
    | cons x xs =>
      rcases ih xs (ws.set i x) k q (Nat.succ.inj hl) h with ⟨j, h1, h2⟩ | ⟨h1, h2⟩
      · exact Or.inl ⟨j + 1, h1, h2⟩
      · by_cases hk : i = k
        · subst hk
          refine Or.inl ⟨0, rfl, ?_⟩
          have hlt : i < ws.length := by
            have := (List.getElem?_eq_some_iff.mp h2).1
            rw [List.length_set] at this; exact this
          rw [List.getElem?_set_self hlt] at h2
          exact h2
        · rw [List.getElem?_set_ne hk] at h2
          exact Or.inr ⟨fun hm => by rcases List.mem_cons.mp hm with e | e; exact hk e.symm; exact h1 e, h2⟩
theorem wr_repl {A0 : Nat → Prop} {D : va_G} {cl : List vw_C} {ws wc wc' ws' : va_W} {H H1 : Heap} (hP : va_P D cl ws H) (hD : va_D A0 ws) (is : List Nat) (hC : is.map (fun i => ws[i]?) = wc.map some) (hadr : wc'.map (fun q => q.1) = wc.map (fun q => q.1)) (hws : wrep ws is wc' = ws')
    (hk : ∀ q : Nat, q < H.size → ¬ va_A wc H.size q → H1[q]? = H[q]?) (hP1 : va_P D cl wc' H1) : va_P D cl ws' H1 ∧ va_D A0 ws' := by
  have hlen : is.length = wc'.length := by
    have h1 := congrArg List.length hC
    have h2 := congrArg List.length hadr
    simp only [List.length_map] at h1 h2
    omega
  have hcj : ∀ (j k : Nat), is[j]? = some k → ∀ q0, wc[j]? = some q0 → ws[k]? = some q0 := by
    intro j k hj q0 hq0
    have h1 := congrArg (fun l => l[j]?) hC
    simp only [List.getElem?_map, hj, hq0, Option.map_some] at h1
    exact Option.some.inj h1
  have hold : ∀ (k : Nat) (q : Nat × va_E), ws'[k]? = some q → ∃ q0, ws[k]? = some q0 ∧ q0.1 = q.1 := by
    intro k q h
    rw [← hws] at h
    rcases wrep_get is wc' ws k q hlen h with ⟨j, h1, h2⟩ | ⟨-, h2⟩
    · have h3 := congrArg (fun l => l[j]?) hadr
      simp only [List.getElem?_map, h2, Option.map_some] at h3
      cases hw : wc[j]? with
      | none => rw [hw] at h3; simp at h3
      | some q0 =>
        rw [hw] at h3
        simp only [Option.map_some, Option.some.injEq] at h3
        exact ⟨q0, hcj j k h1 q0 hw, h3.symm⟩
    · exact ⟨q, h2, rfl⟩
  refine ⟨fun k q h => ?_, fun i j p q h1 h2 e => ?_, fun k q h => ?_⟩
  · have h' := h
    rw [← hws] at h'
    rcases wrep_get is wc' ws k q hlen h' with ⟨j, h1, h2⟩ | ⟨h1, h2⟩
    · exact hP1 j q h2
    · have hat := hP k q h2
      refine hat.kept (hk q.1 hat.lt ?_)
      rintro (⟨j, e, hj⟩ | hz)
      · have hlt : j < is.length := by
          have := (List.getElem?_eq_some_iff.mp hj).1
          have h3 := congrArg List.length hC
          simp only [List.length_map] at h3
          omega
        have h4 := hcj j is[j] (List.getElem?_eq_getElem hlt) _ hj
        have h5 := hD.1 _ _ _ _ h4 h2 rfl
        exact h1 (h5 ▸ List.getElem_mem hlt)
      · exact absurd hat.lt (Nat.not_lt.mpr hz)
  · obtain ⟨p0, a1, a2⟩ := hold i p h1
    obtain ⟨q0, b1, b2⟩ := hold j q h2
    exact hD.1 i j p0 q0 a1 b1 (by rw [a2, b2, e])
  · obtain ⟨q0, a1, a2⟩ := hold k q h
    exact a2 ▸ hD.2 k q0 a1
theorem good_cws {y : MethodName} {cc : ByteArray} {maxL : Nat} {ret : Option FieldType} (h : Cond.code y cc maxL ret ∈ ALL) : GoodIn ALL (cws y cc maxL ret) := by
  intro w hw
  have hin : w ∈ ALL := by
    rcases List.mem_cons.mp hw with rfl | h1
    · exact h
    · exact h1
  exact ⟨hin, ALL_good w hin⟩
theorem good_V {own : String} {index : Nat} {C : String} {y : MethodName} {cc : ByteArray} {maxL : Nat} {ret : Option FieldType} (h : CWV own index C y cc maxL ret) : GoodIn ALL (wsV own index C y (cws y cc maxL ret)) := by
  intro w hw
  rcases List.mem_append.mp hw with h1 | h1
  · have hin : w ∈ ALL := by
      simp only [List.mem_cons, List.not_mem_nil, or_false] at h1
      rcases h1 with rfl | rfl | rfl | rfl
      · exact h.1
      · exact h.2.1
      · exact h.2.2.1
      · exact h.2.2.2.1
    exact ⟨hin, ALL_good w hin⟩
  · exact good_cws h.2.2.2.2 w h1
theorem good_S {own : String} {index : Nat} {y : MethodName} {cc : ByteArray} {maxL : Nat} {ret : Option FieldType} (h : CWS own index y cc maxL ret) : GoodIn ALL (wsS own index y (cws y cc maxL ret)) := by
  intro w hw
  rcases List.mem_append.mp hw with h1 | h1
  · have hin : w ∈ ALL := by
      simp only [List.mem_cons, List.not_mem_nil, or_false] at h1
      rcases h1 with rfl | rfl | rfl
      · exact h.1
      · exact h.2.1
      · exact h.2.2.1
    exact ⟨hin, ALL_good w hin⟩
  · exact good_cws h.2.2.2 w h1
theorem preW_blind {D : va_G} {ca : Nat → ClassId} {wc : va_W} {as : List Value} {sz : Nat} : FrameBlind (PreW D ca wc as sz) := by
  intro a U g mk q
  obtain ⟨q0, q1, qP, qK, qD, qN⟩ := q
  exact ⟨q0, q1, qP, va_K.moved (u := U) (U := U.calling g mk a) (Vm.Alike.refl U.vm) qK, qD, qN.same rfl⟩
section
variable {p : Program} {l : Launch} {e : Env} {R : Room} {s : State} {m : MethodId} {args : Array Value} {below : List Frame} {meth : Method} {c : Code} {H : Heap} {locs : List Loc} {cells slots : Nat} {Q : State → Prop} {own : String} {cc : ByteArray} {nL : Nat} {ret : Option FieldType} {D : va_G} {ca : Nat → ClassId} {A B : Nat → Prop} {pc : Nat} {ls : Array Slot} {lv : List (Nat × Value)} {ws ws' wc wc' : va_W} {rest st As : List Value} {v : Value}
theorem ret_ri {x : Int32} (X : Cx p s m args meth c own cc nL (some .int) D ca) (hS : va_S A s.heap H locs) (hdg : decode cc pc = .ok (.ireturn, 1)) : W p l e R s m args below meth c H locs 0 0 (MQ below (QRr (.int x) A) args s 0 0 A) (F0 m pc ls [.int x]) :=
  W.iret X.1 X.2.1 X.2.2.2.1 (fun _ ht _ => And.intro rfl (hS.F ht)) hS.2.2 hdg X.2.2.2.2.2.2.2.1
theorem ret_rz {x : Int32} (X : Cx p s m args meth c own cc nL (some .boolean) D ca) (hz : narrow .boolean (.int x) = .int x) (hS : va_S A s.heap H locs) (hdg : decode cc pc = .ok (.ireturn, 1)) : W p l e R s m args below meth c H locs 0 0 (MQ below (QRr (.int x) A) args s 0 0 A) (F0 m pc ls [.int x]) :=
  W.zret X.1 X.2.1 X.2.2.2.1 hz (fun _ ht _ => And.intro rfl (hS.F ht)) hS.2.2 hdg X.2.2.2.2.2.2.2.1
theorem ret_rl {x : Int64} (X : Cx p s m args meth c own cc nL (some .long) D ca) (hS : va_S A s.heap H locs) (hdg : decode cc pc = .ok (.lreturn, 1)) : W p l e R s m args below meth c H locs 0 0 (MQ below (QRr (.long x) A) args s 0 0 A) (F0 m pc ls [.long x]) :=
  W.lret X.1 X.2.1 X.2.2.2.1 (fun _ ht _ => And.intro rfl (hS.F ht)) hS.2.2 hdg X.2.2.2.2.2.2.2.1
theorem ret_ra {rt : FieldType} (X : Cx p s m args meth c own cc nL (some rt) D ca) (hrt : (∃ n, rt = .object n) ∨ ∃ t, rt = .array t) (hv : v = .null ∨ ∃ a, v = .ref a) (hS : va_S A s.heap H locs) (hdg : decode cc pc = .ok (.areturn, 1)) : W p l e R s m args below meth c H locs 0 0 (MQ below (QRr v A) args s 0 0 A) (F0 m pc ls [v]) :=
  W.aret X.1 X.2.1 X.2.2.2.1 hrt hv (fun _ ht _ => And.intro rfl (hS.F ht)) hS.2.2 hdg X.2.2.2.2.2.2.2.1
theorem ret_mv (X : Cx p s m args meth c own cc nL none D ca) (hP : va_P D classes ws H) (hS : va_S A s.heap H locs) (hdg : decode cc pc = .ok (.return_, 1)) : W p l e R s m args below meth c H locs 0 0 (MQ below (QRm D none ws A) args s 0 0 A) (F0 m pc ls []) :=
  W.vret X.1 X.2.1 X.2.2.2.1 (fun _ ht _ => And.intro rfl (And.intro (by rw [ht]; exact hP) (hS.F ht))) hS.2.2 hdg X.2.2.2.2.2.2.2.1
theorem ret_mi {x : Int32} (X : Cx p s m args meth c own cc nL (some .int) D ca) (hP : va_P D classes ws H) (hS : va_S A s.heap H locs) (hdg : decode cc pc = .ok (.ireturn, 1)) : W p l e R s m args below meth c H locs 0 0 (MQ below (QRm D (some (.int x)) ws A) args s 0 0 A) (F0 m pc ls [.int x]) :=
  W.iret X.1 X.2.1 X.2.2.2.1 (fun _ ht _ => And.intro rfl (And.intro (by rw [ht]; exact hP) (hS.F ht))) hS.2.2 hdg X.2.2.2.2.2.2.2.1
theorem ret_mz {x : Int32} (X : Cx p s m args meth c own cc nL (some .boolean) D ca) (hz : narrow .boolean (.int x) = .int x) (hP : va_P D classes ws H) (hS : va_S A s.heap H locs) (hdg : decode cc pc = .ok (.ireturn, 1)) : W p l e R s m args below meth c H locs 0 0 (MQ below (QRm D (some (.int x)) ws A) args s 0 0 A) (F0 m pc ls [.int x]) :=
  W.zret X.1 X.2.1 X.2.2.2.1 hz (fun _ ht _ => And.intro rfl (And.intro (by rw [ht]; exact hP) (hS.F ht))) hS.2.2 hdg X.2.2.2.2.2.2.2.1
theorem ret_ml {x : Int64} (X : Cx p s m args meth c own cc nL (some .long) D ca) (hP : va_P D classes ws H) (hS : va_S A s.heap H locs) (hdg : decode cc pc = .ok (.lreturn, 1)) : W p l e R s m args below meth c H locs 0 0 (MQ below (QRm D (some (.long x)) ws A) args s 0 0 A) (F0 m pc ls [.long x]) :=
  W.lret X.1 X.2.1 X.2.2.2.1 (fun _ ht _ => And.intro rfl (And.intro (by rw [ht]; exact hP) (hS.F ht))) hS.2.2 hdg X.2.2.2.2.2.2.2.1
/-- behind a reader -/
theorem aft_r {a : Array Value} (hr : va_Run p l e R s m args below meth c H locs cells slots 0 0 (F0 m pc ls st) rest (QRr v (va_A [] H.size) a) (va_A [] H.size)) (hP : va_P D classes ws H) (hS : va_S A s.heap H locs) (hA : ∀ q, s.heap.size ≤ q → A q)
    (kk : ∀ (H1 : Heap) (locs1 : List Loc), va_P D classes ws H1 → va_S A s.heap H1 locs1 → W p l e R s m args below meth c H1 locs1 cells slots Q (F0 m (pc + 3) ls (v :: rest))) : W p l e R s m args below meth c H locs cells slots Q (F0 m pc ls st) := by
  intro T hT XX
  obtain ⟨v', st₀, t, T', L, h0, X', hL, e1, e2, ⟨hv, hz, hk⟩, stp⟩ := hr T hT XX
  cases hv
  rw [h0] at hz hk
  have hk' : ∀ q : Nat, q < H.size → T'.heap[q]? = H[q]? := fun q hq => by
    rw [e1]
    refine hk q hq ?_
    rintro (⟨k, e, hke⟩ | z)
    · simp at hke
    · omega
  have hz' : H.size ≤ T'.heap.size := by rw [e1]; exact hz
  have hS1 : va_S A s.heap T'.heap (locs ++ L) := ⟨Nat.le_trans hS.1 hz', fun q h1 h2 => by rw [hk' q (Nat.lt_of_lt_of_le h1 hS.1)]; exact hS.2.1 q h1 h2, fun q hq => by
    rcases List.mem_append.mp hq with h | h
    · exact hS.2.2 q h
    · rcases hL q h with ⟨k, e, hke⟩ | z
      · simp at hke
      · exact hA _ (Nat.le_trans hS.1 z)⟩
  have hP1 : va_P D classes ws T'.heap := hP.kept (fun k q hq => hk' _ (hP k q hq).lt)
  obtain ⟨t2, a1, b1⟩ := kk T'.heap (locs ++ L) hP1 hS1 T' rfl X'
  exact ⟨t2, stp t2 a1, b1⟩
/-- behind a writer -/
theorem aft_m {a : Array Value} {vo : Option Value} {is : List Nat} (hr : va_Run p l e R s m args below meth c H locs cells slots 0 0 (F0 m pc ls st) rest (QRm D vo wc' (va_A wc H.size) a) (va_A wc H.size)) (hP : va_P D classes ws H) (hD : va_D A ws) (hC : is.map (fun i => ws[i]?) = wc.map some) (hadr : wc'.map (fun q => q.1) = wc.map (fun q => q.1)) (hws : wrep ws is wc' = ws') (hS : va_S A s.heap H locs) (hA : ∀ q, s.heap.size ≤ q → A q)
    (kk : ∀ (H1 : Heap) (locs1 : List Loc), va_P D classes ws' H1 → va_D A ws' → va_S A s.heap H1 locs1 → W p l e R s m args below meth c H1 locs1 cells slots Q (F0 m (pc + 3) ls (vo.toList ++ rest))) : W p l e R s m args below meth c H locs cells slots Q (F0 m pc ls st) := by
  intro T hT XX
  obtain ⟨v', st₀, t, T', L, h0, X', hL, e1, e2, ⟨hv, hp1, hz, hk⟩, stp⟩ := hr T hT XX
  cases hv
  rw [h0] at hz hk
  have hF := va_free (wc := wc) hD hS hA is hC
  have hk' : ∀ q : Nat, q < H.size → ¬ va_A wc H.size q → T'.heap[q]? = H[q]? := fun q h1 h2 => by rw [e1]; exact hk q h1 h2
  have hz' : H.size ≤ T'.heap.size := by rw [e1]; exact hz
  have hS1 : va_S A s.heap T'.heap (locs ++ L) := ⟨Nat.le_trans hS.1 hz', fun q h1 h2 => by rw [hk' q (Nat.lt_of_lt_of_le h1 hS.1) (fun z => h2 (hF q z))]; exact hS.2.1 q h1 h2, fun q hq => by
    rcases List.mem_append.mp hq with h | h
    · exact hS.2.2 q h
    · exact hF _ (hL q h)⟩
  rw [← e1] at hp1
  obtain ⟨hP1, hD1⟩ := wr_repl hP hD is hC hadr hws hk' hp1
  obtain ⟨t2, a1, b1⟩ := kk T'.heap (locs ++ L) hP1 hD1 hS1 T' rfl X'
  exact ⟨t2, stp t2 a1, b1⟩
theorem preV_of {C : String} {T : u_T} {N ci b : Nat} {fs : List Value} (X : Cx p s m args meth c own cc nL ret D ca) (hP : va_P D classes ws H) (hD : va_D B ws) (is : List Nat) (hC : is.map (fun i => ws[i]?) = wc.map some) (hnd : va_nd is = true) (he : wc[0]? = some (b, .inr (ci, fs))) (hc : classes[ci]? = some (C, T, N)) : PreV s H C b (PreW D ca wc (.ref b :: As) H.size) As := by
  have hPc : va_P D classes wc H := by
    intro k q hq
    have h1 := congrArg (fun l => l[k]?) hC
    simp only [List.getElem?_map, hq, Option.map_some] at h1
    cases hi : is[k]? with
    | none => rw [hi] at h1; simp at h1
    | some i =>
      rw [hi] at h1
      simp only [Option.map_some, Option.some.injEq] at h1
      exact hP i q h1
  have hDc := hD.sub (ws' := wc) is hnd hC
  exact ⟨preW_blind, va_recv X.2.2.2.2.2.2.1 hPc hc he, fun U hU hW => ⟨rfl, by rw [hU], by rw [hU]; exact hPc, va_K.moved hW.alike X.2.2.2.2.2.2.1, hDc.weaken (fun _ _ _ _ => trivial), X.2.2.2.2.2.2.2.2.warm hW⟩⟩
theorem preS_of (X : Cx p s m args meth c own cc nL ret D ca) (hP : va_P D classes ws H) (hD : va_D B ws) (is : List Nat) (hC : is.map (fun i => ws[i]?) = wc.map some) (hnd : va_nd is = true) : PreS s H (PreW D ca wc As H.size) As := by
  have hPc : va_P D classes wc H := by
    intro k q hq
    have h1 := congrArg (fun l => l[k]?) hC
    simp only [List.getElem?_map, hq, Option.map_some] at h1
    cases hi : is[k]? with
    | none => rw [hi] at h1; simp at h1
    | some i =>
      rw [hi] at h1
      simp only [Option.map_some, Option.some.injEq] at h1
      exact hP i q h1
  have hDc := hD.sub (ws' := wc) is hnd hC
  exact ⟨preW_blind, fun U hU hW => ⟨rfl, by rw [hU], by rw [hU]; exact hPc, va_K.moved hW.alike X.2.2.2.2.2.2.1, hDc.weaken (fun _ _ _ _ => trivial), X.2.2.2.2.2.2.2.2.warm hW⟩⟩
theorem inv_rV {C : String} {y : MethodName} {cc' : ByteArray} {maxL' : Nat} {ret' : Option FieldType} {f' l' index n b ci N : Nat} {T : u_T} {fs : List Value} (X : Cx p s m args meth c own cc nL ret D ca)
    (hM : Met l y (cws y cc' maxL' ret') (RM f' l') (PreW D ca wc (.ref b :: As) H.size) (QRr v (va_A [] H.size)) 0 0 (va_A [] H.size)) (hw : CWV own index C y cc' maxL' ret') (hyo : y.cls = C ∧ YO y n) (hR : f' + 1 ≤ R.frames ∧ 8 + (maxL' + 11) + l' ≤ R.locals) (hl : lv_has ls nL lv)
    (hP : va_P D classes ws H) (hD : va_D B ws) (is : List Nat) (hC : is.map (fun i => ws[i]?) = wc.map some) (hnd : va_nd is = true) (he : wc[0]? = some (b, .inr (ci, fs))) (hc : classes[ci]? = some (C, T, N)) (hS : va_S A s.heap H locs) (hA : ∀ q, s.heap.size ≤ q → A q) (hn : As.length = n) (hst : st = As.reverse ++ .ref b :: rest) (hrm : (rest.map fun v => v.category).sum ≤ 8) (hfit : cells + 0 ≤ R.cells ∧ slots + 0 ≤ R.slots) (hdg : decode cc pc = .ok (.invokevirtual index, 3))
    (kk : ∀ (H1 : Heap) (locs1 : List Loc), va_P D classes ws H1 → va_S A s.heap H1 locs1 → W p l e R s m args below meth c H1 locs1 cells slots Q (F0 m (pc + 3) ls (v :: rest))) : W p l e R s m args below meth c H locs cells slots Q (F0 m pc ls st) :=
  aft_r (va_runV (As := As) (rest := rest) (nL := nL) (Ts := ALL) ⟨X.1, X.2.1, X.2.2.1, X.2.2.2.2.1, X.2.2.2.2.2.1⟩ hM (cwV n X.2.2.2.2.2.1 (good_V hw) rfl rfl rfl hyo hR) (preV_of X hP hD is hC hnd he hc) rfl hn hl.1 hst (lv_room hrm) hdg hfit) hP hS hA kk
theorem inv_rS {y : MethodName} {cc' : ByteArray} {maxL' : Nat} {ret' : Option FieldType} {f' l' index n : Nat} (X : Cx p s m args meth c own cc nL ret D ca)
    (hM : Met l y (cws y cc' maxL' ret') (RM f' l') (PreW D ca wc As H.size) (QRr v (va_A [] H.size)) 0 0 (va_A [] H.size)) (hw : CWS own index y cc' maxL' ret') (hyo : y.cls = own ∧ YO y n) (hR : f' + 1 ≤ R.frames ∧ 8 + (maxL' + 11) + l' ≤ R.locals) (hl : lv_has ls nL lv)
    (hP : va_P D classes ws H) (hD : va_D B ws) (is : List Nat) (hC : is.map (fun i => ws[i]?) = wc.map some) (hnd : va_nd is = true) (hS : va_S A s.heap H locs) (hA : ∀ q, s.heap.size ≤ q → A q) (hn : As.length = n) (hst : st = As.reverse ++ rest) (hrm : (rest.map fun v => v.category).sum ≤ 8) (hfit : cells + 0 ≤ R.cells ∧ slots + 0 ≤ R.slots) (hdg : decode cc pc = .ok (.invokestatic index, 3))
    (kk : ∀ (H1 : Heap) (locs1 : List Loc), va_P D classes ws H1 → va_S A s.heap H1 locs1 → W p l e R s m args below meth c H1 locs1 cells slots Q (F0 m (pc + 3) ls (v :: rest))) : W p l e R s m args below meth c H locs cells slots Q (F0 m pc ls st) :=
  aft_r (va_runS (As := As) (rest := rest) (nL := nL) (Ts := ALL) ⟨X.1, X.2.1, X.2.2.1, X.2.2.2.2.1, X.2.2.2.2.2.1⟩ hM (cwS n X.2.2.2.2.2.1 (good_S hw) rfl rfl rfl hyo hR) (preS_of X hP hD is hC hnd) rfl hn hl.1 hst (lv_room hrm) hdg hfit) hP hS hA kk
theorem inv_rSN {y : MethodName} {host : String} {cc' : ByteArray} {maxL' : Nat} {ret' : Option FieldType} {f' l' index n : Nat} (X : Cx p s m args meth c own cc nL ret D ca)
    (hM : Met l y (cws y cc' maxL' ret') (RM f' l') (PreW D ca wc As H.size) (QRr v (va_A [] H.size)) 0 0 (va_A [] H.size)) (hw : CWN own index y host cc' maxL' ret') (hyo : YO y n) (hR : f' + 1 ≤ R.frames ∧ 8 + (maxL' + 11) + l' ≤ R.locals) (hl : lv_has ls nL lv)
    (hP : va_P D classes ws H) (hD : va_D B ws) (is : List Nat) (hC : is.map (fun i => ws[i]?) = wc.map some) (hnd : va_nd is = true) (hS : va_S A s.heap H locs) (hA : ∀ q, s.heap.size ≤ q → A q) (hn : As.length = n) (hst : st = As.reverse ++ rest) (hrm : (rest.map fun v => v.category).sum ≤ 8) (hfit : cells + 0 ≤ R.cells ∧ slots + 0 ≤ R.slots) (hdg : decode cc pc = .ok (.invokestatic index, 3))
    (kk : ∀ (H1 : Heap) (locs1 : List Loc), va_P D classes ws H1 → va_S A s.heap H1 locs1 → W p l e R s m args below meth c H1 locs1 cells slots Q (F0 m (pc + 3) ls (v :: rest))) : W p l e R s m args below meth c H locs cells slots Q (F0 m pc ls st) :=
  aft_r (va_runSN (As := As) (rest := rest) (nL := nL) (Ts := ALL) ⟨X.1, X.2.1, X.2.2.1, X.2.2.2.2.1, X.2.2.2.2.2.1⟩ hM ⟨va_cnB n X.2.2.2.2.2.1 (good_cws hw.2.2.2) rfl rfl rfl (X.2.2.2.2.2.2.2.2 _ hw.1) (X.2.2.2.2.2.1 _ hw.2.2.1) hyo hR, X.2.2.2.2.2.1 _ hw.2.1, trivial⟩ (preS_of X hP hD is hC hnd) rfl hn hl.1 hst (lv_room hrm) hdg hfit) hP hS hA kk
theorem inv_mV {C : String} {y : MethodName} {cc' : ByteArray} {maxL' : Nat} {ret' : Option FieldType} {f' l' index n b ci N : Nat} {T : u_T} {fs : List Value} (X : Cx p s m args meth c own cc nL ret D ca)
    (hM : Met l y (cws y cc' maxL' ret') (RM f' l') (PreW D ca wc (.ref b :: As) H.size) (QRm D (some v) wc' (va_A wc H.size)) 0 0 (va_A wc H.size)) (hw : CWV own index C y cc' maxL' ret') (hyo : y.cls = C ∧ YO y n) (hR : f' + 1 ≤ R.frames ∧ 8 + (maxL' + 11) + l' ≤ R.locals) (hl : lv_has ls nL lv)
    (hP : va_P D classes ws H) (hD : va_D A ws) (is : List Nat) (hC : is.map (fun i => ws[i]?) = wc.map some) (hnd : va_nd is = true) (hadr : wc'.map (fun q => q.1) = wc.map (fun q => q.1)) (hws : wrep ws is wc' = ws') (he : wc[0]? = some (b, .inr (ci, fs))) (hc : classes[ci]? = some (C, T, N)) (hS : va_S A s.heap H locs) (hA : ∀ q, s.heap.size ≤ q → A q) (hn : As.length = n) (hst : st = As.reverse ++ .ref b :: rest) (hrm : (rest.map fun v => v.category).sum ≤ 8) (hfit : cells + 0 ≤ R.cells ∧ slots + 0 ≤ R.slots) (hdg : decode cc pc = .ok (.invokevirtual index, 3))
    (kk : ∀ (H1 : Heap) (locs1 : List Loc), va_P D classes ws' H1 → va_D A ws' → va_S A s.heap H1 locs1 → W p l e R s m args below meth c H1 locs1 cells slots Q (F0 m (pc + 3) ls (v :: rest))) : W p l e R s m args below meth c H locs cells slots Q (F0 m pc ls st) :=
  aft_m (va_runV (As := As) (rest := rest) (nL := nL) (Ts := ALL) ⟨X.1, X.2.1, X.2.2.1, X.2.2.2.2.1, X.2.2.2.2.2.1⟩ hM (cwV n X.2.2.2.2.2.1 (good_V hw) rfl rfl rfl hyo hR) (preV_of X hP hD is hC hnd he hc) rfl hn hl.1 hst (lv_room hrm) hdg hfit) hP hD hC hadr hws hS hA kk
theorem inv_mU {C : String} {y : MethodName} {cc' : ByteArray} {maxL' : Nat} {ret' : Option FieldType} {f' l' index n b ci N : Nat} {T : u_T} {fs : List Value} (X : Cx p s m args meth c own cc nL ret D ca)
    (hM : Met l y (cws y cc' maxL' ret') (RM f' l') (PreW D ca wc (.ref b :: As) H.size) (QRm D none wc' (va_A wc H.size)) 0 0 (va_A wc H.size)) (hw : CWV own index C y cc' maxL' ret') (hyo : y.cls = C ∧ YO y n) (hR : f' + 1 ≤ R.frames ∧ 8 + (maxL' + 11) + l' ≤ R.locals) (hl : lv_has ls nL lv)
    (hP : va_P D classes ws H) (hD : va_D A ws) (is : List Nat) (hC : is.map (fun i => ws[i]?) = wc.map some) (hnd : va_nd is = true) (hadr : wc'.map (fun q => q.1) = wc.map (fun q => q.1)) (hws : wrep ws is wc' = ws') (he : wc[0]? = some (b, .inr (ci, fs))) (hc : classes[ci]? = some (C, T, N)) (hS : va_S A s.heap H locs) (hA : ∀ q, s.heap.size ≤ q → A q) (hn : As.length = n) (hst : st = As.reverse ++ .ref b :: rest) (hrm : (rest.map fun v => v.category).sum ≤ 8) (hfit : cells + 0 ≤ R.cells ∧ slots + 0 ≤ R.slots) (hdg : decode cc pc = .ok (.invokevirtual index, 3))
    (kk : ∀ (H1 : Heap) (locs1 : List Loc), va_P D classes ws' H1 → va_D A ws' → va_S A s.heap H1 locs1 → W p l e R s m args below meth c H1 locs1 cells slots Q (F0 m (pc + 3) ls rest)) : W p l e R s m args below meth c H locs cells slots Q (F0 m pc ls st) :=
  aft_m (va_runV (As := As) (rest := rest) (nL := nL) (Ts := ALL) ⟨X.1, X.2.1, X.2.2.1, X.2.2.2.2.1, X.2.2.2.2.2.1⟩ hM (cwV n X.2.2.2.2.2.1 (good_V hw) rfl rfl rfl hyo hR) (preV_of X hP hD is hC hnd he hc) rfl hn hl.1 hst (lv_room hrm) hdg hfit) hP hD hC hadr hws hS hA kk
/-- behind a writer that holds the whole world -/
theorem aft_ma {a : Array Value} {vo : Option Value} (hr : va_Run p l e R s m args below meth c H locs cells slots 0 0 (F0 m pc ls st) rest (QRm D vo ws' (va_A ws H.size) a) (va_A ws H.size)) (hD : va_D A ws) (hadr : ws'.map (fun q => q.1) = ws.map (fun q => q.1)) (hS : va_S A s.heap H locs) (hA : ∀ q, s.heap.size ≤ q → A q)
    (kk : ∀ (H1 : Heap) (locs1 : List Loc), va_P D classes ws' H1 → va_D A ws' → va_S A s.heap H1 locs1 → W p l e R s m args below meth c H1 locs1 cells slots Q (F0 m (pc + 3) ls (vo.toList ++ rest))) : W p l e R s m args below meth c H locs cells slots Q (F0 m pc ls st) := by
  intro T hT XX
  obtain ⟨v', st₀, t, T', L, h0, X', hL, e1, e2, ⟨hv, hp1, hz, hk⟩, stp⟩ := hr T hT XX
  cases hv
  rw [h0] at hz hk
  have hF : ∀ q, va_A ws H.size q → A q := by
    rintro q (⟨k, e, hke⟩ | z)
    · exact hD.2 k _ hke
    · exact hA _ (Nat.le_trans hS.1 z)
  have hk' : ∀ q : Nat, q < H.size → ¬ va_A ws H.size q → T'.heap[q]? = H[q]? := fun q h1 h2 => by rw [e1]; exact hk q h1 h2
  have hz' : H.size ≤ T'.heap.size := by rw [e1]; exact hz
  have hS1 : va_S A s.heap T'.heap (locs ++ L) := ⟨Nat.le_trans hS.1 hz', fun q h1 h2 => by rw [hk' q (Nat.lt_of_lt_of_le h1 hS.1) (fun z => h2 (hF q z))]; exact hS.2.1 q h1 h2, fun q hq => by
    rcases List.mem_append.mp hq with h | h
    · exact hS.2.2 q h
    · exact hF _ (hL q h)⟩
  rw [← e1] at hp1
  have hold : ∀ (k : Nat) (q : Nat × va_E), ws'[k]? = some q → ∃ q0, ws[k]? = some q0 ∧ q0.1 = q.1 := by
    intro k q h2
    have h3 := congrArg (fun l => l[k]?) hadr
    simp only [List.getElem?_map, h2, Option.map_some] at h3
    cases hw : ws[k]? with
    | none => rw [hw] at h3; simp at h3
    | some q0 =>
      rw [hw] at h3
      simp only [Option.map_some, Option.some.injEq] at h3
      exact ⟨q0, rfl, h3.symm⟩
  have hD1 : va_D A ws' := by
    refine ⟨fun i j p q h1 h2 e => ?_, fun k q h => ?_⟩
    · obtain ⟨p0, a1, a2⟩ := hold i p h1
      obtain ⟨q0, b1, b2⟩ := hold j q h2
      exact hD.1 i j p0 q0 a1 b1 (by rw [a2, b2, e])
    · obtain ⟨q0, a1, a2⟩ := hold k q h
      exact a2 ▸ hD.2 k q0 a1
  obtain ⟨t2, a1, b1⟩ := kk T'.heap (locs ++ L) hp1 hD1 hS1 T' rfl X'
  exact ⟨t2, stp t2 a1, b1⟩
theorem preV_all {C : String} {T : u_T} {N ci b : Nat} {fs : List Value} (X : Cx p s m args meth c own cc nL ret D ca) (hP : va_P D classes ws H) (hD : va_D B ws) (he : ws[0]? = some (b, .inr (ci, fs))) (hc : classes[ci]? = some (C, T, N)) : PreV s H C b (PreW D ca ws (.ref b :: As) H.size) As :=
  ⟨preW_blind, va_recv X.2.2.2.2.2.2.1 hP hc he, fun _ hU hW => ⟨rfl, by rw [hU], by rw [hU]; exact hP, va_K.moved hW.alike X.2.2.2.2.2.2.1, hD.weaken (fun _ _ _ _ => trivial), X.2.2.2.2.2.2.2.2.warm hW⟩⟩
theorem inv_rVa {C : String} {y : MethodName} {cc' : ByteArray} {maxL' : Nat} {ret' : Option FieldType} {f' l' index n b ci N : Nat} {T : u_T} {fs : List Value} (X : Cx p s m args meth c own cc nL ret D ca)
    (hM : Met l y (cws y cc' maxL' ret') (RM f' l') (PreW D ca ws (.ref b :: As) H.size) (QRr v (va_A [] H.size)) 0 0 (va_A [] H.size)) (hw : CWV own index C y cc' maxL' ret') (hyo : y.cls = C ∧ YO y n) (hR : f' + 1 ≤ R.frames ∧ 8 + (maxL' + 11) + l' ≤ R.locals) (hl : lv_has ls nL lv)
    (hP : va_P D classes ws H) (hD : va_D B ws) (he : ws[0]? = some (b, .inr (ci, fs))) (hc : classes[ci]? = some (C, T, N)) (hS : va_S A s.heap H locs) (hA : ∀ q, s.heap.size ≤ q → A q) (hn : As.length = n) (hst : st = As.reverse ++ .ref b :: rest) (hrm : (rest.map fun v => v.category).sum ≤ 8) (hfit : cells + 0 ≤ R.cells ∧ slots + 0 ≤ R.slots) (hdg : decode cc pc = .ok (.invokevirtual index, 3))
    (kk : ∀ (H1 : Heap) (locs1 : List Loc), va_P D classes ws H1 → va_S A s.heap H1 locs1 → W p l e R s m args below meth c H1 locs1 cells slots Q (F0 m (pc + 3) ls (v :: rest))) : W p l e R s m args below meth c H locs cells slots Q (F0 m pc ls st) :=
  aft_r (va_runV (As := As) (rest := rest) (nL := nL) (Ts := ALL) ⟨X.1, X.2.1, X.2.2.1, X.2.2.2.2.1, X.2.2.2.2.2.1⟩ hM (cwV n X.2.2.2.2.2.1 (good_V hw) rfl rfl rfl hyo hR) (preV_all X hP hD he hc) rfl hn hl.1 hst (lv_room hrm) hdg hfit) hP hS hA kk
theorem inv_mVa {C : String} {y : MethodName} {cc' : ByteArray} {maxL' : Nat} {ret' : Option FieldType} {f' l' index n b ci N : Nat} {T : u_T} {fs : List Value} (X : Cx p s m args meth c own cc nL ret D ca)
    (hM : Met l y (cws y cc' maxL' ret') (RM f' l') (PreW D ca ws (.ref b :: As) H.size) (QRm D (some v) ws' (va_A ws H.size)) 0 0 (va_A ws H.size)) (hw : CWV own index C y cc' maxL' ret') (hyo : y.cls = C ∧ YO y n) (hR : f' + 1 ≤ R.frames ∧ 8 + (maxL' + 11) + l' ≤ R.locals) (hl : lv_has ls nL lv)
    (hP : va_P D classes ws H) (hD : va_D A ws) (hadr : ws'.map (fun q => q.1) = ws.map (fun q => q.1)) (he : ws[0]? = some (b, .inr (ci, fs))) (hc : classes[ci]? = some (C, T, N)) (hS : va_S A s.heap H locs) (hA : ∀ q, s.heap.size ≤ q → A q) (hn : As.length = n) (hst : st = As.reverse ++ .ref b :: rest) (hrm : (rest.map fun v => v.category).sum ≤ 8) (hfit : cells + 0 ≤ R.cells ∧ slots + 0 ≤ R.slots) (hdg : decode cc pc = .ok (.invokevirtual index, 3))
    (kk : ∀ (H1 : Heap) (locs1 : List Loc), va_P D classes ws' H1 → va_D A ws' → va_S A s.heap H1 locs1 → W p l e R s m args below meth c H1 locs1 cells slots Q (F0 m (pc + 3) ls (v :: rest))) : W p l e R s m args below meth c H locs cells slots Q (F0 m pc ls st) :=
  aft_ma (va_runV (As := As) (rest := rest) (nL := nL) (Ts := ALL) ⟨X.1, X.2.1, X.2.2.1, X.2.2.2.2.1, X.2.2.2.2.2.1⟩ hM (cwV n X.2.2.2.2.2.1 (good_V hw) rfl rfl rfl hyo hR) (preV_all X hP hD he hc) rfl hn hl.1 hst (lv_room hrm) hdg hfit) hD hadr hS hA kk
theorem inv_mUa {C : String} {y : MethodName} {cc' : ByteArray} {maxL' : Nat} {ret' : Option FieldType} {f' l' index n b ci N : Nat} {T : u_T} {fs : List Value} (X : Cx p s m args meth c own cc nL ret D ca)
    (hM : Met l y (cws y cc' maxL' ret') (RM f' l') (PreW D ca ws (.ref b :: As) H.size) (QRm D none ws' (va_A ws H.size)) 0 0 (va_A ws H.size)) (hw : CWV own index C y cc' maxL' ret') (hyo : y.cls = C ∧ YO y n) (hR : f' + 1 ≤ R.frames ∧ 8 + (maxL' + 11) + l' ≤ R.locals) (hl : lv_has ls nL lv)
    (hP : va_P D classes ws H) (hD : va_D A ws) (hadr : ws'.map (fun q => q.1) = ws.map (fun q => q.1)) (he : ws[0]? = some (b, .inr (ci, fs))) (hc : classes[ci]? = some (C, T, N)) (hS : va_S A s.heap H locs) (hA : ∀ q, s.heap.size ≤ q → A q) (hn : As.length = n) (hst : st = As.reverse ++ .ref b :: rest) (hrm : (rest.map fun v => v.category).sum ≤ 8) (hfit : cells + 0 ≤ R.cells ∧ slots + 0 ≤ R.slots) (hdg : decode cc pc = .ok (.invokevirtual index, 3))
    (kk : ∀ (H1 : Heap) (locs1 : List Loc), va_P D classes ws' H1 → va_D A ws' → va_S A s.heap H1 locs1 → W p l e R s m args below meth c H1 locs1 cells slots Q (F0 m (pc + 3) ls rest)) : W p l e R s m args below meth c H locs cells slots Q (F0 m pc ls st) :=
  aft_ma (va_runV (As := As) (rest := rest) (nL := nL) (Ts := ALL) ⟨X.1, X.2.1, X.2.2.1, X.2.2.2.2.1, X.2.2.2.2.2.1⟩ hM (cwV n X.2.2.2.2.2.1 (good_V hw) rfl rfl rfl hyo hR) (preV_all X hP hD he hc) rfl hn hl.1 hst (lv_room hrm) hdg hfit) hD hadr hS hA kk
end
-- CONSTRUCTORS
abbrev RC (f mc ms lo : Nat) : Room := { frames := f, cells := mc, slots := ms, locals := lo }
/-- a constructor's end: its cells stand at some addresses -/
def QRc (D : va_G) (wlb : (Nat → Nat) → va_W) (A : Nat → Prop) : Array Value → State → Outcome → State → Prop := fun _ st oc t => oc = .returned none ∧ (∃ b : Nat → Nat, va_P D classes (wlb b) t.heap ∧ va_D A (wlb b)) ∧ va_F A st t
theorem met_ofC {l : Launch} {y : MethodName} {own : String} {cc : ByteArray} {maxL : Nat} {f mc ms lo : Nat} {D : va_G} {ca : Nat → ClassId} {ws : va_W} {wlb : (Nat → Nat) → va_W} {as : List Value} {sz : Nat} (hy : plainName y.cls = true) (ho : y.cls = own) (hyn : y.name = "<init>") (hn : (lg_sl as).length ≤ maxL)
    (body : ∀ (p : Program) (e : Env) (s : State) (m : MethodId) (below : List Frame) (meth : Method) (c : Code) (A : Nat → Prop), Cx p s m as.toArray meth c own cc maxL none D ca → meth.name = "<init>" → (∀ q, s.heap.size ≤ q → A q) → va_P D classes ws s.heap → va_D A ws → ∀ ls : Array Slot, lv_has ls maxL (lv_args 0 as) → W p l e (RC f mc ms lo) s m as.toArray below meth c s.heap [] 0 0 (MQ below (QRc D wlb A) as.toArray s mc ms A) (F0 m 0 ls [])) :
    Met l y (cws y cc maxL none) (RC f mc ms lo) (PreW D ca ws as sz) (QRc D wlb (va_A ws sz)) mc ms (va_A ws sz) := by
  refine Met.ofW (cc := cc) (maxL := maxL) (ret := none) hy rfl ?_
  intro p e s m args below meth c s₁ B hml hv
  obtain ⟨rfl, hsz, hP, hK, hD0, hNW⟩ := hv
  have hts := atoms_spec (ws := cws y cc maxL none) B.pre
  have hown : s.vm.findClass own = some m.cls := by rw [← ho]; exact findClass_of_methodNamed B.named
  have hin : meth.name = "<init>" := by rw [← hyn]; exact (name_of_methodNamed B.named B.method).1
  subst hsz
  rw [lg_entry_eq]
  exact body p e s m below meth c _ ⟨B.exec, B.bytes, hml, B.returns, hown, fun w hw => hts w (List.mem_cons_of_mem _ hw), hK, B.notSynchronized, hNW⟩ hin (fun q h => Or.inr h) hP hD0.self _ (lv_entry as hn)
section
variable {p : Program} {l : Launch} {e : Env} {R : Room} {s : State} {m : MethodId} {args : Array Value} {below : List Frame} {meth : Method} {c : Code} {H : Heap} {locs : List Loc} {cells slots : Nat} {Q : State → Prop} {own : String} {cc : ByteArray} {nL : Nat} {ret : Option FieldType} {D : va_G} {ca : Nat → ClassId} {A B : Nat → Prop} {pc : Nat} {ls : Array Slot} {lv : List (Nat × Value)} {ws ws' wc wr : va_W} {rest st As : List Value} {v : Value}
theorem ret_c {wlb : (Nat → Nat) → va_W} {mc ms : Nat} (X : Cx p s m args meth c own cc nL none D ca) (hP : va_P D classes ws H) (hD : va_D A ws) (hS : va_S A s.heap H locs) (b : Nat → Nat) (is : List Nat) (hnd : va_nd is = true) (hC : is.map (fun i => ws[i]?) = (wlb b).map some) (h1 : cells ≤ mc) (h2 : slots ≤ ms) (hdg : decode cc pc = .ok (.return_, 1)) : W p l e R s m args below meth c H locs cells slots (MQ below (QRc D wlb A) args s mc ms A) (F0 m pc ls []) := by
  have hPc : va_P D classes (wlb b) H := by
    intro k q hq
    have h1 := congrArg (fun l => l[k]?) hC
    simp only [List.getElem?_map, hq, Option.map_some] at h1
    cases hi : is[k]? with
    | none => rw [hi] at h1; simp at h1
    | some i =>
      rw [hi] at h1
      simp only [Option.map_some, Option.some.injEq] at h1
      exact hP i q h1
  have hDc := hD.sub (ws' := wlb b) is hnd hC
  refine W.widen (k := mc) (n := ms) h1 h2 ?_
  exact W.vret X.1 X.2.1 X.2.2.2.1 (fun _ ht _ => And.intro rfl (And.intro ⟨b, by rw [ht]; exact hPc, hDc⟩ (hS.F ht))) hS.2.2 hdg X.2.2.2.2.2.2.2.1
theorem newa_b {atype : ArrayType} {ty : FieldType} {cA0 : ClassId} {n : Int32} {a0 : Nat → vp_A} (k bd : Nat) (X : Cx p s m args meth c own cc nL ret D ca) (harr : Cond.arrayClass ty ∈ ALL) (hty : newarray.typeOf atype = ty) (hk : (TY ca)[k]? = some (cA0, ty)) (hra : ∀ (U : State) (cA : ClassId), va_RA U cA ty → U.vm.findClass ("[" ++ ty.toString) = some cA)
    (hP : va_P D classes ws H) (hD : va_D A ws) (hS : va_S A s.heap H locs) (hA : ∀ q, s.heap.size ≤ q → A q) (ha : ∀ (cA : ClassId) (N : Nat), vp_cell cA (a0 N) = arrV cA N (fun _ => defaultValue ty)) (hn : ¬ n < 0) (hN : n.toNatClampNeg ≤ bd) (hbb : bd * componentBytes ty ≤ 536870912) (hcells : cells + 1 ≤ R.cells) (hslots : slots + bd ≤ R.slots) (hdg : decode cc pc = .ok (.newarray atype, 2))
    (kk : ∀ (q : Nat) (H1 : Heap), va_P D classes (ws ++ [(q, .inl (cA0, a0 n.toNatClampNeg))]) H1 → va_D A (ws ++ [(q, .inl (cA0, a0 n.toNatClampNeg))]) → va_S A s.heap H1 locs → W p l e R s m args below meth c H1 locs (cells + 1) (slots + bd) Q (F0 m (pc + 2) ls (.ref q :: rest))) : W p l e R s m args below meth c H locs cells slots Q (F0 m pc ls (.int n :: rest)) := by
  refine va_newa X.1 X.2.1 (by rw [hty]; exact X.2.2.2.2.2.1 _ harr) hty X.2.2.2.2.2.2.1 hP hD hS hA (N' := n.toNatClampNeg) (a0 := a0 n.toNatClampNeg) (fun cA => ha cA _) hn rfl (Nat.le_trans (Nat.mul_le_mul_right _ hN) hbb) hcells (Nat.le_trans (Nat.add_le_add_left hN _) hslots) hdg (fun q cA H1 hK1 hP1 hD1 hS1 => ?_)
  have he : cA = cA0 := by
    have h1 := hra s cA (hK1.2 4 (cA, ty) rfl).2
    have h2 := hra s cA0 (X.2.2.2.2.2.2.1.2 k (cA0, ty) hk).2
    rw [h1] at h2
    exact Option.some.inj h2
  subst he
  exact W.widen (Nat.le_refl _) (Nat.add_le_add_left hN _) (kk q H1 hP1 hD1 hS1)
theorem inv_I {y : MethodName} {cc' : ByteArray} {maxL' : Nat} {f' l' mc ms index n b : Nat} {wlb : (Nat → Nat) → va_W} (X : Cx p s m args meth c own cc nL ret D ca)
    (hM : Met l y (cws y cc' maxL' none) (RC f' mc ms l') (PreW D ca wc (.ref b :: As) H.size) (QRc D wlb (va_A wc H.size)) mc ms (va_A wc H.size)) (hw : Cond.methodLink own index y ∈ ALL ∧ Cond.instanceMethod y ∈ ALL ∧ Cond.initialized y.cls ∈ ALL ∧ Cond.code y cc' maxL' none ∈ ALL) (hyn : y.name = "<init>") (hyo : YO y n) (hR : f' + 1 ≤ R.frames ∧ 8 + (maxL' + 11) + l' ≤ R.locals) (hl : lv_has ls nL lv)
    (hP : va_P D classes ws H) (hD : va_D A ws) (is isR : List Nat) (hC : is.map (fun i => ws[i]?) = wc.map some) (hnd : va_nd is = true) (hCR : isR.map (fun i => ws[i]?) = wr.map some) (hndR : va_nd isR = true) (hdis : ∀ i ∈ isR, i ∉ is) (hS : va_S A s.heap H locs) (hA : ∀ q, s.heap.size ≤ q → A q) (hn : As.length = n) (hst : st = As.reverse ++ .ref b :: rest) (hrm : (rest.map fun v => v.category).sum ≤ 8) (hfit : cells + mc ≤ R.cells ∧ slots + ms ≤ R.slots) (hdg : decode cc pc = .ok (.invokespecial index, 3))
    (kk : ∀ (b' : Nat → Nat) (H1 : Heap) (locs1 : List Loc), va_P D classes (wr ++ wlb b') H1 → va_D A (wr ++ wlb b') → va_S A s.heap H1 locs1 → W p l e R s m args below meth c H1 locs1 (cells + mc) (slots + ms) Q (F0 m (pc + 3) ls rest)) : W p l e R s m args below meth c H locs cells slots Q (F0 m pc ls st) := by
  have hr := va_runI (As := As) (rest := rest) (nL := nL) (Ts := ALL) (below := below) (meth := meth) (locs := locs) (cells := cells) (slots := slots) (e := e) (g := F0 m pc ls st) ⟨X.1, X.2.1, X.2.2.1, X.2.2.2.2.1, X.2.2.2.2.2.1⟩ hM (cwI n X.2.2.2.2.2.1 (good_cws hw.2.2.2) rfl rfl rfl (X.2.2.2.2.2.1 _ hw.2.2.1) (X.2.2.2.2.2.1 _ hw.1) (X.2.2.2.2.2.1 _ hw.2.1) hyn hyo hR) (preS_of X hP hD is hC hnd) rfl hn hl.1 hst (lv_room hrm) hdg hfit
  intro T hT XX
  obtain ⟨v', st₀, t, T', L, h0, X', hL, e1, e2, ⟨hv, ⟨b', hp1, hd1⟩, hz, hk⟩, stp⟩ := hr T hT XX
  cases hv
  rw [h0] at hz hk
  have hF := va_free (wc := wc) hD hS hA is hC
  have hk' : ∀ q : Nat, q < H.size → ¬ va_A wc H.size q → T'.heap[q]? = H[q]? := fun q h1 h2 => by rw [e1]; exact hk q h1 h2
  have hz' : H.size ≤ T'.heap.size := by rw [e1]; exact hz
  have hS1 : va_S A s.heap T'.heap (locs ++ L) := ⟨Nat.le_trans hS.1 hz', fun q h1 h2 => by rw [hk' q (Nat.lt_of_lt_of_le h1 hS.1) (fun z => h2 (hF q z))]; exact hS.2.1 q h1 h2, fun q hq => by
    rcases List.mem_append.mp hq with h | h
    · exact hS.2.2 q h
    · exact hF _ (hL q h)⟩
  rw [← e1] at hp1
  obtain ⟨hP1, hD1⟩ := va_join (wr := wr) hP hD is isR hC hCR hndR hdis hk' hF hp1 hd1
  obtain ⟨t2, a1, b1⟩ := kk b' T'.heap (locs ++ L) hP1 hD1 hS1 T' rfl X'
  exact ⟨t2, stp t2 a1, b1⟩
end

abbrev St_Medium : Type := Int32 × AI × Int32 × Int32
def wl_Medium (ca : Nat → ClassId) (a0 a1 : Nat) (x : St_Medium) : va_W := [(a0, .inr (0, [.int x.1, .ref a1, .int x.2.2.1, .int x.2.2.2])), (a1, .inl (ca 0, x.2.1.1, .inl x.2.1.2))]
abbrev St_Bytes : Type := AI × Int32
def wl_Bytes (ca : Nat → ClassId) (a0 a1 : Nat) (x : St_Bytes) : va_W := [(a0, .inr (1, [.ref a1, .int x.2])), (a1, .inl (ca 0, x.1.1, .inl x.1.2))]
abbrev St_Room : Type := AI
def wl_Room (ca : Nat → ClassId) (a0 a1 : Nat) (x : St_Room) : va_W := [(a0, .inr (2, [.ref a1])), (a1, .inl (ca 1, x.1, .inl x.2))]
abbrev St_Parts : Type := AI × AI × AI × AI × AL × Int32
def wl_Parts (ca : Nat → ClassId) (a0 a1 a2 a3 a4 a5 : Nat) (x : St_Parts) : va_W := [(a0, .inr (3, [.ref a1, .ref a2, .ref a3, .ref a4, .ref a5, .int x.2.2.2.2.2])), (a1, .inl (ca 2, x.1.1, .inl x.1.2)), (a2, .inl (ca 2, x.2.1.1, .inl x.2.1.2)), (a3, .inl (ca 2, x.2.2.1.1, .inl x.2.2.1.2)), (a4, .inl (ca 2, x.2.2.2.1.1, .inl x.2.2.2.1.2)), (a5, .inl (ca 3, x.2.2.2.2.1.1, .inr (.inl x.2.2.2.2.1.2)))]
abbrev St_Marks : Type := AI × AI × AI × AI × AL × Int32
def wl_Marks (ca : Nat → ClassId) (a0 a1 a2 a3 a4 a5 : Nat) (x : St_Marks) : va_W := [(a0, .inr (4, [.ref a1, .ref a2, .ref a3, .ref a4, .ref a5, .int x.2.2.2.2.2])), (a1, .inl (ca 2, x.1.1, .inl x.1.2)), (a2, .inl (ca 2, x.2.1.1, .inl x.2.1.2)), (a3, .inl (ca 2, x.2.2.1.1, .inl x.2.2.1.2)), (a4, .inl (ca 2, x.2.2.2.1.1, .inl x.2.2.2.1.2)), (a5, .inl (ca 3, x.2.2.2.2.1.1, .inr (.inl x.2.2.2.2.1.2)))]
abbrev St_Log : Type := St_Medium × St_Bytes × St_Bytes × St_Bytes × St_Bytes × St_Room × St_Room × St_Parts × St_Marks × St_Marks × AI × Int32 × Int32 × Int32 × Int32
def wl_Log (ca : Nat → ClassId) (ad : Nat → Nat) (g : St_Log) : va_W := [((ad 0), .inr (5, [.ref (ad 1), .ref (ad 3), .ref (ad 5), .ref (ad 7), .ref (ad 9), .ref (ad 11), .ref (ad 13), .ref (ad 15), .ref (ad 21), .ref (ad 27), .ref (ad 33), .int g.2.2.2.2.2.2.2.2.2.2.2.1, .int g.2.2.2.2.2.2.2.2.2.2.2.2.1, .int g.2.2.2.2.2.2.2.2.2.2.2.2.2.1, .int g.2.2.2.2.2.2.2.2.2.2.2.2.2.2])), ((ad 1), .inr (0, [.int g.1.1, .ref (ad 2), .int g.1.2.2.1, .int g.1.2.2.2])), ((ad 2), .inl (ca 0, g.1.2.1.1, .inl g.1.2.1.2)), ((ad 3), .inr (1, [.ref (ad 4), .int g.2.1.2])), ((ad 4), .inl (ca 0, g.2.1.1.1, .inl g.2.1.1.2)), ((ad 5), .inr (1, [.ref (ad 6), .int g.2.2.1.2])), ((ad 6), .inl (ca 0, g.2.2.1.1.1, .inl g.2.2.1.1.2)), ((ad 7), .inr (1, [.ref (ad 8), .int g.2.2.2.1.2])), ((ad 8), .inl (ca 0, g.2.2.2.1.1.1, .inl g.2.2.2.1.1.2)), ((ad 9), .inr (1, [.ref (ad 10), .int g.2.2.2.2.1.2])), ((ad 10), .inl (ca 0, g.2.2.2.2.1.1.1, .inl g.2.2.2.2.1.1.2)), ((ad 11), .inr (2, [.ref (ad 12)])), ((ad 12), .inl (ca 1, g.2.2.2.2.2.1.1, .inl g.2.2.2.2.2.1.2)), ((ad 13), .inr (2, [.ref (ad 14)])), ((ad 14), .inl (ca 1, g.2.2.2.2.2.2.1.1, .inl g.2.2.2.2.2.2.1.2)), ((ad 15), .inr (3, [.ref (ad 16), .ref (ad 17), .ref (ad 18), .ref (ad 19), .ref (ad 20), .int g.2.2.2.2.2.2.2.1.2.2.2.2.2])), ((ad 16), .inl (ca 2, g.2.2.2.2.2.2.2.1.1.1, .inl g.2.2.2.2.2.2.2.1.1.2)), ((ad 17), .inl (ca 2, g.2.2.2.2.2.2.2.1.2.1.1, .inl g.2.2.2.2.2.2.2.1.2.1.2)), ((ad 18), .inl (ca 2, g.2.2.2.2.2.2.2.1.2.2.1.1, .inl g.2.2.2.2.2.2.2.1.2.2.1.2)), ((ad 19), .inl (ca 2, g.2.2.2.2.2.2.2.1.2.2.2.1.1, .inl g.2.2.2.2.2.2.2.1.2.2.2.1.2)), ((ad 20), .inl (ca 3, g.2.2.2.2.2.2.2.1.2.2.2.2.1.1, .inr (.inl g.2.2.2.2.2.2.2.1.2.2.2.2.1.2))), ((ad 21), .inr (4, [.ref (ad 22), .ref (ad 23), .ref (ad 24), .ref (ad 25), .ref (ad 26), .int g.2.2.2.2.2.2.2.2.1.2.2.2.2.2])), ((ad 22), .inl (ca 2, g.2.2.2.2.2.2.2.2.1.1.1, .inl g.2.2.2.2.2.2.2.2.1.1.2)), ((ad 23), .inl (ca 2, g.2.2.2.2.2.2.2.2.1.2.1.1, .inl g.2.2.2.2.2.2.2.2.1.2.1.2)), ((ad 24), .inl (ca 2, g.2.2.2.2.2.2.2.2.1.2.2.1.1, .inl g.2.2.2.2.2.2.2.2.1.2.2.1.2)), ((ad 25), .inl (ca 2, g.2.2.2.2.2.2.2.2.1.2.2.2.1.1, .inl g.2.2.2.2.2.2.2.2.1.2.2.2.1.2)), ((ad 26), .inl (ca 3, g.2.2.2.2.2.2.2.2.1.2.2.2.2.1.1, .inr (.inl g.2.2.2.2.2.2.2.2.1.2.2.2.2.1.2))), ((ad 27), .inr (4, [.ref (ad 28), .ref (ad 29), .ref (ad 30), .ref (ad 31), .ref (ad 32), .int g.2.2.2.2.2.2.2.2.2.1.2.2.2.2.2])), ((ad 28), .inl (ca 2, g.2.2.2.2.2.2.2.2.2.1.1.1, .inl g.2.2.2.2.2.2.2.2.2.1.1.2)), ((ad 29), .inl (ca 2, g.2.2.2.2.2.2.2.2.2.1.2.1.1, .inl g.2.2.2.2.2.2.2.2.2.1.2.1.2)), ((ad 30), .inl (ca 2, g.2.2.2.2.2.2.2.2.2.1.2.2.1.1, .inl g.2.2.2.2.2.2.2.2.2.1.2.2.1.2)), ((ad 31), .inl (ca 2, g.2.2.2.2.2.2.2.2.2.1.2.2.2.1.1, .inl g.2.2.2.2.2.2.2.2.2.1.2.2.2.1.2)), ((ad 32), .inl (ca 3, g.2.2.2.2.2.2.2.2.2.1.2.2.2.2.1.1, .inr (.inl g.2.2.2.2.2.2.2.2.2.1.2.2.2.2.1.2))), ((ad 33), .inl (ca 2, g.2.2.2.2.2.2.2.2.2.2.1.1, .inl g.2.2.2.2.2.2.2.2.2.2.1.2))]
def g_medium (g : St_Log) : St_Medium := g.1
def s_medium (g : St_Log) (x : St_Medium) : St_Log := (x, g.2)
def g_tape (g : St_Log) : St_Bytes := g.2.1
def s_tape (g : St_Log) (x : St_Bytes) : St_Log := (g.1, x, g.2.2)
def g_image (g : St_Log) : St_Bytes := g.2.2.1
def s_image (g : St_Log) (x : St_Bytes) : St_Log := (g.1, g.2.1, x, g.2.2.2)
def g_savepoint (g : St_Log) : St_Bytes := g.2.2.2.1
def s_savepoint (g : St_Log) (x : St_Bytes) : St_Log := (g.1, g.2.1, g.2.2.1, x, g.2.2.2.2)
def g_otherSavepoint (g : St_Log) : St_Bytes := g.2.2.2.2.1
def s_otherSavepoint (g : St_Log) (x : St_Bytes) : St_Log := (g.1, g.2.1, g.2.2.1, g.2.2.2.1, x, g.2.2.2.2.2)
def g_room (g : St_Log) : St_Room := g.2.2.2.2.2.1
def s_room (g : St_Log) (x : St_Room) : St_Log := (g.1, g.2.1, g.2.2.1, g.2.2.2.1, g.2.2.2.2.1, x, g.2.2.2.2.2.2)
def g_trial (g : St_Log) : St_Room := g.2.2.2.2.2.2.1
def s_trial (g : St_Log) (x : St_Room) : St_Log := (g.1, g.2.1, g.2.2.1, g.2.2.2.1, g.2.2.2.2.1, g.2.2.2.2.2.1, x, g.2.2.2.2.2.2.2)
def g_parts (g : St_Log) : St_Parts := g.2.2.2.2.2.2.2.1
def s_parts (g : St_Log) (x : St_Parts) : St_Log := (g.1, g.2.1, g.2.2.1, g.2.2.2.1, g.2.2.2.2.1, g.2.2.2.2.2.1, g.2.2.2.2.2.2.1, x, g.2.2.2.2.2.2.2.2)
def g_kept (g : St_Log) : St_Marks := g.2.2.2.2.2.2.2.2.1
def s_kept (g : St_Log) (x : St_Marks) : St_Log := (g.1, g.2.1, g.2.2.1, g.2.2.2.1, g.2.2.2.2.1, g.2.2.2.2.2.1, g.2.2.2.2.2.2.1, g.2.2.2.2.2.2.2.1, x, g.2.2.2.2.2.2.2.2.2)
def g_made (g : St_Log) : St_Marks := g.2.2.2.2.2.2.2.2.2.1
def s_made (g : St_Log) (x : St_Marks) : St_Log := (g.1, g.2.1, g.2.2.1, g.2.2.2.1, g.2.2.2.2.1, g.2.2.2.2.2.1, g.2.2.2.2.2.2.1, g.2.2.2.2.2.2.2.1, g.2.2.2.2.2.2.2.2.1, x, g.2.2.2.2.2.2.2.2.2.2)
def g_owners (g : St_Log) : AI := g.2.2.2.2.2.2.2.2.2.2.1
def s_owners (g : St_Log) (x : AI) : St_Log := (g.1, g.2.1, g.2.2.1, g.2.2.2.1, g.2.2.2.2.1, g.2.2.2.2.2.1, g.2.2.2.2.2.2.1, g.2.2.2.2.2.2.2.1, g.2.2.2.2.2.2.2.2.1, g.2.2.2.2.2.2.2.2.2.1, x, g.2.2.2.2.2.2.2.2.2.2.2)
def g_serial (g : St_Log) : Int32 := g.2.2.2.2.2.2.2.2.2.2.2.1
def s_serial (g : St_Log) (x : Int32) : St_Log := (g.1, g.2.1, g.2.2.1, g.2.2.2.1, g.2.2.2.2.1, g.2.2.2.2.2.1, g.2.2.2.2.2.2.1, g.2.2.2.2.2.2.2.1, g.2.2.2.2.2.2.2.2.1, g.2.2.2.2.2.2.2.2.2.1, g.2.2.2.2.2.2.2.2.2.2.1, x, g.2.2.2.2.2.2.2.2.2.2.2.2)
def g_greatestPart (g : St_Log) : Int32 := g.2.2.2.2.2.2.2.2.2.2.2.2.1
def s_greatestPart (g : St_Log) (x : Int32) : St_Log := (g.1, g.2.1, g.2.2.1, g.2.2.2.1, g.2.2.2.2.1, g.2.2.2.2.2.1, g.2.2.2.2.2.2.1, g.2.2.2.2.2.2.2.1, g.2.2.2.2.2.2.2.2.1, g.2.2.2.2.2.2.2.2.2.1, g.2.2.2.2.2.2.2.2.2.2.1, g.2.2.2.2.2.2.2.2.2.2.2.1, x, g.2.2.2.2.2.2.2.2.2.2.2.2.2)
def g_greatestMark (g : St_Log) : Int32 := g.2.2.2.2.2.2.2.2.2.2.2.2.2.1
def s_greatestMark (g : St_Log) (x : Int32) : St_Log := (g.1, g.2.1, g.2.2.1, g.2.2.2.1, g.2.2.2.2.1, g.2.2.2.2.2.1, g.2.2.2.2.2.2.1, g.2.2.2.2.2.2.2.1, g.2.2.2.2.2.2.2.2.1, g.2.2.2.2.2.2.2.2.2.1, g.2.2.2.2.2.2.2.2.2.2.1, g.2.2.2.2.2.2.2.2.2.2.2.1, g.2.2.2.2.2.2.2.2.2.2.2.2.1, x, g.2.2.2.2.2.2.2.2.2.2.2.2.2.2)
def g_isOpen (g : St_Log) : Int32 := g.2.2.2.2.2.2.2.2.2.2.2.2.2.2
def s_isOpen (g : St_Log) (x : Int32) : St_Log := (g.1, g.2.1, g.2.2.1, g.2.2.2.1, g.2.2.2.2.1, g.2.2.2.2.2.1, g.2.2.2.2.2.2.1, g.2.2.2.2.2.2.2.1, g.2.2.2.2.2.2.2.2.1, g.2.2.2.2.2.2.2.2.2.1, g.2.2.2.2.2.2.2.2.2.2.1, g.2.2.2.2.2.2.2.2.2.2.2.1, g.2.2.2.2.2.2.2.2.2.2.2.2.1, g.2.2.2.2.2.2.2.2.2.2.2.2.2.1, x)
