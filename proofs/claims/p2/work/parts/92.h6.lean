-- CALLS THAT TOUCH MEDIUM OR TAPE ALONE
theorem Rel_fr {n : Nat} {g g' : St_Log} {r r' : St_Ref} (h : Rel n g r) (hc : Cor n g' r') (ho : g_isOpen g' = 1 → g_isOpen g = 1) (e1 : g_parts g' = g_parts g) (e2 : g_kept g' = g_kept g) (e3 : g_made g' = g_made g) (e4 : g_room g' = g_room g) (e5 : g_greatestPart g' = g_greatestPart g) (e6 : g_greatestMark g' = g_greatestMark g) (e7 : g_owners g' = g_owners g) (e8 : g_serial g' = g_serial g) (f1 : fPar r' = fPar r) (f2 : fMrk r' = fMrk r) (f3 : fLs r' = fLs r) (f4 : fHd r' = fHd r) : Rel n g' r' :=
  ⟨hc, fun h1 => Tab_fr e1 e2 e3 e4 e5 e6 e7 e8 f1 f2 f3 f4 (h.2 (ho h1))⟩
theorem Pw_of {p : Int32} (h1 : ¬ p < (-1)) (h2 : p ≤ 20000) : Pw p := by
  by_cases h0 : p < 0
  · left
    have a1 := Int32.lt_iff_toInt_lt.mp h0
    have a2 : ¬ p.toInt < Int32.toInt (-1) := fun e => h1 (Int32.lt_iff_toInt_lt.mpr e)
    have a3 : Int32.toInt (-1) = -1 := by decide
    have a4 : Int32.toInt 0 = 0 := by decide
    apply Int32.toInt_inj.mp
    omega
  · right
    obtain ⟨j, hj, rfl⟩ := nI_of2 (x := p) (M := 20000) (n := 20000) (by decide +kernel) h0 h2
    exact ⟨j, hj, rfl⟩
theorem st_cut {n : Nat} {g : St_Log} {r : St_Ref} (h : Rel n g r) (p : Int32) : ∃ a g' r', m_Log_cut g p = some (a, g') ∧ m_RRef_cut r p = some (a, r') ∧ Rel n g' r' := by
  obtain ⟨⟨hn, hC, hR, ht, ho, hts⟩, hT⟩ := id h
  unfold m_Log_cut m_RRef_cut m_RRef_isIn
  by_cases h1 : p < (-1)
  · exact ⟨0, g, r, by rw [if_pos h1], by rw [if_pos h1]; rfl, h⟩
  · by_cases h2 : p ≤ 20000
    · refine ⟨1, s_medium g ((g_medium g).1, (g_medium g).2.1, p, (g_medium g).2.2.2), s_RcutIn r p, ?_, ?_, ?_⟩
      · rw [if_neg h1, if_pos h2]; rfl
      · rw [if_neg h1, if_neg (Int32.not_lt.mpr h2)]; rfl
      · have hp := Pw_of h1 h2
        have hm := ci_medium hC
        have t1 : (g_medium g).2.1.2 = (g_Rmedium r).2 := congrArg (fun z : (Nat → Int32) × Int32 × Int32 => z.1) ht
        have t3 : (g_medium g).2.2.2 = g_Rwritten r := congrArg (fun z : (Nat → Int32) × Int32 × Int32 => z.2.2) ht
        refine Rel_fr h ⟨hn, cs_medium hC ⟨hm.1, hp, hm.2.2⟩, rs_cutIn hR hp, ?_, ?_, ?_⟩ ?_ rfl rfl rfl rfl rfl rfl rfl rfl rfl rfl rfl rfl
        · show ((g_medium g).2.1.2, p, (g_medium g).2.2.2) = ((g_Rmedium r).2, p, g_Rwritten r)
          rw [t1, t3]
        · simp only [q_isOpen, qR_open]; exact ho
        · simp only [q_tape, qR_tape, qR_taped]; exact hts
        · simp only [q_isOpen]; exact fun e => e
    · exact ⟨0, g, r, by rw [if_neg h1, if_neg h2], by rw [if_neg h1, if_pos (Int32.not_le.mp h2)]; rfl, h⟩
theorem st_close {n : Nat} {g : St_Log} {r : St_Ref} (h : Rel n g r) : ∃ a g' r', m_Log_close g = some (a, g') ∧ m_RRef_close r = some (a, r') ∧ Rel n g' r' := by
  obtain ⟨⟨hn, hC, hR, ht, ho, hts⟩, hT⟩ := id h
  unfold m_Log_close m_RRef_close
  refine ⟨g_isOpen g, s_isOpen g 0, s_Ropen r 0, ?_, ?_, ?_⟩
  · rw [if_neg (fun e => e (ci_isOpen hC))]
  · rw [if_neg (fun e => e (ri_open hR)), ho]
  · refine ⟨⟨hn, cs_isOpen hC (Or.inl rfl), rs_open hR (Or.inl rfl), ?_, ?_, ?_⟩, fun e => ?_⟩
    · simp only [rtri, q_medium, qR_medium, qR_cutIn, qR_written]; exact ht
    · simp only [q_isOpen, qR_open]
    · simp only [q_tape, qR_tape, qR_taped]; exact hts
    · simp only [q_isOpen] at e
      exact absurd e (by decide)
theorem BB0 : BB 2000 ((2000, fun _ => 0), 0) 0 := ⟨rfl, rfl, by omega, fun _ _ => rfl⟩
theorem kTp0 : kTp ((2000, fun _ => 0), 0) := ⟨⟨0, BB0⟩, fun _ => By0⟩
theorem Cor_wipe {n : Nat} {g : St_Log} {r : St_Ref} (h : Cor n g r) : Cor n (s_tape g ((2000, fun _ => 0), 0)) (s_Rtaped r 0) := by
  obtain ⟨hn, hC, hR, ht, ho, hts⟩ := h
  refine ⟨hn, cs_tape hC kTp0, rs_taped hR ⟨0, by omega, n0⟩, ?_, ?_, ⟨0, ?_, ?_, fun j hj => absurd hj (by omega)⟩⟩
  · simp only [rtri, q_medium, qR_medium, qR_cutIn, qR_written]; exact ht
  · simp only [q_isOpen, qR_open]; exact ho
  · simp only [q_tape]; exact BB0
  · simp only [qR_taped]; exact n0
theorem Rel_wipe {n : Nat} {g : St_Log} {r : St_Ref} (h : Rel n g r) : Rel n (s_tape g ((2000, fun _ => 0), 0)) (s_Rtaped r 0) := by
  refine Rel_fr h (Cor_wipe h.1) ?_ rfl rfl rfl rfl rfl rfl rfl rfl rfl rfl rfl rfl
  simp only [q_isOpen]; exact fun e => e
theorem st_wipe {n : Nat} {g : St_Log} {r : St_Ref} (h : Rel n g r) : ∃ a g' r', m_Log_wipe g = some (a, g') ∧ m_RRef_wipe r = some (a, r') ∧ Rel n g' r' := by
  obtain ⟨ts, hb, e1, e2⟩ := h.1.2.2.2.2.2
  unfold m_Log_wipe m_RRef_wipe
  refine ⟨nI ts, _, _, ?_, ?_, Rel_wipe h⟩
  · unfold m_Bytes_size
    rw [Option.bind_some, hb.2.1, bs (B_clear hb (by omega))]
  · rw [e1]
/-- d bytes of v behind s others, the j-th first -/
def feF (f : Nat → Int32) (s d : Nat) (v : Int64) (j : Nat) : Nat → Int32 := fun i => if s ≤ i ∧ i < s + d then bv (jlushr v (nI (8 * (j + (i - s))))) else f i
theorem feF_step (f : Nat → Int32) (s d : Nat) (v : Int64) (j : Nat) : feF (upd f s (bv (jlushr v (nI (8 * j))))) (s + 1) d v (j + 1) = feF f s (d + 1) v j := by
  funext i
  unfold feF upd
  by_cases h1 : i = s
  · rw [if_neg (by omega), if_pos h1, if_pos (by omega), show j + (i - s) = j by omega]
  · by_cases h2 : s + 1 ≤ i ∧ i < s + 1 + d
    · rw [if_pos h2, if_pos (by omega), show j + 1 + (i - (s + 1)) = j + (i - s) by omega]
    · rw [if_neg h2, if_neg h1, if_neg (by omega)]
theorem ss_tape (g : St_Log) (a b : St_Bytes) : s_tape (s_tape g a) b = s_tape g b := rfl
theorem C_feed_L {g : St_Log} (v : Int64) {K : Nat} (hK : K ≤ 8) : ∀ (d fuel j s : Nat) (x : St_Bytes), BB 2000 x s → s + d ≤ 2000 → j + d = K → d < fuel → ∃ x', m_Log_feed_L35 fuel (s_tape g x) v (nI K) (nI j) = some (nI (s + d), s_tape g x') ∧ BB 2000 x' (s + d) ∧ x'.1.2 = feF x.1.2 s d v j := by
  intro d
  induction d with
  | zero =>
    intro fuel j s x h hs hj hf
    obtain ⟨fu, rfl, -⟩ := fu1 hf
    refine ⟨x, ?_, h, ?_⟩
    · rw [m_Log_feed_L35, if_pos (nI_le (by omega) (by omega))]
      unfold m_Bytes_size
      simp only [q_tape]
      rw [h.2.1]; rfl
    · funext i
      unfold feF
      rw [if_neg (by omega)]
  | succ d ih =>
    intro fuel j s x h hs hj hf
    obtain ⟨fu, rfl, hf'⟩ := fu1 hf
    obtain ⟨x1, p1, p2, p3⟩ := B_put h (by omega) (i := s) (K := 1) (by omega) (by omega) (jlushr v (nI (8 * j)))
    rw [show max s (s + 1) = s + 1 by omega] at p3
    obtain ⟨x', a1, a2, a3⟩ := ih fu (j + 1) (s + 1) x1 p3 (by omega) (by omega) (by omega)
    rw [show s + 1 + d = s + (d + 1) by omega] at a1 a2
    refine ⟨x', ?_, a2, ?_⟩
    · rw [m_Log_feed_L35, if_neg (nI_ge (by omega) (by omega))]
      simp only [q_tape, ss_tape]
      have e : m_Bytes_add x (jlushr v (8 * nI j)) 1 = some x1 := by
        unfold m_Bytes_add
        rw [h.2.1, n8, pk_mul]
        exact bs (show m_Bytes_put x (nI s) (jlushr v (nI (8 * j))) 1 = some x1 from p1)
      refine Eq.trans (bs e) ?_
      rw [nI_1]
      exact a1
    · rw [a3, p2, pF1, feF_step]
theorem sr_tape (g : St_Ref) (a b : AI) (c d : Int32) : s_Rtaped (s_Rtape (s_Rtaped (s_Rtape g a) c) b) d = s_Rtaped (s_Rtape g b) d := rfl
theorem R_feed_L {r : St_Ref} (v : Int64) {K : Nat} (hK : K ≤ 8) : ∀ (d fuel j s : Nat) (f : Nat → Int32), s + d ≤ 2000 → j + d = K → d < fuel → m_RRef_feed_L31 fuel (s_Rtaped (s_Rtape r (2000, f)) (nI s)) v (nI K) (nI j) = some (nI (s + d), s_Rtaped (s_Rtape r (2000, feF f s d v j)) (nI (s + d))) := by
  intro d
  induction d with
  | zero =>
    intro fuel j s f hs hj hf
    obtain ⟨fu, rfl, -⟩ := fu1 hf
    rw [m_RRef_feed_L31, if_pos (nI_le (by omega) (by omega))]
    simp only [qR_taped]
    have : feF f s 0 v j = f := by
      funext i
      unfold feF
      rw [if_neg (by omega)]
    rw [this]; rfl
  | succ d ih =>
    intro fuel j s f hs hj hf
    obtain ⟨fu, rfl, hf'⟩ := fu1 hf
    rw [m_RRef_feed_L31, if_neg (nI_ge (by omega) (by omega))]
    simp only [qR_taped, qR_tape, sr_tape]
    refine Eq.trans (if_neg (nI_in (show s < 2000 by omega) (by omega))) ?_
    rw [n8, pk_mul, bvr v (by omega), nI_clamp (by omega), nI_1, nI_1]
    have a1 := ih fu (j + 1) (s + 1) (upd f s (bv (jlushr v (nI (8 * j))))) (by omega) (by omega) (by omega)
    rw [feF_step, show s + 1 + d = s + (d + 1) by omega] at a1
    exact a1
theorem By_feF {f : Nat → Int32} (h : ∀ j, By (f j)) (s d : Nat) (v : Int64) (j : Nat) : ∀ i, By (feF f s d v j i) := by
  intro i
  unfold feF
  split
  · exact By_bv _
  · exact h i
theorem st_feed {n : Nat} {g : St_Log} {r : St_Ref} (h : Rel n g r) (v : Int64) (p : Int32) : ∃ a g' r', m_Log_feed g v p = some (a, g') ∧ m_RRef_feed r v p = some (a, r') ∧ Rel n g' r' := by
  obtain ⟨⟨hn, hC, hR, ht, ho, ts, hb, e1, e2⟩, hT⟩ := id h
  have hsz : m_Bytes_size (g_tape g) = some (nI ts) := by unfold m_Bytes_size; rw [hb.2.1]
  have hts := hb.2.2.1
  unfold m_Log_feed m_RRef_feed m_RRef_isIn
  by_cases h1 : p < 1
  · exact ⟨-2, g, r, by rw [if_pos h1], by rw [if_pos h1]; rfl, h⟩
  · by_cases h2 : p ≤ 8
    · have h0 : ¬ p < 0 := fun e => h1 (Int32.lt_trans e (by decide))
      obtain ⟨k, hk, rfl⟩ := nI_of2 (x := p) (M := 8) (n := 8) (by decide +kernel) h0 h2
      rw [if_neg h1, if_pos h2, if_neg h1, if_neg (Int32.not_lt.mpr h2), bs hsz, e1, nI_add, show (2000 : Int32) = nI 2000 by decide +kernel]
      simp only [Option.bind_some]
      by_cases h3 : ts + k ≤ 2000
      · have hg : g = s_tape g (g_tape g) := rfl
        have hr : r = s_Rtaped (s_Rtape r (2000, (g_Rtape r).2)) (nI ts) := by
          have q1 : (2000, (g_Rtape r).2) = g_Rtape r := Prod.ext (ri_tape hR).1.symm rfl
          rw [q1, ← e1]; rfl
        obtain ⟨x', a1, a2, a3⟩ := C_feed_L (g := g) v (K := k) hk k FU 0 ts (g_tape g) hb h3 (by omega) (FU_lt (by omega))
        have b1 := R_feed_L (r := r) v (K := k) hk k FU 0 ts (g_Rtape r).2 h3 (by omega) (FU_lt (by omega))
        refine ⟨nI (ts + k), s_tape g x', s_Rtaped (s_Rtape r (2000, feF (g_Rtape r).2 ts k v 0)) (nI (ts + k)), ?_, ?_, ?_⟩
        · rw [if_pos (nI_le h3 (by omega)), n0]; exact a1
        · rw [if_neg e10, if_pos (nI_le h3 (by omega)), n0]
          rw [← hr] at b1
          exact b1
        · have hby : ∀ j, By (x'.1.2 j) := by rw [a3]; exact By_feF (ci_tape hC).2 _ _ _ _
          have hcor : Cor n (s_tape g x') (s_Rtaped (s_Rtape r (2000, feF (g_Rtape r).2 ts k v 0)) (nI (ts + k))) := by
            refine ⟨hn, cs_tape hC ⟨⟨_, a2⟩, hby⟩, ?_, ?_, ?_, ⟨ts + k, ?_, ?_, ?_⟩⟩
            · refine rs_taped (rs_tape hR ?_) ?_
              · exact ⟨rfl, By_feF (ri_tape hR).2 _ _ _ _⟩
              · exact ⟨_, h3, rfl⟩
            · simp only [rtri, q_medium, qR_medium, qR_cutIn, qR_written]; exact ht
            · simp only [q_isOpen, qR_open]; exact ho
            · simp only [q_tape]; exact a2
            · simp only [qR_taped]
            · intro j hj
              simp only [q_tape, qR_tape]
              rw [a3]
              unfold feF
              by_cases hj2 : ts ≤ j ∧ j < ts + k
              · rw [if_pos hj2, if_pos hj2]
              · rw [if_neg hj2, if_neg hj2]; exact e2 j (by omega)
          refine Rel_fr h hcor ?_ rfl rfl rfl rfl rfl rfl rfl rfl (by simp only [qf_Par]) (by simp only [qf_Mrk]) (by simp only [qf_Ls]) (by simp only [qf_Hd])
          simp only [q_isOpen]; exact fun e => e
      · exact ⟨-4, g, r, by rw [if_neg (nI_ge (by omega) (by omega))], by rw [if_neg e10, if_neg (nI_ge (by omega) (by omega))], h⟩
    · exact ⟨-2, g, r, by rw [if_neg h1, if_neg h2], by rw [if_neg h1, if_pos (Int32.not_le.mp h2)]; rfl, h⟩
-- the medium, byte by byte
theorem C_has {n : Nat} {x : St_Medium} (h : MedOk n x) (p q : Int32) : (m_Medium_has x p q = some 1 ∧ ∃ a b : Nat, a < n ∧ b < 32 ∧ p = nI a ∧ q = nI b) ∨ (m_Medium_has x p q = some 0 ∧ (p < 0 ∨ nI n ≤ p ∨ q < 0 ∨ nI 32 ≤ q)) := by
  obtain ⟨h1, h2, h3, h4⟩ := h
  unfold m_Medium_has
  rw [h1, n32]
  rcases pk_ix p (n := n) (by omega) with h | h | ⟨a, ha, rfl⟩
  · right; exact ⟨if_pos h, Or.inl h⟩
  · right
    refine ⟨?_, Or.inr (Or.inl h)⟩
    by_cases h0 : p < 0
    · exact if_pos h0
    · rw [if_neg h0, if_pos h]
  · rw [if_neg (nI_pos (by omega)), if_neg (nI_ge ha (by omega))]
    rcases pk_ix q (n := 32) (by omega) with h | h | ⟨b, hb, rfl⟩
    · right; exact ⟨if_pos h, Or.inr (Or.inr (Or.inl h))⟩
    · right
      refine ⟨?_, Or.inr (Or.inr (Or.inr h))⟩
      by_cases h0 : q < 0
      · exact if_pos h0
      · rw [if_neg h0, if_pos h]
    · left
      exact ⟨by rw [if_neg (nI_pos (by omega)), if_neg (nI_ge hb (by omega))], a, b, ha, hb, rfl, rfl⟩
theorem lt_pred {n : Nat} (h : 1 ≤ n) (hn : n < 2 ^ 31) {p : Int32} : nI (n - 1) < p ↔ nI n ≤ p := by
  rw [Int32.lt_iff_toInt_lt, Int32.le_iff_toInt_le, nI_toInt (by omega), nI_toInt hn]
  omega
theorem R_has {n : Nat} {r : St_Ref} (hR : RI n r) (hn : 4 ≤ n ∧ n ≤ 512) {p q : Int32} (h : p < 0 ∨ nI n ≤ p ∨ q < 0 ∨ nI 32 ≤ q) {α : Type} (u v : Option α) (w : α) (hu : u = some w) : ((m_RRef_isIn p 0 ((g_Rrows r) - 1)).bind fun q1 => if q1 = 0 then u else ((m_RRef_isIn q 0 31).bind fun q3 => if q3 = 0 then u else v)) = some w := by
  have e : g_Rrows r - 1 = nI (n - 1) := by rw [show g_Rrows r = nI n from ri_rows hR, n1, pk_sub (by omega)]
  have e31 : (31 : Int32) = nI (32 - 1) := by decide +kernel
  unfold m_RRef_isIn
  rw [e, e31]
  by_cases a1 : p < 0
  · rw [if_pos a1]; exact hu
  · rw [if_neg a1]
    by_cases a2 : nI (n - 1) < p
    · rw [if_pos a2]; exact hu
    · rw [if_neg a2, Option.bind_some, if_neg e10]
      by_cases a3 : q < 0
      · rw [if_pos a3]; exact hu
      · rw [if_neg a3]
        by_cases a4 : nI (32 - 1) < q
        · rw [if_pos a4]; exact hu
        · rcases h with z | z | z | z
          · exact absurd z a1
          · exact absurd ((lt_pred (by omega) (by omega)).mpr z) a2
          · exact absurd z a3
          · exact absurd ((lt_pred (by omega) (by omega)).mpr z) a4
theorem R_has1 {n : Nat} {r : St_Ref} (hR : RI n r) (hn : 4 ≤ n ∧ n ≤ 512) {a b : Nat} (ha : a < n) (hb : b < 32) : m_RRef_isIn (nI a) 0 ((g_Rrows r) - 1) = some 1 ∧ m_RRef_isIn (nI b) 0 31 = some 1 := by
  have e : g_Rrows r - 1 = nI (n - 1) := by rw [show g_Rrows r = nI n from ri_rows hR, n1, pk_sub (by omega)]
  have e31 : (31 : Int32) = nI 31 := by decide +kernel
  unfold m_RRef_isIn
  rw [e, e31]
  constructor
  · rw [if_neg (nI_pos (by omega)), if_neg (nI_nlt (by omega) (by omega))]
  · rw [if_neg (nI_pos (by omega)), if_neg (nI_nlt (by omega) (by omega))]
theorem st_byteAt {n : Nat} {g : St_Log} {r : St_Ref} (h : Rel n g r) (p q : Int32) : ∃ a, m_Log_byteAt g p q = some a ∧ m_RRef_byteAt r p q = some a := by
  obtain ⟨⟨hn, hC, hR, ht, ho, hts⟩, hT⟩ := id h
  have hm := ci_medium hC
  have t1 : (g_medium g).2.1.2 = (g_Rmedium r).2 := congrArg (fun z : (Nat → Int32) × Int32 × Int32 => z.1) ht
  unfold m_Log_byteAt m_RRef_byteAt
  rcases C_has hm.1 p q with ⟨e, a, b, ha, hb, rfl, rfl⟩ | ⟨e, z⟩
  · refine ⟨(g_medium g).2.1.2 (32 * a + b) &&& 255, ?_, ?_⟩
    · rw [bs e, if_neg e10, bs (c_at hm.1 ha hb)]
    · obtain ⟨i1, i2⟩ := R_has1 hR hn ha hb
      rw [bs i1, if_neg e10, bs i2, if_neg e10, n32, pk_mul, nI_add, show (g_Rmedium r).1 = 16384 from (ri_medium hR).1, if_neg (nI_in (by omega) (by omega)), nI_clamp (by omega), t1]
  · refine ⟨-2, by rw [bs e, if_pos rfl], ?_⟩
    exact R_has hR hn z _ _ _ rfl
theorem i8_xor (x m : Int32) : (x ^^^ (m.toInt8.toInt32)).toInt8 = (x ^^^ m).toInt8 := by
  rw [Int32.toInt8_xor, Int32.toInt8_xor, Int8.toInt8_toInt32]
theorem st_poke {n : Nat} {g : St_Log} {r : St_Ref} (h : Rel n g r) (p q m : Int32) : ∃ a g' r', m_Log_poke g p q m = some (a, g') ∧ m_RRef_poke r p q m = some (a, r') ∧ Rel n g' r' := by
  obtain ⟨⟨hn, hC, hR, ht, ho, hts⟩, hT⟩ := id h
  have hm := ci_medium hC
  have t1 : (g_medium g).2.1.2 = (g_Rmedium r).2 := congrArg (fun z : (Nat → Int32) × Int32 × Int32 => z.1) ht
  have t2 : (g_medium g).2.2.1 = g_RcutIn r := congrArg (fun z : (Nat → Int32) × Int32 × Int32 => z.2.1) ht
  have t3 : (g_medium g).2.2.2 = g_Rwritten r := congrArg (fun z : (Nat → Int32) × Int32 × Int32 => z.2.2) ht
  unfold m_Log_poke m_RRef_poke
  rcases C_has hm.1 p q with ⟨e, a, b, ha, hb, rfl, rfl⟩ | ⟨e, z⟩
  · obtain ⟨i1, i2⟩ := R_has1 hR hn ha hb
    rw [bs e, if_neg e10, bs i1, if_neg e10, bs i2, if_neg e10]
    unfold m_RRef_isIn
    by_cases h1 : m < 1
    · exact ⟨-2, g, r, by rw [if_pos h1], by rw [if_pos h1]; rfl, h⟩
    · by_cases h2 : m ≤ 255
      · rw [if_neg h1, if_pos h2, if_neg h1, if_neg (Int32.not_lt.mpr h2)]
        simp only [Option.bind_some]
        rw [if_neg e10]
        obtain ⟨c, hc⟩ : ∃ c : Int32, c = vp_nar .byte (((((g_Rmedium r).2 (32 * a + b)) ^^^ m)).toInt8.toInt32) := ⟨_, rfl⟩
        obtain ⟨x', hx'⟩ : ∃ x' : St_Medium, x' = ((g_medium g).1, ((g_medium g).2.1.1, upd (g_medium g).2.1.2 (32 * a + b) c), (g_medium g).2.2.1, (g_medium g).2.2.2) := ⟨_, rfl⟩
        have hM' : MedOk n x' := by rw [hx']; exact hm.1
        have hal : m_Medium_alter (g_medium g) (nI a) (nI b) m = some x' := by
          unfold m_Medium_alter
          rw [bs e, if_neg e10, n32, pk_mul, nI_add, show (g_medium g).2.1.1 = 32 * n from hm.1.2.1, if_neg (nI_in (by omega) (by omega)), if_neg (nI_in (by omega) (by omega)), nI_clamp (by omega), i8_xor, Nat.mul_comm a 32, hx', hc, t1, show (g_medium g).2.1.1 = 32 * n from hm.1.2.1]
        have hat := c_at hM' ha hb
        have hx2 : x'.2.1.2 (32 * a + b) = c := by
          rw [hx']
          show (if 32 * a + b = 32 * a + b then c else _) = c
          rw [if_pos rfl]
        rw [hx2] at hat
        refine ⟨c &&& 255, s_medium g x', s_Rmedium r ((g_Rmedium r).1, upd (g_Rmedium r).2 (32 * a + b) c), ?_, ?_, ?_⟩
        · rw [bs hal, bs hat]
        · rw [n32, pk_mul, nI_add, nI_clamp (show 32 * a + b < 2 ^ 31 by omega), ← hc]
          have l1 : (g_Rmedium r).1 = 16384 := (ri_medium hR).1
          have i0 : ¬ (nI (32 * a + b) < 0 ∨ (g_Rmedium r).1 ≤ 32 * a + b) := by
            have := nI_in (c := 32 * a + b) (N := 16384) (by omega) (by omega)
            rw [nI_clamp (by omega)] at this
            rw [l1]; exact this
          refine Eq.trans (if_neg i0) ?_
          refine Eq.trans (if_neg i0) ?_
          refine Eq.trans (if_neg i0) ?_
          show some ((if 32 * a + b = 32 * a + b then c else _) &&& 255, _) = _
          rw [if_pos rfl]
        · have hcB : By c := by rw [hc]; exact By_nar _
          refine Rel_fr h ⟨hn, cs_medium hC ⟨hM', by rw [hx']; exact hm.2.1, by rw [hx']; exact By_upd hm.2.2 _ hcB⟩, rs_medium hR ⟨(ri_medium hR).1, By_upd (ri_medium hR).2 _ hcB⟩, ?_, ?_, ?_⟩ ?_ rfl rfl rfl rfl rfl rfl rfl rfl rfl rfl rfl rfl
          · rw [hx']
            show (upd (g_medium g).2.1.2 (32 * a + b) c, (g_medium g).2.2.1, (g_medium g).2.2.2) = (upd (g_Rmedium r).2 (32 * a + b) c, g_RcutIn r, g_Rwritten r)
            rw [t1, t2, t3]
          · simp only [q_isOpen, qR_open]; exact ho
          · simp only [q_tape, qR_tape, qR_taped]; exact hts
          · simp only [q_isOpen]; exact fun e => e
      · exact ⟨-2, g, r, by rw [if_neg h1, if_neg h2], by rw [if_neg h1, if_pos (Int32.not_le.mp h2)]; rfl, h⟩
  · refine ⟨-2, g, r, by rw [bs e, if_pos rfl], ?_, h⟩
    exact R_has hR hn z _ _ _ rfl
