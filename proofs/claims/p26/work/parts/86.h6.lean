-- CALLS THAT TOUCH MEDIUM OR TAPE ALONE
theorem Rel_fr {n : Nat} {g g' : St_Log} {r r' : St_Ref} (h : Rel n g r) (hc : Cor n g' r') (ho : g_isOpen g' = 1 → g_isOpen g = 1) (e1 : g_parts g' = g_parts g) (e2 : g_kept g' = g_kept g) (e3 : g_made g' = g_made g) (e4 : g_room g' = g_room g) (e5 : g_greatestPart g' = g_greatestPart g) (e6 : g_greatestMark g' = g_greatestMark g) (e7 : g_owners g' = g_owners g) (e8 : g_serial g' = g_serial g) (f1 : fPar r' = fPar r) (f2 : fMrk r' = fMrk r) (f3 : fLs r' = fLs r) (f4 : fHd r' = fHd r) : Rel n g' r' :=
  ⟨hc, fun h1 => Tab_fr e1 e2 e3 e4 e5 e6 e7 e8 f1 f2 f3 f4 (h.2 (ho h1))⟩
theorem Pw_of {p : Int32} (h1 : ¬ p < (-1)) (h2 : p ≤ 20000) : Pw p := by
  by_cases h0 : p < 0
  · left
    have a1 := Int32.lt_iff_toInt_lt.mp h0
    have a2 : ¬ p.toInt < Int32.toInt (-1) := fun e => h1 (Int32.lt_iff_toInt_lt.mpr e)
    have a3 : Int32.toInt (-1) = -1 := by decide
    have a4 : Int32.toInt 0 = 0 := by decide
    apply Int32.toInt_inj.mp
    omega
  · right
    obtain ⟨j, hj, rfl⟩ := nI_of2 (x := p) (M := 20000) (n := 20000) (by decide +kernel) h0 h2
    exact ⟨j, hj, rfl⟩
theorem st_cut {n : Nat} {g : St_Log} {r : St_Ref} (h : Rel n g r) (p : Int32) : ∃ a g' r', m_Log_cut g p = some (a, g') ∧ m_RRef_cut r p = some (a, r') ∧ Rel n g' r' := by
  obtain ⟨⟨hn, hC, hR, ht, ho, hts⟩, hT⟩ := id h
  unfold m_Log_cut m_RRef_cut m_RRef_isIn
  by_cases h1 : p < (-1)
  · exact ⟨0, g, r, by rw [if_pos h1], by rw [if_pos h1]; rfl, h⟩
  · by_cases h2 : p ≤ 20000
    · refine ⟨1, s_medium g ((g_medium g).1, (g_medium g).2.1, p, (g_medium g).2.2.2), s_RcutIn r p, ?_, ?_, ?_⟩
      · rw [if_neg h1, if_pos h2]; rfl
      · rw [if_neg h1, if_neg (Int32.not_lt.mpr h2)]; rfl
      · have hp := Pw_of h1 h2
        have hm := ci_medium hC
        have t1 : (g_medium g).2.1.2 = (g_Rmedium r).2 := congrArg (fun z : (Nat → Int32) × Int32 × Int32 => z.1) ht
        have t3 : (g_medium g).2.2.2 = g_Rwritten r := congrArg (fun z : (Nat → Int32) × Int32 × Int32 => z.2.2) ht
        refine Rel_fr h ⟨hn, cs_medium hC ⟨hm.1, hp, hm.2.2⟩, rs_cutIn hR hp, ?_, ?_, ?_⟩ ?_ rfl rfl rfl rfl rfl rfl rfl rfl rfl rfl rfl rfl
        · show ((g_medium g).2.1.2, p, (g_medium g).2.2.2) = ((g_Rmedium r).2, p, g_Rwritten r)
          rw [t1, t3]
        · simp only [q_isOpen, qR_open]; exact ho
        · simp only [q_tape, qR_tape, qR_taped]; exact hts
        · simp only [q_isOpen]; exact fun e => e
    · exact ⟨0, g, r, by rw [if_neg h1, if_neg h2], by rw [if_neg h1, if_pos (Int32.not_le.mp h2)]; rfl, h⟩
theorem st_close {n : Nat} {g : St_Log} {r : St_Ref} (h : Rel n g r) : ∃ a g' r', m_Log_close g = some (a, g') ∧ m_RRef_close r = some (a, r') ∧ Rel n g' r' := by
  obtain ⟨⟨hn, hC, hR, ht, ho, hts⟩, hT⟩ := id h
  unfold m_Log_close m_RRef_close
  refine ⟨g_isOpen g, s_isOpen g 0, s_Ropen r 0, ?_, ?_, ?_⟩
  · rw [if_neg (fun e => e (ci_isOpen hC))]
  · rw [if_neg (fun e => e (ri_open hR)), ho]
  · refine ⟨⟨hn, cs_isOpen hC (Or.inl rfl), rs_open hR (Or.inl rfl), ?_, ?_, ?_⟩, fun e => ?_⟩
    · simp only [rtri, q_medium, qR_medium, qR_cutIn, qR_written]; exact ht
    · simp only [q_isOpen, qR_open]
    · simp only [q_tape, qR_tape, qR_taped]; exact hts
    · simp only [q_isOpen] at e
      exact absurd e (by decide)
theorem BB0 : BB 2000 ((2000, fun _ => 0), 0) 0 := ⟨rfl, rfl, by omega, fun _ _ => rfl⟩
theorem kTp0 : kTp ((2000, fun _ => 0), 0) := ⟨⟨0, BB0⟩, fun _ => By0⟩
theorem Cor_wipe {n : Nat} {g : St_Log} {r : St_Ref} (h : Cor n g r) : Cor n (s_tape g ((2000, fun _ => 0), 0)) (s_Rtaped r 0) := by
  obtain ⟨hn, hC, hR, ht, ho, hts⟩ := h
  refine ⟨hn, cs_tape hC kTp0, rs_taped hR ⟨0, by omega, n0⟩, ?_, ?_, ⟨0, ?_, ?_, fun j hj => absurd hj (by omega)⟩⟩
  · simp only [rtri, q_medium, qR_medium, qR_cutIn, qR_written]; exact ht
  · simp only [q_isOpen, qR_open]; exact ho
  · simp only [q_tape]; exact BB0
  · simp only [qR_taped]; exact n0
theorem Rel_wipe {n : Nat} {g : St_Log} {r : St_Ref} (h : Rel n g r) : Rel n (s_tape g ((2000, fun _ => 0), 0)) (s_Rtaped r 0) := by
  refine Rel_fr h (Cor_wipe h.1) ?_ rfl rfl rfl rfl rfl rfl rfl rfl rfl rfl rfl rfl
  simp only [q_isOpen]; exact fun e => e
theorem st_wipe {n : Nat} {g : St_Log} {r : St_Ref} (h : Rel n g r) : ∃ a g' r', m_Log_wipe g = some (a, g') ∧ m_RRef_wipe r = some (a, r') ∧ Rel n g' r' := by
  obtain ⟨ts, hb, e1, e2⟩ := h.1.2.2.2.2.2
  unfold m_Log_wipe m_RRef_wipe
  refine ⟨nI ts, _, _, ?_, ?_, Rel_wipe h⟩
  · unfold m_Bytes_size
    rw [Option.bind_some, hb.2.1, bs (B_clear hb (by omega))]
  · rw [e1]
/-- d bytes of v behind s others, the j-th first -/
def feF (f : Nat → Int32) (s d : Nat) (v : Int64) (j : Nat) : Nat → Int32 := fun i => if s ≤ i ∧ i < s + d then bv (jlushr v (nI (8 * (j + (i - s))))) else f i
theorem feF_step (f : Nat → Int32) (s d : Nat) (v : Int64) (j : Nat) : feF (upd f s (bv (jlushr v (nI (8 * j))))) (s + 1) d v (j + 1) = feF f s (d + 1) v j := by
  funext i
  unfold feF upd
  by_cases h1 : i = s
  · rw [if_neg (by omega), if_pos h1, if_pos (by omega), show j + (i - s) = j by omega]
  · by_cases h2 : s + 1 ≤ i ∧ i < s + 1 + d
    · rw [if_pos h2, if_pos (by omega), show j + 1 + (i - (s + 1)) = j + (i - s) by omega]
    · rw [if_neg h2, if_neg h1, if_neg (by omega)]
theorem ss_tape (g : St_Log) (a b : St_Bytes) : s_tape (s_tape g a) b = s_tape g b := rfl
theorem C_feed_L {g : St_Log} (v : Int64) {K : Nat} (hK : K ≤ 8) : ∀ (d fuel j s : Nat) (x : St_Bytes), BB 2000 x s → s + d ≤ 2000 → j + d = K → d < fuel → ∃ x', m_Log_feed_L35 fuel (s_tape g x) v (nI K) (nI j) = some (nI (s + d), s_tape g x') ∧ BB 2000 x' (s + d) ∧ x'.1.2 = feF x.1.2 s d v j := by
  intro d
  induction d with
  | zero =>
    intro fuel j s x h hs hj hf
    obtain ⟨fu, rfl, -⟩ := fu1 hf
    refine ⟨x, ?_, h, ?_⟩
    · rw [m_Log_feed_L35, if_pos (nI_le (by omega) (by omega))]
      unfold m_Bytes_size
      simp only [q_tape]
      rw [h.2.1]; rfl
    · funext i
      unfold feF
      rw [if_neg (by omega)]
  | succ d ih =>
    intro fuel j s x h hs hj hf
    obtain ⟨fu, rfl, hf'⟩ := fu1 hf
    obtain ⟨x1, p1, p2, p3⟩ := B_put h (by omega) (i := s) (K := 1) (by omega) (by omega) (jlushr v (nI (8 * j)))
    rw [show max s (s + 1) = s + 1 by omega] at p3
    obtain ⟨x', a1, a2, a3⟩ := ih fu (j + 1) (s + 1) x1 p3 (by omega) (by omega) (by omega)
    rw [show s + 1 + d = s + (d + 1) by omega] at a1 a2
    refine ⟨x', ?_, a2, ?_⟩
    · rw [m_Log_feed_L35, if_neg (nI_ge (by omega) (by omega))]
      simp only [q_tape, ss_tape]
      have e : m_Bytes_add x (jlushr v (8 * nI j)) 1 = some x1 := by
        unfold m_Bytes_add
        rw [h.2.1, n8, pk_mul]
        exact bs (show m_Bytes_put x (nI s) (jlushr v (nI (8 * j))) 1 = some x1 from p1)
      refine Eq.trans (bs e) ?_
      rw [nI_1]
      exact a1
    · rw [a3, p2, pF1, feF_step]
theorem sr_tape (g : St_Ref) (a b : AI) (c d : Int32) : s_Rtaped (s_Rtape (s_Rtaped (s_Rtape g a) c) b) d = s_Rtaped (s_Rtape g b) d := rfl
theorem R_feed_L {r : St_Ref} (v : Int64) {K : Nat} (hK : K ≤ 8) : ∀ (d fuel j s : Nat) (f : Nat → Int32), s + d ≤ 2000 → j + d = K → d < fuel → m_RRef_feed_L31 fuel (s_Rtaped (s_Rtape r (2000, f)) (nI s)) v (nI K) (nI j) = some (nI (s + d), s_Rtaped (s_Rtape r (2000, feF f s d v j)) (nI (s + d))) := by
  intro d
  induction d with
  | zero =>
    intro fuel j s f hs hj hf
    obtain ⟨fu, rfl, -⟩ := fu1 hf
    rw [m_RRef_feed_L31, if_pos (nI_le (by omega) (by omega))]
    simp only [qR_taped]
    have : feF f s 0 v j = f := by
      funext i
      unfold feF
      rw [if_neg (by omega)]
    rw [this]; rfl
  | succ d ih =>
    intro fuel j s f hs hj hf
    obtain ⟨fu, rfl, hf'⟩ := fu1 hf
    rw [m_RRef_feed_L31, if_neg (nI_ge (by omega) (by omega))]
    simp only [qR_taped, qR_tape, sr_tape]
    refine Eq.trans (if_neg (nI_in (show s < 2000 by omega) (by omega))) ?_
    rw [n8, pk_mul, bvr v (by omega), nI_clamp (by omega), nI_1, nI_1]
    have a1 := ih fu (j + 1) (s + 1) (upd f s (bv (jlushr v (nI (8 * j))))) (by omega) (by omega) (by omega)
    rw [feF_step, show s + 1 + d = s + (d + 1) by omega] at a1
    exact a1
theorem By_feF {f : Nat → Int32} (h : ∀ j, By (f j)) (s d : Nat) (v : Int64) (j : Nat) : ∀ i, By (feF f s d v j i) := by
  intro i
  unfold feF
  split
  · exact By_bv _
  · exact h i
theorem st_feed {n : Nat} {g : St_Log} {r : St_Ref} (h : Rel n g r) (v : Int64) (p : Int32) : ∃ a g' r', m_Log_feed g v p = some (a, g') ∧ m_RRef_feed r v p = some (a, r') ∧ Rel n g' r' := by
  obtain ⟨⟨hn, hC, hR, ht, ho, ts, hb, e1, e2⟩, hT⟩ := id h
  have hsz : m_Bytes_size (g_tape g) = some (nI ts) := by unfold m_Bytes_size; rw [hb.2.1]
  have hts := hb.2.2.1
  unfold m_Log_feed m_RRef_feed m_RRef_isIn
  by_cases h1 : p < 1
  · exact ⟨-2, g, r, by rw [if_pos h1], by rw [if_pos h1]; rfl, h⟩
  · by_cases h2 : p ≤ 8
    · have h0 : ¬ p < 0 := fun e => h1 (Int32.lt_trans e (by decide))
      obtain ⟨k, hk, rfl⟩ := nI_of2 (x := p) (M := 8) (n := 8) (by decide +kernel) h0 h2
      rw [if_neg h1, if_pos h2, if_neg h1, if_neg (Int32.not_lt.mpr h2), bs hsz, e1, nI_add, show (2000 : Int32) = nI 2000 by decide +kernel]
      simp only [Option.bind_some]
      by_cases h3 : ts + k ≤ 2000
      · have hg : g = s_tape g (g_tape g) := rfl
        have hr : r = s_Rtaped (s_Rtape r (2000, (g_Rtape r).2)) (nI ts) := by
          have q1 : (2000, (g_Rtape r).2) = g_Rtape r := Prod.ext (ri_tape hR).1.symm rfl
          rw [q1, ← e1]; rfl
        obtain ⟨x', a1, a2, a3⟩ := C_feed_L (g := g) v (K := k) hk k FU 0 ts (g_tape g) hb h3 (by omega) (FU_lt (by omega))
        have b1 := R_feed_L (r := r) v (K := k) hk k FU 0 ts (g_Rtape r).2 h3 (by omega) (FU_lt (by omega))
        refine ⟨nI (ts + k), s_tape g x', s_Rtaped (s_Rtape r (2000, feF (g_Rtape r).2 ts k v 0)) (nI (ts + k)), ?_, ?_, ?_⟩
        · rw [if_pos (nI_le h3 (by omega)), n0]; exact a1
        · rw [if_neg e10, if_pos (nI_le h3 (by omega)), n0]
          rw [← hr] at b1
          exact b1
        · have hby : ∀ j, By (x'.1.2 j) := by rw [a3]; exact By_feF (ci_tape hC).2 _ _ _ _
          have hcor : Cor n (s_tape g x') (s_Rtaped (s_Rtape r (2000, feF (g_Rtape r).2 ts k v 0)) (nI (ts + k))) := by
            refine ⟨hn, cs_tape hC ⟨⟨_, a2⟩, hby⟩, ?_, ?_, ?_, ⟨ts + k, ?_, ?_, ?_⟩⟩
            · refine rs_taped (rs_tape hR ?_) ?_
              · exact ⟨rfl, By_feF (ri_tape hR).2 _ _ _ _⟩
              · exact ⟨_, h3, rfl⟩
            · simp only [rtri, q_medium, qR_medium, qR_cutIn, qR_written]; exact ht
            · simp only [q_isOpen, qR_open]; exact ho
            · simp only [q_tape]; exact a2
            · simp only [qR_taped]
            · intro j hj
              simp only [q_tape, qR_tape]
              rw [a3]
              unfold feF
              by_cases hj2 : ts ≤ j ∧ j < ts + k
              · rw [if_pos hj2, if_pos hj2]
              · rw [if_neg hj2, if_neg hj2]; exact e2 j (by omega)
          refine Rel_fr h hcor ?_ rfl rfl rfl rfl rfl rfl rfl rfl (by simp only [qf_Par]) (by simp only [qf_Mrk]) (by simp only [qf_Ls]) (by simp only [qf_Hd])
          simp only [q_isOpen]; exact fun e => e
      · exact ⟨-4, g, r, by rw [if_neg (nI_ge (by omega) (by omega))], by rw [if_neg e10, if_neg (nI_ge (by omega) (by omega))], h⟩
    · exact ⟨-2, g, r, by rw [if_neg h1, if_neg h2], by rw [if_neg h1, if_pos (Int32.not_le.mp h2)]; rfl, h⟩
-- the medium, byte by byte
theorem C_has {n : Nat} {x : St_Medium} (h : MedOk n x) (p q : Int32) : (m_Medium_has x p q = some 1 ∧ ∃ a b : Nat, a < n ∧ b < 32 ∧ p = nI a ∧ q = nI b) ∨ (m_Medium_has x p q = some 0 ∧ (p < 0 ∨ nI n ≤ p ∨ q < 0 ∨ nI 32 ≤ q)) := by
  obtain ⟨h1, h2, h3, h4⟩ := h
  unfold m_Medium_has
  rw [h1, n32]
  rcases pk_ix p (n := n) (by omega) with h | h | ⟨a, ha, rfl⟩
  · right; exact ⟨if_pos h, Or.inl h⟩
  · right
    refine ⟨?_, Or.inr (Or.inl h)⟩
    by_cases h0 : p < 0
    · exact if_pos h0
    · rw [if_neg h0, if_pos h]
  · rw [if_neg (nI_pos (by omega)), if_neg (nI_ge ha (by omega))]
    rcases pk_ix q (n := 32) (by omega) with h | h | ⟨b, hb, rfl⟩
    · right; exact ⟨if_pos h, Or.inr (Or.inr (Or.inl h))⟩
    · right
      refine ⟨?_, Or.inr (Or.inr (Or.inr h))⟩
      by_cases h0 : q < 0
      · exact if_pos h0
      · rw [if_neg h0, if_pos h]
    · left
      exact ⟨by rw [if_neg (nI_pos (by omega)), if_neg (nI_ge hb (by omega))], a, b, ha, hb, rfl, rfl⟩
theorem lt_pred {n : Nat} (h : 1 ≤ n) (hn : n < 2 ^ 31) {p : Int32} : nI (n - 1) < p ↔ nI n ≤ p := by
  rw [Int32.lt_iff_toInt_lt, Int32.le_iff_toInt_le, nI_toInt (by omega), nI_toInt hn]
  omega
theorem R_has {n : Nat} {r : St_Ref} (hR : RI n r) (hn : 4 ≤ n ∧ n ≤ 512) {p q : Int32} (h : p < 0 ∨ nI n ≤ p ∨ q < 0 ∨ nI 32 ≤ q) {α : Type} (u v : Option α) (w : α) (hu : u = some w) : ((m_RRef_isIn p 0 ((g_Rrows r) - 1)).bind fun q1 => if q1 = 0 then u else ((m_RRef_isIn q 0 31).bind fun q3 => if q3 = 0 then u else v)) = some w := by
  have e : g_Rrows r - 1 = nI (n - 1) := by rw [show g_Rrows r = nI n from ri_rows hR, n1, pk_sub (by omega)]
  have e31 : (31 : Int32) = nI (32 - 1) := by decide +kernel
  unfold m_RRef_isIn
  rw [e, e31]
  by_cases a1 : p < 0
  · rw [if_pos a1]; exact hu
  · rw [if_neg a1]
    by_cases a2 : nI (n - 1) < p
    · rw [if_pos a2]; exact hu
    · rw [if_neg a2, Option.bind_some, if_neg e10]
      by_cases a3 : q < 0
      · rw [if_pos a3]; exact hu
      · rw [if_neg a3]
        by_cases a4 : nI (32 - 1) < q
        · rw [if_pos a4]; exact hu
        · rcases h with z | z | z | z
          · exact absurd z a1
          · exact absurd ((lt_pred (by omega) (by omega)).mpr z) a2
          · exact absurd z a3
          · exact absurd ((lt_pred (by omega) (by omega)).mpr z) a4
theorem R_has1 {n : Nat} {r : St_Ref} (hR : RI n r) (hn : 4 ≤ n ∧ n ≤ 512) {a b : Nat} (ha : a < n) (hb : b < 32) : m_RRef_isIn (nI a) 0 ((g_Rrows r) - 1) = some 1 ∧ m_RRef_isIn (nI b) 0 31 = some 1 := by
  have e : g_Rrows r - 1 = nI (n - 1) := by rw [show g_Rrows r = nI n from ri_rows hR, n1, pk_sub (by omega)]
  have e31 : (31 : Int32) = nI 31 := by decide +kernel
  unfold m_RRef_isIn
  rw [e, e31]
  constructor
  · rw [if_neg (nI_pos (by omega)), if_neg (nI_nlt (by omega) (by omega))]
  · rw [if_neg (nI_pos (by omega)), if_neg (nI_nlt (by omega) (by omega))]
theorem st_byteAt {n : Nat} {g : St_Log} {r : St_Ref} (h : Rel n g r) (p q : Int32) : ∃ a, m_Log_byteAt g p q = some a ∧ m_RRef_byteAt r p q = some a := by
  obtain ⟨⟨hn, hC, hR, ht, ho, hts⟩, hT⟩ := id h
  have hm := ci_medium hC
  have t1 : (g_medium g).2.1.2 = (g_Rmedium r).2 := congrArg (fun z : (Nat → Int32) × Int32 × Int32 => z.1) ht
  unfold m_Log_byteAt m_RRef_byteAt
  rcases C_has hm.1 p q with ⟨e, a, b, ha, hb, rfl, rfl⟩ | ⟨e, z⟩
  · refine ⟨(g_medium g).2.1.2 (32 * a + b) &&& 255, ?_, ?_⟩
    · rw [bs e, if_neg e10, bs (c_at hm.1 ha hb)]
    · obtain ⟨i1, i2⟩ := R_has1 hR hn ha hb
      rw [bs i1, if_neg e10, bs i2, if_neg e10, n32, pk_mul, nI_add, show (g_Rmedium r).1 = 16384 from (ri_medium hR).1, if_neg (nI_in (by omega) (by omega)), nI_clamp (by omega), t1]
  · refine ⟨-2, by rw [bs e, if_pos rfl], ?_⟩
    exact R_has hR hn z _ _ _ rfl
theorem i8_xor (x m : Int32) : (x ^^^ (m.toInt8.toInt32)).toInt8 = (x ^^^ m).toInt8 := by
  rw [Int32.toInt8_xor, Int32.toInt8_xor, Int8.toInt8_toInt32]
theorem st_poke {n : Nat} {g : St_Log} {r : St_Ref} (h : Rel n g r) (p q m : Int32) : ∃ a g' r', m_Log_poke g p q m = some (a, g') ∧ m_RRef_poke r p q m = some (a, r') ∧ Rel n g' r' := by
  obtain ⟨⟨hn, hC, hR, ht, ho, hts⟩, hT⟩ := id h
  have hm := ci_medium hC
  have t1 : (g_medium g).2.1.2 = (g_Rmedium r).2 := congrArg (fun z : (Nat → Int32) × Int32 × Int32 => z.1) ht
  have t2 : (g_medium g).2.2.1 = g_RcutIn r := congrArg (fun z : (Nat → Int32) × Int32 × Int32 => z.2.1) ht
  have t3 : (g_medium g).2.2.2 = g_Rwritten r := congrArg (fun z : (Nat → Int32) × Int32 × Int32 => z.2.2) ht
  unfold m_Log_poke m_RRef_poke
  rcases C_has hm.1 p q with ⟨e, a, b, ha, hb, rfl, rfl⟩ | ⟨e, z⟩
  · obtain ⟨i1, i2⟩ := R_has1 hR hn ha hb
    rw [bs e, if_neg e10, bs i1, if_neg e10, bs i2, if_neg e10]
    unfold m_RRef_isIn
    by_cases h1 : m < 1
    · exact ⟨-2, g, r, by rw [if_pos h1], by rw [if_pos h1]; rfl, h⟩
    · by_cases h2 : m ≤ 255
      · rw [if_neg h1, if_pos h2, if_neg h1, if_neg (Int32.not_lt.mpr h2)]
        simp only [Option.bind_some]
        rw [if_neg e10]
        obtain ⟨c, hc⟩ : ∃ c : Int32, c = vp_nar .byte (((((g_Rmedium r).2 (32 * a + b)) ^^^ m)).toInt8.toInt32) := ⟨_, rfl⟩
        obtain ⟨x', hx'⟩ : ∃ x' : St_Medium, x' = ((g_medium g).1, ((g_medium g).2.1.1, upd (g_medium g).2.1.2 (32 * a + b) c), (g_medium g).2.2.1, (g_medium g).2.2.2) := ⟨_, rfl⟩
        have hM' : MedOk n x' := by rw [hx']; exact hm.1
        have hal : m_Medium_alter (g_medium g) (nI a) (nI b) m = some x' := by
          unfold m_Medium_alter
          rw [bs e, if_neg e10, n32, pk_mul, nI_add, show (g_medium g).2.1.1 = 32 * n from hm.1.2.1, if_neg (nI_in (by omega) (by omega)), if_neg (nI_in (by omega) (by omega)), nI_clamp (by omega), i8_xor, Nat.mul_comm a 32, hx', hc, t1, show (g_medium g).2.1.1 = 32 * n from hm.1.2.1]
        have hat := c_at hM' ha hb
        have hx2 : x'.2.1.2 (32 * a + b) = c := by
          rw [hx']
          show (if 32 * a + b = 32 * a + b then c else _) = c
          rw [if_pos rfl]
        rw [hx2] at hat
        refine ⟨c &&& 255, s_medium g x', s_Rmedium r ((g_Rmedium r).1, upd (g_Rmedium r).2 (32 * a + b) c), ?_, ?_, ?_⟩
        · rw [bs hal, bs hat]
        · rw [n32, pk_mul, nI_add, nI_clamp (show 32 * a + b < 2 ^ 31 by omega), ← hc]
          have l1 : (g_Rmedium r).1 = 16384 := (ri_medium hR).1
          have i0 : ¬ (nI (32 * a + b) < 0 ∨ (g_Rmedium r).1 ≤ 32 * a + b) := by
            have := nI_in (c := 32 * a + b) (N := 16384) (by omega) (by omega)
            rw [nI_clamp (by omega)] at this
            rw [l1]; exact this
          refine Eq.trans (if_neg i0) ?_
          refine Eq.trans (if_neg i0) ?_
          refine Eq.trans (if_neg i0) ?_
          show some ((if 32 * a + b = 32 * a + b then c else _) &&& 255, _) = _
          rw [if_pos rfl]
        · have hcB : By c := by rw [hc]; exact By_nar _
          refine Rel_fr h ⟨hn, cs_medium hC ⟨hM', by rw [hx']; exact hm.2.1, by rw [hx']; exact By_upd hm.2.2 _ hcB⟩, rs_medium hR ⟨(ri_medium hR).1, By_upd (ri_medium hR).2 _ hcB⟩, ?_, ?_, ?_⟩ ?_ rfl rfl rfl rfl rfl rfl rfl rfl rfl rfl rfl rfl
          · rw [hx']
            show (upd (g_medium g).2.1.2 (32 * a + b) c, (g_medium g).2.2.1, (g_medium g).2.2.2) = (upd (g_Rmedium r).2 (32 * a + b) c, g_RcutIn r, g_Rwritten r)
            rw [t1, t2, t3]
          · simp only [q_isOpen, qR_open]; exact ho
          · simp only [q_tape, qR_tape, qR_taped]; exact hts
          · simp only [q_isOpen]; exact fun e => e
      · exact ⟨-2, g, r, by rw [if_neg h1, if_neg h2], by rw [if_neg h1, if_pos (Int32.not_le.mp h2)]; rfl, h⟩
  · refine ⟨-2, g, r, by rw [bs e, if_pos rfl], ?_, h⟩
    exact R_has hR hn z _ _ _ rfl
-- A PART MORE
theorem PC_add {n : Nat} {x : St_Parts} {lp : List PQ} (h : PC n x lp) (hP : lp.length < n) (q : PQ) (hq : ∀ p, p ∈ lp → p.1 ≠ q.1) : ∃ x' lp', m_Parts_add x q.1 q.2.1 q.2.2.1 q.2.2.2.1 q.2.2.2.2 = some x' ∧ PC n x' lp' ∧ lp'.Perm (q :: lp) := by
  obtain ⟨x', p, a1, a2, a3, a4⟩ := P_add h.1 hP q (fun k hk => hq (crow x k) (PC_mem h hk))
  have hp := lst_ins (f := crow x) (f' := crow x') a3 a4
  rw [h.2] at hp
  refine ⟨x', lst (crow x') (lp.length + 1), a1, ⟨by rw [lst_len]; exact a2, by rw [lst_len]⟩, hp⟩
theorem PR_push {r : St_Ref} {lp lp' : List PQ} (h : PR r lp) (hP : lp.length < 520) (grp : Int32) (pos : Int64) (len row : Int32) (hq : ∀ p, p ∈ lp → p.1 ≠ g_RlastPart r + 1) (hp : lp'.Perm ((g_RlastPart r + 1, grp, len, row, pos) :: lp)) : PR (rpush r grp pos len row) lp' := by
  have h1 := TR_push h hP grp pos len row hq
  have e : lp'.length = lp.length + 1 := by rw [hp.length_eq]; rfl
  unfold PR
  rw [e]
  refine TR_congr h1 (fun q => ?_)
  rw [hp.mem_iff, List.mem_cons]
  exact Or.comm
theorem Ris_mono {G G' : Nat} (h : G ≤ G') {m : MKQ} (hm : Ris G m) : Ris G' m := by
  obtain ⟨ns, a1, a2, a3, a4, a5, a6⟩ := hm
  exact ⟨ns, a1, a2, a3, a4, a5, fun a ha => ⟨(a6 a ha).1, Nat.le_trans (a6 a ha).2 h⟩⟩
theorem NumLe_mono {G G' : Nat} (h : G ≤ G') {v : Int32} (hm : NumLe G v) : NumLe G' v := by
  obtain ⟨a, a1, a2, a3⟩ := hm
  exact ⟨a, a1, Nat.le_trans a2 h, a3⟩
theorem Abs_part {n : Nat} {lp : List PQ} {lk lm : List MKQ} {GP GM : Nat} (h : Abs n lp lk lm GP GM) (hG : GP < 1000000000) {b l w : Nat} (pos : Int64) (hb : b < 8) (hl : l ≤ 155) (hw : 2 ≤ w) (hw2 : w + (1 + bod l) ≤ n) (hn : n ≤ 512) (hf : ∀ j, w ≤ j → j < w + (1 + bod l) → cov (ivs lp lk) j = 0) : Abs n ((nI (GP + 1), nI b, nI l, nI w, pos) :: lp) lk lm (GP + 1) GM := by
  obtain ⟨h1, h2, h3, h4, h5, h6, h7⟩ := h
  refine ⟨fun q hq => ?_, fun m hm => ?_, fun m hm => ?_, ?_, h5, by omega, h7⟩
  · rcases List.mem_cons.mp hq with rfl | hq
    · exact ⟨⟨GP + 1, b, l, w, rfl, by omega, by omega, rfl, hb, rfl, hl, rfl, hw, by omega⟩, GP + 1, by omega, by omega, rfl⟩
    · obtain ⟨k1, k2⟩ := h1 q hq
      exact ⟨k1, NumLe_mono (by omega) k2⟩
  · obtain ⟨k1, k2, k3⟩ := h2 m hm
    exact ⟨k1, Ris_mono (by omega) k2, k3⟩
  · obtain ⟨k1, k2, k3, k4⟩ := h3 m hm
    refine ⟨k1, Ris_mono (by omega) k2, k3, fun v hv => ?_⟩
    obtain ⟨q, hq, e⟩ := k4 v hv
    exact ⟨q, List.mem_cons_of_mem _ hq, e⟩
  · have e : pIv (nI (GP + 1), nI b, nI l, nI w, pos) = (w, 1 + bod l) := by
      unfold pIv
      rw [nI_clamp (show l < 2 ^ 31 by omega)]
      show ((nI w).toNatClampNeg, 1 + bod l) = _
      rw [nI_clamp (by omega)]
    show DJ n (pIv (nI (GP + 1), nI b, nI l, nI w, pos) :: ivs lp lk)
    rw [e]
    exact DJ_cons h4 ⟨hw, by show 1 ≤ 1 + bod l; omega, hw2⟩ hf
theorem BT_take {n : Nat} {x : St_Room} {l : List (Nat × Nat)} (h : BT n x l) (a c : Nat) : BT n (n, setF x.2 a c 1) ((a, c) :: l) := by
  refine ⟨rfl, fun r h1 h2 => ?_⟩
  rw [cov_cons]
  show (if a ≤ r ∧ r < a + c then 1 else x.2 r) = 0 ↔ _
  by_cases hr : a ≤ r ∧ r < a + c
  · rw [if_pos hr, if_pos (show (a, c).1 ≤ r ∧ r < (a, c).1 + (a, c).2 from hr)]
    exact ⟨fun e => absurd e (by decide), fun e => absurd e (by omega)⟩
  · rw [if_neg hr, if_neg (show ¬ ((a, c).1 ≤ r ∧ r < (a, c).1 + (a, c).2) from hr), Nat.zero_add]
    exact h.2 r h1 h2
theorem bodyF_congr {tp tp' : Nat → Int32} {fr len : Nat} (h : ∀ i, i < len → tp (fr + i) = tp' (fr + i)) (b : Nat) : bodyF tp fr len b = bodyF tp' fr len b := by
  funext j
  unfold bodyF
  split
  · rfl
  · split
    · rename_i hj
      exact h _ hj.2
    · rfl
/-- Cor without the TAPE -/
def Cr0 (n : Nat) (g : St_Log) (r : St_Ref) : Prop := (4 ≤ n ∧ n ≤ 512) ∧ CI n g ∧ RI n r ∧ tri (g_medium g) = rtri r ∧ g_isOpen g = g_Ropen r
theorem Cor_0 {n : Nat} {g : St_Log} {r : St_Ref} (h : Cor n g r) : Cr0 n g r := ⟨h.1, h.2.1, h.2.2.1, h.2.2.2.1, h.2.2.2.2.1⟩
theorem RI_rmk {n : Nat} {r : St_Ref} (h : RI n r) {t : T3} (hp : Pw t.2.1) (hb : ∀ j, By (t.1 j)) : RI n (rmk r t) := by
  unfold rmk
  refine rs_written (rs_medium (rs_cutIn h ?_) ?_)
  · exact hp
  · exact ⟨rfl, hb⟩
theorem RI_rout {n : Nat} {r : St_Ref} (h : RI n r) {q : Int32 × T3} (hp : Pw q.2.2.1) (hb : ∀ j, By (q.2.1 j)) : RI n (rout r q) := by
  unfold rout
  split
  · exact rs_open (RI_rmk h hp hb) (Or.inl rfl)
  · exact RI_rmk h hp hb
theorem fr_rout (r : St_Ref) (q : Int32 × T3) : fTap (rout r q) = fTap r ∧ fPar (rout r q) = fPar r ∧ fMrk (rout r q) = fMrk r ∧ fHd (rout r q) = fHd r ∧ fLs (rout r q) = fLs r ∧ fMx (rout r q) = fMx r ∧ g_Rplaces (rout r q) = g_Rplaces r ∧ g_Rused (rout r q) = g_Rused r := by
  unfold rout
  split
  · simp only [rmk, qf_Tap, qf_Par, qf_Mrk, qf_Hd, qf_Ls, qf_Mx, qR_places, qR_used, and_self]
  · simp only [rmk, qf_Tap, qf_Par, qf_Mrk, qf_Hd, qf_Ls, qf_Mx, qR_places, qR_used, and_self]
theorem rout_open1 {r : St_Ref} {q : Int32 × T3} (h : q.1 = 1) : g_Ropen (rout r q) = g_Ropen r := by
  rw [rout1 h]
  simp only [rmk, qR_open]
theorem rout_open0 {r : St_Ref} {q : Int32 × T3} (h : q.1 = 0) : g_Ropen (rout r q) = 0 := by
  unfold rout
  rw [if_pos h]
  simp only [qR_open]
theorem CI_wi {n : Nat} {g : St_Log} (h : CI n g) (hn : 4 ≤ n ∧ n ≤ 512) {q : Int32 × T3} (h1 : q.1 = 0 ∨ q.1 = 1) (hp : Pw q.2.2.1) (hb : ∀ j, By (q.2.1 j)) : CI n (wi n g q) := cs_isOpen (cs_medium h ⟨mk3_ok hn.1 hn.2 _, hp, hb⟩) h1
theorem tri_mk3 (n : Nat) (t : T3) : tri (mk3 n t) = t := rfl
theorem g_mk3 {n : Nat} {g : St_Log} (h : CI n g) : g_medium g = mk3 n (tri (g_medium g)) := mk3_of (ci_medium h).1
theorem w_part {n : Nat} {g : St_Log} {r : St_Ref} {lp : List PQ} {lk lm L : List MKQ} {GP GM : Nat} (h0 : Cr0 n g r) (ho : g_isOpen g = 1) (hTC : TabC n g lp lk lm) (hTR : TabR r lp L) (hA : Abs n lp lk lm GP GM) (hN : Nums g r GP GM) (hG : GP < 1000000000) {fr len row b : Nat} (pos : Int64) (hb : b < 8) (hl : len ≤ 155) (hfr : fr + len ≤ 2000) (htp : ∀ i, i < len → (g_tape g).1.2 (fr + i) = (g_Rtape r).2 (fr + i)) (hw : 2 ≤ row) (hw2 : row + (1 + bod len) ≤ n) (hf : ∀ j, row ≤ j → j < row + (1 + bod len) → cov (ivs lp lk) j = 0) : ∃ g' r', Cr0 n g' r' ∧ g_tape g' = g_tape g ∧ fTap r' = fTap r ∧ g_trial g' = g_trial g ∧ ((m_Log_writePart g (nI row) (nI b) pos (nI fr) (nI len) = some (1, g') ∧ m_RRef_writePart_tape r (nI b) pos (nI fr) (nI len) (nI row) = some (nI (GP + 1), r') ∧ g_isOpen g' = 1 ∧ fMrk r' = fMrk r ∧ fHd r' = fHd r ∧ g_Rplaces r' = g_Rplaces r ∧ g_kept g' = g_kept g ∧ g_made g' = g_made g ∧ g_owners g' = g_owners g ∧ g_serial g' = g_serial g ∧ Nums g' r' (GP + 1) GM ∧ ∃ lp', lp'.Perm ((nI (GP + 1), nI b, nI len, nI row, pos) :: lp) ∧ TabC n g' lp' lk lm ∧ TabR r' lp' L ∧ Abs n lp' lk lm (GP + 1) GM) ∨ (m_Log_writePart g (nI row) (nI b) pos (nI fr) (nI len) = some (0, g') ∧ m_RRef_writePart_tape r (nI b) pos (nI fr) (nI len) (nI row) = some ((-5), r') ∧ g_isOpen g' = 0)) := by
  obtain ⟨hn, hC, hR, ht, hoo⟩ := id h0
  obtain ⟨hPC, hMK, hMM, hBT⟩ := id hTC
  obtain ⟨hPR, hMR⟩ := id hTR
  obtain ⟨N1, N2, N3, N4⟩ := id hN
  have hroom := Abs_room hA hn.2
  have hfresh : ∀ p, p ∈ lp → p.1 ≠ nI (GP + 1) := by
    intro p hp e
    obtain ⟨a, a1, a2, a3⟩ := (hA.1 p hp).2
    rw [a3] at e
    have := (nI_eq (by omega) (by omega)).mp e
    omega
  have eGP : g_greatestPart g + 1 = nI (GP + 1) := by rw [N1, nI_1]
  have eLP : g_RlastPart r + 1 = nI (GP + 1) := by rw [N2, nI_1]
  obtain ⟨x', lp', a1, a2, a3⟩ := PC_add hPC (by omega) (nI (GP + 1), nI b, nI len, nI row, pos) hfresh
  have a1' : m_Parts_add (g_parts g) (g_greatestPart g + 1) (nI b) (nI len) (nI row) pos = some x' := by rw [eGP]; exact a1
  have hT2 := C_take (x := g_room g) (n := n) (a := row) (c := 1 + bod len) hBT.1 hn.2 hw2
  have hm := ci_medium hC
  have hp : Pw (tri (g_medium g)).2.1 := hm.2.1
  obtain ⟨im, w1, w2⟩ := C_writePart (n := n) (g := g) (t := tri (g_medium g)) (tape := g_tape g) (g_mk3 hC) ho hn.1 hn.2 hp rfl (ci_tape hC).1 (ci_tape hC).2 (ci_image hC) (fr := fr) (len := len) (row := row) hl hfr (by omega) (nI b) pos hT2 a1'
  have htr : g_Rtape r = (2000, (g_Rtape r).2) := Prod.ext (ri_tape hR).1 rfl
  have hrr : rroom r := ⟨lp.length, hPR.1.2.1, by omega, ri_pNumber hR, ri_pGroup hR, ri_pPosition hR, ri_pLength hR, ri_pRow hR⟩
  have v2 := R_writePart (g := r) (ri_draft hR) hrr (ri_medium hR).1 (ri_cutIn hR) htr (ri_tape hR).2 (fr := fr) (len := len) (row := row) hl hfr (by omega) (nI b) pos
  rw [← bodyF_congr htp, eLP, ← ht] at v2
  rw [eGP] at w2
  have hby : ∀ j, By (partImg (bodyF (g_tape g).1.2 fr len (bod len + 1)) len (nI (GP + 1)) (nI b) pos j) := By_part (By_body (ci_tape hC).2 _ _ _) _ _ _ _
  have hdr : kDr (256, partImg (bodyF (g_tape g).1.2 fr len (bod len + 1)) len (nI (GP + 1)) (nI b) pos) := ⟨rfl, fun j hj => part_hi _ _ hl _ _ _ (by omega)⟩
  obtain ⟨I, hI⟩ : ∃ I, I = partImg (bodyF (g_tape g).1.2 fr len (bod len + 1)) len (nI (GP + 1)) (nI b) pos := ⟨_, rfl⟩
  rw [← hI] at v2 w2 hby hdr
  have q1 := wrM_ok I row (bod len) 1 (tri (g_medium g))
  have q2 := wrM_pw I row (bod len) 1 (tri (g_medium g)) hp
  have q3 := wrM_by I hby row (bod len) 1 (tri (g_medium g)) hm.2.2
  obtain ⟨q, hq⟩ : ∃ q, q = wrM I row (bod len) 1 (tri (g_medium g)) := ⟨_, rfl⟩
  rw [← hq] at v2 w2 q1 q2 q3
  have hRo : RI n (rout (s_Rdraft r (256, I)) q) := RI_rout (rs_draft hR hdr) q2 q3
  have hCw : CI n (s_room (wi n (s_image g im) q) (n, setF (g_room g).2 row (1 + bod len) 1)) := cs_room (CI_wi (cs_image hC w1) hn q1 q2 q3) (kRm_set (ci_room hC).2 (Or.inr rfl))
  obtain ⟨G1, hG1⟩ : ∃ G1, G1 = s_room (wi n (s_image g im) q) (n, setF (g_room g).2 row (1 + bod len) 1) := ⟨_, rfl⟩
  obtain ⟨R1, hR1⟩ : ∃ R1, R1 = rout (s_Rdraft r (256, I)) q := ⟨_, rfl⟩
  have gt : g_tape G1 = g_tape g := by rw [hG1]; simp only [wi, q_tape]
  have gm : g_medium G1 = mk3 n q.2 := by rw [hG1]; simp only [wi, q_medium]
  have go : g_isOpen G1 = q.1 := by rw [hG1]; simp only [wi, q_isOpen]
  have gtr : g_trial G1 = g_trial g := by rw [hG1]; simp only [wi, q_trial]
  have gk : g_kept G1 = g_kept g := by rw [hG1]; simp only [wi, q_kept]
  have gd : g_made G1 = g_made g := by rw [hG1]; simp only [wi, q_made]
  have gow : g_owners G1 = g_owners g := by rw [hG1]; simp only [wi, q_owners]
  have gse : g_serial G1 = g_serial g := by rw [hG1]; simp only [wi, q_serial]
  have ggm : g_greatestMark G1 = g_greatestMark g := by rw [hG1]; simp only [wi, q_greatestMark]
  have gro : g_room G1 = (n, setF (g_room g).2 row (1 + bod len) 1) := by rw [hG1]; simp only [q_room]
  obtain ⟨f1, f2, f3, f4, f5, -, f7, -⟩ := fr_rout (s_Rdraft r (256, I)) q
  rw [← hR1] at f1 f2 f3 f4 f5 f7
  simp only [qf_Tap, qf_Par, qf_Mrk, qf_Hd, qf_Ls, qR_places] at f1 f2 f3 f4 f5 f7
  have ftri : rtri R1 = q.2 := by rw [hR1]; exact rout_tri _ _
  rw [← hG1] at hCw w2
  rw [← hR1] at hRo v2
  by_cases hz : q.1 = 0
  · rw [if_pos hz] at v2 w2
    refine ⟨G1, R1, ⟨hn, hCw, hRo, ?_, ?_⟩, gt, f1, gtr, Or.inr ⟨w2, v2, by rw [go]; exact hz⟩⟩
    · rw [gm, ftri]; rfl
    · rw [go, hz, hR1, rout_open0 hz]
  · have h1 : q.1 = 1 := q1.resolve_left hz
    rw [if_neg hz] at v2 w2
    have fl : g_RlastPart R1 = nI GP := (e_lastPart f5).trans N2
    have hPR1 : PR R1 lp := PR_fr f2 hPR
    have hrP : PR (rpush R1 (nI b) pos (nI len) (nI row)) lp' := by
      refine PR_push hPR1 (by omega) (nI b) pos (nI len) (nI row) (fun p hp => ?_) ?_
      · rw [fl, nI_1]; exact hfresh p hp
      · rw [fl, nI_1]; exact a3
    obtain ⟨P1, P2, -⟩ := hPR1.1
    have hc0 : (g_Rparts R1).toNatClampNeg = lp.length := by rw [P2]; exact nI_clamp (by omega)
    have hlen' : lp'.length = lp.length + 1 := by rw [a3.length_eq]; rfl
    have hRp : RI n (rpush R1 (nI b) pos (nI len) (nI row)) := by
      unfold rpush
      refine rs_parts (rs_pRow (rs_pLength (rs_pPosition (rs_pGroup (rs_pNumber (rs_lastPart hRo) ?_) ?_) ?_) ?_) ?_) ?_
      · exact ri_pNumber hRo
      · exact ri_pGroup hRo
      · exact ri_pPosition hRo
      · exact ri_pLength hRo
      · exact ri_pRow hRo
      · exact ⟨lp.length + 1, by omega, by rw [P2, nI_1]⟩
    refine ⟨s_greatestPart (s_parts G1 x') (nI (GP + 1)), rpush R1 (nI b) pos (nI len) (nI row), ⟨hn, ?_, hRp, ?_, ?_⟩, ?_, ?_, ?_, Or.inl ⟨w2, v2, ?_, ?_, ?_, ?_, ?_, ?_, ?_, ?_, ⟨?_, ?_, ?_, ?_⟩, lp', a3, ⟨?_, ?_, ?_, ?_⟩, ⟨hrP, ?_⟩, ?_⟩⟩
    · exact cs_greatestPart (cs_parts hCw ⟨lp'.length, a2.1.l⟩)
    · simp only [q_medium, rtri, rpush, qR_medium, qR_cutIn, qR_written]
      rw [gm]
      show q.2 = rtri R1
      exact ftri.symm
    · simp only [q_isOpen, rpush, qR_open]
      rw [go, h1, hR1, rout_open1 h1]
      simp only [qR_open]
      rw [← hoo, ho]
    · simp only [q_tape]; exact gt
    · simp only [rpush, qf_Tap]; exact f1
    · simp only [q_trial]; exact gtr
    · simp only [q_isOpen]; rw [go]; exact h1
    · simp only [rpush, qf_Mrk]; exact f3
    · simp only [rpush, qf_Hd]; exact f4
    · simp only [rpush, qR_places]; exact f7
    · simp only [q_kept]; exact gk
    · simp only [q_made]; exact gd
    · simp only [q_owners]; exact gow
    · simp only [q_serial]; exact gse
    · simp only [q_greatestPart]
    · simp only [rpush, qR_lastPart]; rw [fl, nI_1]
    · simp only [q_greatestMark]; rw [ggm]; exact N3
    · simp only [rpush, qR_lastMark]; exact (e_lastMark f5).trans N4
    · simp only [q_parts]; exact a2
    · simp only [q_kept]; rw [gk]; exact hMK
    · simp only [q_made]; rw [gd]; exact hMM
    · simp only [q_room]
      rw [gro]
      refine BT_perm (ivs_perm a3.symm (List.Perm.refl _)) ?_
      have e : pIv (nI (GP + 1), nI b, nI len, nI row, pos) = (row, 1 + bod len) := by
        unfold pIv
        rw [nI_clamp (show len < 2 ^ 31 by omega)]
        show ((nI row).toNatClampNeg, 1 + bod len) = _
        rw [nI_clamp (by omega)]
      show BT n (n, setF (g_room g).2 row (1 + bod len) 1) (pIv (nI (GP + 1), nI b, nI len, nI row, pos) :: ivs lp lk)
      rw [e]
      exact BT_take hBT _ _
    · exact MR_fr (by simp only [rpush, qf_Mrk]; exact f3) hMR
    · exact Abs_perm a3.symm (List.Perm.refl _) (List.Perm.refl _) (Abs_part hA hG pos hb hl hw hw2 hn.2 hf)
-- part
theorem Cor_fin {n : Nat} {g : St_Log} {r : St_Ref} (h : Cr0 n g r) (ht : g_Rtaped r = 0) : Cor n (s_tape g ((2000, fun _ => 0), 0)) r := by
  obtain ⟨hn, hC, hR, h1, ho⟩ := h
  refine ⟨hn, cs_tape hC kTp0, hR, ?_, ?_, ⟨0, ?_, ?_, fun j hj => absurd hj (by omega)⟩⟩
  · simp only [q_medium]; exact h1
  · simp only [q_isOpen]; exact ho
  · simp only [q_tape]; exact BB0
  · rw [ht]; exact n0
theorem isGroup_cases (p : Int32) : (m_Log_isGroup p = some 0 ∧ m_RRef_isIn p 0 7 = some 0) ∨ (m_Log_isGroup p = some 1 ∧ m_RRef_isIn p 0 7 = some 1 ∧ ∃ b : Nat, b < 8 ∧ p = nI b) := by
  unfold m_Log_isGroup m_RRef_isIn
  rcases pk_ix p (n := 8) (by omega) with h | h | ⟨b, hb, rfl⟩
  · left; exact ⟨if_pos h, if_pos h⟩
  · left
    by_cases h0 : p < 0
    · exact ⟨if_pos h0, if_pos h0⟩
    · rw [if_neg h0, if_neg h0, n8, if_pos h, show (7 : Int32) = nI (8 - 1) by decide +kernel, if_pos ((lt_pred (by omega) (by omega)).mpr h)]
      exact ⟨rfl, rfl⟩
  · right
    refine ⟨?_, ?_, b, hb, rfl⟩
    · rw [if_neg (nI_pos (by omega)), n8, if_neg (nI_ge hb (by omega))]
    · rw [if_neg (nI_pos (by omega)), show (7 : Int32) = nI 7 by decide +kernel, if_neg (nI_nlt (by omega) (by omega))]
theorem n155 : (155 : Int32) = nI 155 := by decide +kernel
theorem nMO : (1000000000 : Int32) = nI 1000000000 := by decide +kernel
theorem rv_none {o : Option Nat} (h : o = none) : rv o = (-1) := by rw [h]; rfl
theorem open_1 {n : Nat} {g : St_Log} (h : CI n g) (ho : ¬ g_isOpen g = 0) : g_isOpen g = 1 := (ci_isOpen h).resolve_left ho
theorem st_part {n : Nat} {g : St_Log} {r : St_Ref} (h : Rel n g r) (p : Int32) (pos : Int64) : ∃ a g' r', m_Log_part g p pos = some (a, g') ∧ m_RRef_part r p pos = some (a, r') ∧ Rel n g' r' := by
  obtain ⟨⟨hn, hC, hR, ht, ho, ts, hb, e1, e2⟩, hT⟩ := id h
  have hts := hb.2.2.1
  have hcl : m_Bytes_clear (g_tape g) = some ((2000, fun _ => 0), 0) := B_clear hb (by omega)
  have hsz : m_Bytes_size (g_tape g) = some (nI ts) := by unfold m_Bytes_size; rw [hb.2.1]
  unfold m_Log_part m_RRef_part
  by_cases hop : g_isOpen g = 0
  · refine ⟨-3, _, _, ?_, ?_, Rel_wipe h⟩
    · rw [if_pos hop, bs hcl]
    · rw [if_pos (by rw [← ho]; exact hop)]
  · have ho1 := open_1 hC hop
    rw [if_neg hop, if_neg (by rw [← ho]; exact hop)]
    unfold m_Log_writeTape
    rw [bs hsz]
    rcases isGroup_cases p with ⟨z1, z2⟩ | ⟨z1, z2, b, hb8, rfl⟩
    · refine ⟨-2, _, _, ?_, ?_, Rel_wipe h⟩
      · rw [bs z1, if_pos rfl, Option.bind_some, bs hcl]
      · rw [bs z2, if_pos rfl]
    · rw [bs z1, if_neg e10, bs z2, if_neg e10, n155, e1]
      by_cases h155 : ts ≤ 155
      · rw [if_pos (nI_le h155 (by omega)), if_pos (nI_le h155 (by omega))]
        obtain ⟨lp, lk, lm, L, GP, GM, hTC, hTR, hL, hA, hN, hH⟩ := hT ho1
        have hR0 : RI n (s_Rtaped r 0) := rs_taped hR ⟨0, by omega, n0⟩
        have hTR0 : TabR (s_Rtaped r 0) lp L := TabR_fr (by simp only [qf_Par]) (by simp only [qf_Mrk]) hTR
        obtain ⟨f, u1, u2⟩ := used_bits hR0 hn.2 hA hTC.2.2.2 hTR0.1 hTR0.2 hL
        have hR1 : RI n (s_Rused (s_Rtaped r 0) (512, f)) := rs_used (v := (512, f)) hR0 rfl
        have hTR1 : TabR (s_Rused (s_Rtaped r 0) (512, f)) lp L := TabR_fr (by simp only [qf_Par]) (by simp only [qf_Mrk]) hTR0
        have hrc : 1 ≤ 1 + bod ts ∧ 1 + bod ts ≤ 1000 := by unfold bod; omega
        have k1 := C_firstRun (x := g_room g) hTC.2.2.2.1 hn hrc
        have k2 := R_room (g := s_Rused (s_Rtaped r 0) (512, f)) (f := f) (by simp only [qR_used]) (by simp only [qR_rows]; exact ri_rows hR) hn hrc
        rw [runF_congr (b := f) (b' := (g_room g).2) (1 + bod ts) (n - 2) 0 2 (fun j j1 j2 => u2 j j1 (by omega))] at k2
        have e1b : (1 : Int32) + nI (bod ts) = nI (1 + bod ts) := by rw [n1, nI_add]
        have hN1 : Nums g (s_Rused (s_Rtaped r 0) (512, f)) GP GM := Nums_fr rfl rfl (by simp only [qf_Ls]) hN
        have hlast : g_RlastPart (s_Rused (s_Rtaped r 0) (512, f)) = nI GP := hN1.2.1
        rw [bs u1, bs (R_bodies (by omega)), e1b, bs k2, bs (C_rowsOfPart (by omega)), bs k1, hlast, hN.1, nMO]
        have hGP := hA.2.2.2.2.2.1
        have hRu : Rel n (s_tape g ((2000, fun _ => 0), 0)) (s_Rused (s_Rtaped r 0) (512, f)) := by
          refine Rel_fr (Rel_wipe h) ?_ (fun e => e) rfl rfl rfl rfl rfl rfl rfl rfl (by simp only [qf_Par]) (by simp only [qf_Mrk]) (by simp only [qf_Ls]) (by simp only [qf_Hd])
          refine Cor_fin ⟨hn, hC, hR1, ?_, ?_⟩ ?_
          · simp only [rtri, qR_medium, qR_cutIn, qR_written]; exact ht
          · simp only [qR_open]; exact ho
          · simp only [qR_taped]
        by_cases hGM : GP < 1000000000
        · rw [if_pos (nI_lt hGM (by omega))]
          cases hrun : runF (g_room g).2 (1 + bod ts) (n - 2) 0 2 with
          | none =>
            refine ⟨-4, _, _, ?_, ?_, hRu⟩
            · rw [if_pos (rv_none rfl), Option.bind_some, bs hcl]
            · rw [if_pos (rv_none rfl)]
          | some w =>
            obtain ⟨s1, s2, s3⟩ := runF_spec (n - 2) 0 2 w (by omega) (fun j j1 j2 => absurd j2 (by omega)) hrun
            have hrv : rv (some w) = nI w := rfl
            have hne : ¬ rv (some w) = (-1) := nI_m1 (by omega)
            have h0 : Cr0 n g (s_Rused (s_Rtaped r 0) (512, f)) := ⟨hn, hC, hR1, by simp only [rtri, qR_medium, qR_cutIn, qR_written]; exact ht, by simp only [qR_open]; exact ho⟩
            obtain ⟨g', r', c0, ct, ct2, -, hcase⟩ := w_part h0 ho1 hTC hTR1 hA hN1 hGM (fr := 0) (len := ts) (row := w) (b := b) pos hb8 h155 (by omega) (fun i hi => by simp only [qR_tape]; rw [Nat.zero_add]; exact e2 i hi) (by omega) (by omega) (fun j j1 j2 => (hTC.2.2.2.2 j (by omega) (by omega)).mp (s3 j j1 j2))
            have ctp : g_Rtaped r' = 0 := by rw [e_taped ct2]; simp only [qR_taped]
            have hcl' : m_Bytes_clear (g_tape g') = some ((2000, fun _ => 0), 0) := by rw [ct]; exact hcl
            rcases hcase with ⟨m1, m2, m3, m4, m5, -, m7, m8, m9, m10, m11, lp', m12, m13, m14, m15⟩ | ⟨m1, m2, m3⟩
            · refine ⟨nI (GP + 1), s_tape g' ((2000, fun _ => 0), 0), r', ?_, ?_, Cor_fin c0 ctp, fun _ => ⟨lp', lk, lm, L, GP + 1, GM, ?_, m14, hL, m15, ?_, ?_⟩⟩
              · rw [if_neg hne, hrv]
                have m1' : m_Log_writePart g (nI w) (nI b) pos 0 (nI ts) = some (1, g') := m1
                rw [bs m1', if_neg e10, Option.bind_some, bs hcl', m11.1]
              · rw [if_neg hne, if_neg (fun e => absurd ((nI_eq (by omega) (by omega)).mp e) (by omega)), hrv]
                have m2' : m_RRef_writePart_tape (s_Rused (s_Rtaped r 0) (512, f)) (nI b) pos 0 (nI ts) (nI w) = some (nI (GP + 1), r') := m2
                rw [bs m2']
              · exact TabC_fr rfl rfl rfl rfl m13
              · exact Nums_fr rfl rfl rfl m11
              · refine Hds_fr (g := g) (r := r) m9 m10 ?_ hH
                rw [m5]; simp only [qf_Hd]
            · refine ⟨-5, s_tape g' ((2000, fun _ => 0), 0), r', ?_, ?_, Cor_fin c0 ctp, fun e => ?_⟩
              · rw [if_neg hne, hrv]
                have m1' : m_Log_writePart g (nI w) (nI b) pos 0 (nI ts) = some (0, g') := m1
                rw [bs m1', if_pos rfl, Option.bind_some, bs hcl']
              · rw [if_neg hne, if_neg (fun e => absurd ((nI_eq (by omega) (by omega)).mp e) (by omega)), hrv]
                have m2' : m_RRef_writePart_tape (s_Rused (s_Rtaped r 0) (512, f)) (nI b) pos 0 (nI ts) (nI w) = some ((-5), r') := m2
                rw [bs m2']
              · simp only [q_isOpen] at e
                rw [m3] at e
                exact absurd e (by decide)
        · have hGe : GP = 1000000000 := by omega
          refine ⟨-4, _, _, ?_, ?_, hRu⟩
          · rw [if_neg (nI_nlt (by omega) (by omega)), Option.bind_some, bs hcl]
          · split
            · rfl
            · rw [if_pos (by rw [hGe])]
      · refine ⟨-2, _, _, ?_, ?_, Rel_wipe h⟩
        · rw [if_neg (nI_ge (by omega) (by omega)), Option.bind_some, bs hcl]
        · rw [if_neg (nI_ge (by omega) (by omega))]
-- MARKS ON BOTH SIDES: finding one, giving one up
theorem pw_un {l : List MKQ} (h : l.Pairwise (fun a b => a.1 ≠ b.1)) {a b : MKQ} (ha : a ∈ l) (hb : b ∈ l) (e : a.1 = b.1) : a = b := by
  induction l with
  | nil => cases ha
  | cons c l ih =>
    obtain ⟨h1, h2⟩ := List.pairwise_cons.mp h
    rcases List.mem_cons.mp ha with ea | ha'
    · rcases List.mem_cons.mp hb with eb | hb'
      · rw [ea, eb]
      · rw [ea] at e
        exact absurd e (h1 b hb')
    · rcases List.mem_cons.mp hb with eb | hb'
      · rw [eb] at e
        exact absurd e.symm (h1 a ha')
      · exact ih h2 ha' hb'
theorem C_findM {N : Nat} {x : St_Marks} {l : List MKQ} (h : MC N x l) (v : Int32) : (m_Marks_find x v = some (-1) ∧ ∀ m, m ∈ l → m.1 ≠ v) ∨ ∃ i, i < l.length ∧ m_Marks_find x v = some (nI i) ∧ (mrow x i).1 = v := by
  rcases M_find h.1 v with ⟨e1, e2⟩ | ⟨k, hk, e1, e2⟩
  · left
    refine ⟨e1, fun m hm => ?_⟩
    obtain ⟨k, hk, rfl⟩ := MC_ex h hm
    exact e2 k hk
  · right
    exact ⟨k, hk, e1, e2⟩
/-- a number: of a kept MARK, of one not kept, of none -/
theorem F3 {n N : Nat} {r : St_Ref} {xk xm : St_Marks} {lk lm L : List MKQ} (hR : RI n r) (hk : MC N xk lk) (hm : MC 6 xm lm) (hM : MR r L) (hL : L.Perm (lk ++ lm)) (hu : (lk ++ lm).Pairwise (fun a b => a.1 ≠ b.1)) (v : Int32) : (m_Marks_find xk v = some (-1) ∧ m_Marks_find xm v = some (-1) ∧ m_RRef_findMark r v = some (-1) ∧ ∀ m, m ∈ L → m.1 ≠ v) ∨ (∃ i j, i < lk.length ∧ j < L.length ∧ m_Marks_find xk v = some (nI i) ∧ m_Marks_find xm v = some (-1) ∧ m_RRef_findMark r v = some (nI j) ∧ qrow r j = mrow xk i ∧ mrow xk i ∈ lk ∧ (mrow xk i).1 = v) ∨ (∃ i j, i < lm.length ∧ j < L.length ∧ m_Marks_find xk v = some (-1) ∧ m_Marks_find xm v = some (nI i) ∧ m_RRef_findMark r v = some (nI j) ∧ qrow r j = mrow xm i ∧ mrow xm i ∈ lm ∧ (mrow xm i).1 = v) := by
  have hLu : L.Pairwise (fun a b => a.1 ≠ b.1) := (hL.pairwise_iff (fun hr => hr.symm)).mpr hu
  have hRf := R_findMark hR hM.1 hM.2.1 v
  rcases C_findM hk v with ⟨a1, a2⟩ | ⟨i, hi, a1, a2⟩
  · rcases C_findM hm v with ⟨b1, b2⟩ | ⟨i, hi, b1, b2⟩
    · left
      have hno : ∀ m, m ∈ L → m.1 ≠ v := fun m hmm => by
        rcases List.mem_append.mp (hL.mem_iff.mp hmm) with z | z
        · exact a2 m z
        · exact b2 m z
      refine ⟨a1, b1, ?_, hno⟩
      rcases hRf with ⟨c1, c2⟩ | ⟨j, hj, c1, c2⟩
      · exact c1
      · exact absurd c2 (hno _ (MR_mem hM hj))
    · right; right
      have hmem := MC_mem hm hi
      have hmL : mrow xm i ∈ L := hL.mem_iff.mpr (List.mem_append.mpr (Or.inr hmem))
      rcases hRf with ⟨c1, c2⟩ | ⟨j, hj, c1, c2⟩
      · obtain ⟨j, hj, e⟩ := MR_ex hM hmL
        exact absurd (by rw [e]; exact b2) (c2 j hj)
      · exact ⟨i, j, hi, hj, a1, b1, c1, pw_un hLu (MR_mem hM hj) hmL (by rw [c2, b2]), hmem, b2⟩
  · right; left
    have hmem := MC_mem hk hi
    have hmL : mrow xk i ∈ L := hL.mem_iff.mpr (List.mem_append.mpr (Or.inl hmem))
    have b1 : m_Marks_find xm v = some (-1) := by
      rcases C_findM hm v with ⟨b1, b2⟩ | ⟨i2, hi2, b1, b2⟩
      · exact b1
      · have hd := (List.pairwise_append.mp hu).2.2 _ hmem _ (MC_mem hm hi2)
        exact absurd (by rw [a2, b2]) hd
    rcases hRf with ⟨c1, c2⟩ | ⟨j, hj, c1, c2⟩
    · obtain ⟨j, hj, e⟩ := MR_ex hM hmL
      exact absurd (by rw [e]; exact a2) (c2 j hj)
    · exact ⟨i, j, hi, hj, a1, b1, c1, pw_un hLu (MR_mem hM hj) hmL (by rw [c2, a2]), hmem, a2⟩
theorem MC_remove {N : Nat} {x : St_Marks} {l : List MKQ} (h : MC N x l) {a : Nat} (ha : a < l.length) : ∃ x' l', m_Marks_remove x (nI a) = some x' ∧ MC N x' l' ∧ (mrow x a :: l').Perm l := by
  obtain ⟨x', a1, a2, a3⟩ := M_remove h.1 ha
  have hp := lst_del (f := mrow x) (f' := mrow x') ha a3
  rw [h.2] at hp
  exact ⟨x', lst (mrow x') (l.length - 1), a1, ⟨by rw [lst_len]; exact a2, by rw [lst_len]⟩, hp⟩
theorem Abs_give {n : Nat} {lp : List PQ} {lk lm lm' : List MKQ} {GP GM : Nat} {m : MKQ} (h : Abs n lp lk lm GP GM) (hp : (m :: lm').Perm lm) : Abs n lp lk lm' GP GM := by
  obtain ⟨h1, h2, h3, h4, h5, h6⟩ := Abs_perm (List.Perm.refl _) (List.Perm.refl _) hp.symm h
  exact ⟨h1, h2, fun z hz => h3 z (List.mem_cons_of_mem _ hz), h4, h5.sublist ((List.sublist_cons_self m lm').append_left lk), h6⟩
theorem give_perm {L L' lk lm lm' : List MKQ} {m : MKQ} (h1 : (m :: L').Perm L) (h2 : L.Perm (lk ++ lm)) (h3 : (m :: lm').Perm lm) : L'.Perm (lk ++ lm') := by
  have h4 : (m :: L').Perm (m :: (lk ++ lm')) := h1.trans (h2.trans ((List.Perm.append_left lk h3.symm).trans List.perm_middle))
  exact h4.cons_inv
theorem st_give {n : Nat} {g : St_Log} {r : St_Ref} (h : Rel n g r) (v : Int32) : ∃ a g' r', m_Log_give g v = some (a, g') ∧ m_RRef_give r v = some (a, r') ∧ Rel n g' r' := by
  obtain ⟨⟨hn, hC, hR, ht, ho, hts⟩, hT⟩ := id h
  unfold m_Log_give m_RRef_give
  by_cases hop : g_isOpen g = 0
  · exact ⟨-3, g, r, by rw [if_pos hop], by rw [if_pos (by rw [← ho]; exact hop)], h⟩
  · have ho1 := open_1 hC hop
    rw [if_neg hop, if_neg (by rw [← ho]; exact hop)]
    obtain ⟨lp, lk, lm, L, GP, GM, hTC, hTR, hL, hA, hN, hH⟩ := hT ho1
    have lr : (g_RmRow r).1 = 270 := ri_mRow hR
    have hML := hTR.2.2.1
    rcases F3 hR hTC.2.1 hTC.2.2.1 hTR.2 hL hA.2.2.2.2.1 v with ⟨a1, a2, a3, a4⟩ | ⟨i, j, hi, hj, a1, a2, a3, a4, a5, a6⟩ | ⟨i, j, hi, hj, a1, a2, a3, a4, a5, a6⟩
    · exact ⟨-1, g, r, by rw [bs a2, if_pos rfl], by rw [bs a3, if_pos rfl], h⟩
    · refine ⟨-1, g, r, by rw [bs a2, if_pos rfl], ?_, h⟩
      obtain ⟨_, _, w, _, _, _, _, _, _, p7, _, p9⟩ := (hA.2.1 _ a5).1
      have e : (g_RmRow r).2 j = nI w := by
        have := congrArg (fun z : MKQ => z.2.2.1) a4
        exact this.trans p7
      rw [bs a3, if_neg (nI_m1 (by omega)), lr, if_neg (nI_in (by omega) (by omega)), nI_clamp (by omega), e, if_neg (nI_m1 (by omega))]
    · obtain ⟨x', l', b1, b2, b3⟩ := MC_remove hTC.2.2.1 hi
      obtain ⟨r', L', c1, c2, c3, c4, c5⟩ := R_forgetMark hR hTR.2 hj
      obtain ⟨_, _, _, _, _, _, _, _, p7, _⟩ := (hA.2.2.1 _ a5).1
      have e : (g_RmRow r).2 j = (-1) := by
        have := congrArg (fun z : MKQ => z.2.2.1) a4
        exact this.trans p7
      have hlm : lm.length ≤ 6 := hTC.2.2.1.1.1.2.2.1
      refine ⟨1, s_made g x', r', ?_, ?_, ?_, fun _ => ⟨lp, lk, l', L', GP, GM, ⟨?_, ?_, ?_, ?_⟩, ⟨PR_fr c3.2.2.1 hTR.1, c4⟩, ?_, Abs_give hA b3, ?_, ?_⟩⟩
      · rw [bs a2, if_neg (nI_m1 (by omega)), bs b1]
      · rw [bs a3, if_neg (nI_m1 (by omega)), lr, if_neg (nI_in (by omega) (by omega)), nI_clamp (by omega), e, if_pos rfl, bs c1]
      · refine ⟨hn, cs_made hC ⟨_, b2.1.1⟩, c2, ?_, ?_, ?_⟩
        · simp only [q_medium]
          rw [ht]
          unfold rtri
          rw [e_medium c3.1, e_cutIn c3.1, e_written c3.1]
        · simp only [q_isOpen]; rw [e_open c3.1]; exact ho
        · simp only [q_tape]; rw [e_tape c3.2.1, e_taped c3.2.1]; exact hts
      · simp only [q_parts]; exact hTC.1
      · simp only [q_kept]; exact hTC.2.1
      · simp only [q_made]; exact b2
      · simp only [q_room]; exact hTC.2.2.2
      · rw [a4] at c5
        exact give_perm c5 hL b3
      · exact Nums_fr rfl rfl c3.2.2.2.2 hN
      · exact Hds_fr rfl rfl c3.2.2.2.1 hH
-- HOW MANY
theorem R_cnt_L {n : Nat} {r : St_Ref} {M : Nat} (hR : RI n r) (hm : g_Rmarks r = nI M) (hM : M ≤ 270) (b : Bool) : ∀ (d fuel k a : Nat), k + d = M → d < fuel → m_RRef_count_L4 r fuel (if b then 1 else 0) (nI a) (nI k) = some (nI (a + (lst (fun i => qrow r (k + i)) d).countP (fun m => decide (m.2.2.1 = (-1)) != b))) := by
  have lr : (g_RmRow r).1 = 270 := ri_mRow hR
  intro d
  induction d with
  | zero =>
    intro fuel k a hk hf
    obtain ⟨fu, rfl, -⟩ := fu1 hf
    rw [m_RRef_count_L4, hm, if_pos (nI_le (by omega) (by omega))]
    rfl
  | succ d ih =>
    intro fuel k a hk hf
    obtain ⟨fu, rfl, hf'⟩ := fu1 hf
    rw [m_RRef_count_L4, hm, if_neg (nI_ge (by omega) (by omega)), lr, if_neg (nI_in (by omega) (by omega)), nI_clamp (by omega), nI_1, nI_1, n0, nI_add, Nat.add_zero, lst_cons]
    have e : (fun i => qrow r (k + (i + 1))) = fun i => qrow r (k + 1 + i) := funext fun i => by rw [show k + (i + 1) = k + 1 + i by omega]
    rw [List.countP_cons, e]
    have i0 := ih fu (k + 1) a (by omega) (by omega)
    have i1 := ih fu (k + 1) (a + 1) (by omega) (by omega)
    rw [n0] at i0 i1
    by_cases hz : (g_RmRow r).2 k = (-1)
    · rw [if_pos hz]
      have hd : decide ((qrow r (k + 0)).2.2.1 = (-1)) = true := decide_eq_true hz
      cases b with
      | false =>
        rw [if_pos (by decide), i1]
        rw [hd]
        congr 2
        show a + 1 + _ = a + (_ + 1)
        omega
      | true =>
        rw [if_neg (by decide), show nI (a + 0) = nI a from rfl, i0, hd]
        rfl
    · rw [if_neg hz]
      have hd : decide ((qrow r (k + 0)).2.2.1 = (-1)) = false := decide_eq_false hz
      cases b with
      | false =>
        rw [if_neg (by decide), show nI (a + 0) = nI a from rfl, i0, hd]
        rfl
      | true =>
        rw [if_pos (by decide), i1, hd]
        congr 2
        show a + 1 + _ = a + (_ + 1)
        omega
theorem R_count {n : Nat} {r : St_Ref} {lk lm L : List MKQ} {lp : List PQ} {GP GM : Nat} (hR : RI n r) (hn : n ≤ 512) (hM : MR r L) (hL : L.Perm (lk ++ lm)) (hA : Abs n lp lk lm GP GM) : m_RRef_count r 0 = some (nI lm.length) ∧ m_RRef_count r 1 = some (nI lk.length) := by
  have hk : ∀ m, m ∈ lk → ¬ m.2.2.1 = (-1) := by
    intro m hm e
    obtain ⟨_, _, w, _, _, _, _, _, _, p7, _, p9⟩ := (hA.2.1 _ hm).1
    rw [p7] at e
    exact nI_m1 (by omega) e
  have hm : ∀ m, m ∈ lm → m.2.2.1 = (-1) := by
    intro m hm
    obtain ⟨_, _, _, _, _, _, _, _, p7, _⟩ := (hA.2.2.1 _ hm).1
    exact p7
  have e0 : ∀ b, (lst (fun i => qrow r (0 + i)) L.length).countP (fun m => decide (m.2.2.1 = (-1)) != b) = lk.countP (fun m => decide (m.2.2.1 = (-1)) != b) + lm.countP (fun m => decide (m.2.2.1 = (-1)) != b) := by
    intro b
    have : (fun i => qrow r (0 + i)) = qrow r := funext fun i => by rw [Nat.zero_add]
    rw [this, hM.2.2.1, hL.countP_eq, List.countP_append]
  unfold m_RRef_count
  constructor
  · have h := R_cnt_L hR hM.1 hM.2.1 false L.length FU 0 0 (by omega) (FU_lt (by have := hM.2.1; omega))
    rw [e0, Nat.zero_add] at h
    rw [n0]
    have k1 : lk.countP (fun m => decide (m.2.2.1 = (-1)) != false) = 0 := by
      rw [List.countP_eq_zero]
      intro m hmm
      simp [hk m hmm]
    have k2 : lm.countP (fun m => decide (m.2.2.1 = (-1)) != false) = lm.length := by
      rw [List.countP_eq_length]
      intro m hmm
      simp [hm m hmm]
    rw [k1, k2, Nat.zero_add] at h
    exact h
  · have h := R_cnt_L hR hM.1 hM.2.1 true L.length FU 0 0 (by omega) (FU_lt (by have := hM.2.1; omega))
    rw [e0, Nat.zero_add] at h
    rw [n0]
    have k1 : lk.countP (fun m => decide (m.2.2.1 = (-1)) != true) = lk.length := by
      rw [List.countP_eq_length]
      intro m hmm
      simp [hk m hmm]
    have k2 : lm.countP (fun m => decide (m.2.2.1 = (-1)) != true) = 0 := by
      rw [List.countP_eq_zero]
      intro m hmm
      simp [hm m hmm]
    rw [k1, k2, Nat.add_zero] at h
    exact h
-- A MARK IS MADE
/-- MARK p names f 0, f 1 .. -/
def mfl (x : St_Marks) (p : Nat) (f : Nat → Int32) (c : Nat) : St_Marks := (x.1, x.2.1, x.2.2.1, (x.2.2.2.1.1, fun j => if 12 * p ≤ j ∧ j < 12 * p + c then f (j - 12 * p) else x.2.2.2.1.2 j), x.2.2.2.2.1, x.2.2.2.2.2)
theorem mfl_0 (x : St_Marks) (p : Nat) (f : Nat → Int32) : mfl x p f 0 = x := by
  unfold mfl
  have : (fun j => if 12 * p ≤ j ∧ j < 12 * p + 0 then f (j - 12 * p) else x.2.2.2.1.2 j) = x.2.2.2.1.2 := by
    funext j
    rw [if_neg (by omega)]
  rw [this]
theorem mfl_step (x : St_Marks) (p : Nat) (f : Nat → Int32) (i : Nat) : mpt (mfl x p f i) p i (f i) = mfl x p f (i + 1) := by
  unfold mpt mfl
  have : upd (fun j => if 12 * p ≤ j ∧ j < 12 * p + i then f (j - 12 * p) else x.2.2.2.1.2 j) (12 * p + i) (f i) = fun j => if 12 * p ≤ j ∧ j < 12 * p + (i + 1) then f (j - 12 * p) else x.2.2.2.1.2 j := by
    funext j
    unfold upd
    by_cases h : j = 12 * p + i
    · rw [if_pos h, if_pos (by omega), show j - 12 * p = i by omega]
    · rw [if_neg h]
      show (if 12 * p ≤ j ∧ j < 12 * p + i then f (j - 12 * p) else x.2.2.2.1.2 j) = _
      by_cases h2 : 12 * p ≤ j ∧ j < 12 * p + i
      · rw [if_pos h2, if_pos (by omega)]
      · rw [if_neg h2, if_neg (by omega)]
  simp only
  rw [this]
theorem ML_mfl {N P : Nat} {x : St_Marks} (h : ML N x P) (p : Nat) (f : Nat → Int32) (c : Nat) : ML N (mfl x p f c) P := h
theorem MS_mfl {N P : Nat} {x : St_Marks} (h : MS N x P) (p : Nat) (f : Nat → Int32) (c : Nat) : MS N (mfl x p f c) P := h
theorem mrow_mfl {N P : Nat} {x : St_Marks} (h : ML N x P) {p c : Nat} (hc : x.2.1.2 p = nI c) (hc2 : c ≤ 12) (f : Nat → Int32) {k : Nat} (hk : k < N) : mrow (mfl x p f c) k = if k = p then (x.1.2 p, nI c, x.2.2.1.2 p, x.2.2.2.2.1.2 p, lst f c) else mrow x k := by
  obtain ⟨ck, hck, ek⟩ := h.2.2.2.2 k hk
  by_cases hkp : k = p
  · subst hkp
    rw [if_pos rfl]
    show (x.1.2 k, x.2.1.2 k, x.2.2.1.2 k, x.2.2.2.2.1.2 k, mls (x.2.1.2 k) (fun j => if 12 * k ≤ j ∧ j < 12 * k + c then f (j - 12 * k) else x.2.2.2.1.2 j) k) = _
    have key : mls (nI c) (fun j => if 12 * k ≤ j ∧ j < 12 * k + c then f (j - 12 * k) else x.2.2.2.1.2 j) k = lst f c := by
      unfold mls lst
      rw [nI_clamp (by omega)]
      apply List.map_congr_left
      intro i hi
      have := List.mem_range.mp hi
      show (if 12 * k ≤ 12 * k + i ∧ 12 * k + i < 12 * k + c then f (12 * k + i - 12 * k) else _) = f i
      rw [if_pos (by omega), show 12 * k + i - 12 * k = i by omega]
    rw [hc, key]
  · rw [if_neg hkp]
    refine Prod.ext rfl (Prod.ext rfl (Prod.ext rfl (Prod.ext rfl ?_)))
    refine mls_congr (fun i hi => ?_)
    show (if 12 * p ≤ 12 * k + i ∧ 12 * k + i < 12 * p + c then _ else x.2.2.2.1.2 (12 * k + i)) = _
    have hi' : i < (x.2.1.2 k).toNatClampNeg := hi
    rw [ek, nI_clamp (by omega)] at hi'
    rw [if_neg (by omega)]
theorem MC_add {N : Nat} {x : St_Marks} {l : List MKQ} (h : MC N x l) (hP : l.length < N) (num row : Int32) (dig : Int64) {c : Nat} (hc : c ≤ 12) (hq : ∀ m, m ∈ l → m.1 ≠ num) : ∃ x' p, m_Marks_add x num (nI c) row dig = some (nI p, x') ∧ p < l.length + 1 ∧ MS N x' (l.length + 1) ∧ x'.2.1.2 p = nI c ∧ ∀ f, ∃ l', MC N (mfl x' p f c) l' ∧ l'.Perm ((num, nI c, row, dig, lst f c) :: l) := by
  obtain ⟨x', p, a1, a2, a3, a4, a5, a6, a7, a8⟩ := M_add h.1 hP num row dig hc (fun k hk => hq (mrow x k) (MC_mem h hk))
  refine ⟨x', p, a1, by omega, a2, a6, fun f => ?_⟩
  have hN := a2.1.2.2.1
  have hr : ∀ k, k ≤ l.length → mrow (mfl x' p f c) k = if k < p then mrow x k else if k = p then (num, nI c, row, dig, lst f c) else mrow x (k - 1) := by
    intro k hk
    rw [mrow_mfl a2.1 a6 hc f (by omega)]
    by_cases hkp : k = p
    · rw [if_pos hkp, if_neg (by omega), if_pos hkp, a5, a7, a8]
    · rw [if_neg hkp, a4 k hk hkp]
      by_cases h1 : k < p
      · rw [if_pos h1, if_pos h1]
      · rw [if_neg h1, if_neg h1, if_neg hkp]
  have hp := lst_ins (f := mrow x) (f' := mrow (mfl x' p f c)) a3 hr
  rw [h.2] at hp
  exact ⟨lst (mrow (mfl x' p f c)) (l.length + 1), ⟨by rw [lst_len]; exact MS_mfl a2 _ _ _, by rw [lst_len]⟩, hp⟩
theorem ss_made (g : St_Log) (a b : St_Marks) : s_made (s_made g a) b = s_made g b := rfl
theorem C_mM_L {n N P Q : Nat} {g : St_Log} {x : St_Marks} (hx : ML N x Q) {p c fst : Nat} (hp : p < Q) (hc : x.2.1.2 p = nI c) (hc2 : c ≤ 12) (hPS : PS n (g_parts g) P) (hfst : fst + c ≤ P) : ∀ (d fuel i : Nat), i + d = c → d < fuel → m_Log_makeMark_L38 fuel (s_made g (mfl x p (fun k => (crow (g_parts g) (fst + k)).1) i)) (nI c) (nI p) (nI fst) (nI i) = some (g_greatestMark g, s_made g (mfl x p (fun k => (crow (g_parts g) (fst + k)).1) c)) := by
  have hPn := hPS.2.2.1
  have h512 := hPS.2.2.2.1
  intro d
  induction d with
  | zero =>
    intro fuel i hi hf
    obtain ⟨fu, rfl, -⟩ := fu1 hf
    rw [m_Log_makeMark_L38, if_pos (nI_le (by omega) (by omega))]
    simp only [q_greatestMark]
    rw [show i = c by omega]
  | succ d ih =>
    intro fuel i hi hf
    obtain ⟨fu, rfl, hf'⟩ := fu1 hf
    rw [m_Log_makeMark_L38, if_neg (nI_ge (by omega) (by omega))]
    simp only [q_parts, q_made, ss_made]
    rw [nI_add]
    refine Eq.trans (bs (P_numberAt hPS.l (show fst + i < P by omega))) ?_
    have hs := M_setPart (ML_mfl hx p (fun k => (crow (g_parts g) (fst + k)).1) i) (k := p) (i := i) (c := c) hp hc hc2 (by omega) ((g_parts g).1.2 (fst + i))
    refine Eq.trans (bs hs) ?_
    have e : mpt (mfl x p (fun k => (crow (g_parts g) (fst + k)).1) i) p i ((g_parts g).1.2 (fst + i)) = mfl x p (fun k => (crow (g_parts g) (fst + k)).1) (i + 1) := mfl_step x p (fun k => (crow (g_parts g) (fst + k)).1) i
    rw [e, nI_1]
    exact ih fu (i + 1) (by omega) (by omega)
theorem C_makeMark {n : Nat} {g : St_Log} {lp : List PQ} {lm : List MKQ} {GM c : Nat} (hP : PC n (g_parts g) lp) (hM : MC 6 (g_made g) lm) (hlt : lm.length < 6) (hc : c ≤ 12) (hcP : c ≤ lp.length) (hG : g_greatestMark g = nI GM) (hq : ∀ m, m ∈ lm → m.1 ≠ nI (GM + 1)) : ∃ x' lm', m_Log_makeMark g (nI c) = some (nI (GM + 1), s_made (s_greatestMark g (nI (GM + 1))) x') ∧ MC 6 x' lm' ∧ lm'.Perm ((nI (GM + 1), nI c, (-1), 0, lst (fun k => (crow (g_parts g) (lp.length - c + k)).1) c) :: lm) := by
  obtain ⟨x', p, a1, a2, a3, a4, a5⟩ := MC_add hM hlt (nI (GM + 1)) (-1) 0 hc hq
  obtain ⟨lm', b1, b2⟩ := a5 (fun k => (crow (g_parts g) (lp.length - c + k)).1)
  have h3 := hP.1.2.2.1
  have h4 := hP.1.2.2.2.1
  refine ⟨_, lm', ?_, b1, b2⟩
  unfold m_Log_makeMark
  rw [hG, nI_1]
  refine Eq.trans (bs a1) ?_
  have hsz : m_Parts_size (g_parts g) = some (nI lp.length) := by unfold m_Parts_size; rw [hP.1.2.1]
  refine Eq.trans (bs hsz) ?_
  simp only
  rw [pk_sub hcP]
  have k := C_mM_L (n := n) (N := 6) (P := lp.length) (Q := lm.length + 1) (g := s_greatestMark g (nI (GM + 1))) (x := x') a3.1 (p := p) (c := c) (fst := lp.length - c) a2 a4 hc (by simp only [q_parts]; exact hP.1) (by omega) c FU 0 (by omega) (FU_lt (by omega))
  rw [mfl_0] at k
  simp only [q_greatestMark, q_parts] at k
  rw [n0]
  exact k
-- the reference
theorem R_newMark {n : Nat} {r : St_Ref} {L : List MKQ} (hR : RI n r) (hM : MR r L) (hlt : L.length < 270) {c GM : Nat} (hc : 1 ≤ c ∧ c ≤ 12) (hl : g_RlastMark r = nI GM) (f : Nat → Int32) (hf : ∀ i, i < c → (g_RmPart r).2 (12 * L.length + i) = f i) : ∃ r', m_RRef_newMark r (nI c) = some (nI (GM + 1), r') ∧ RI n r' ∧ fMed r' = fMed r ∧ fTap r' = fTap r ∧ fPar r' = fPar r ∧ fHd r' = fHd r ∧ g_RlastPart r' = g_RlastPart r ∧ g_RlastMark r' = nI (GM + 1) ∧ MR r' (L ++ [(nI (GM + 1), nI c, (-1), 0, lst f c)]) := by
  obtain ⟨hp, hP, hls, hk⟩ := id hM
  have l1 : (g_RmNumber r).1 = 270 := ri_mNumber hR
  have l2 : (g_RmRow r).1 = 270 := ri_mRow hR
  have l3 : (g_RmCount r).1 = 270 := ri_mCount hR
  have l4 : (g_RmDigest r).1 = 270 := ri_mDigest hR
  have c0 : (g_Rmarks r).toNatClampNeg = L.length := by rw [hp]; exact nI_clamp (by omega)
  have i0 : ∀ M, M = 270 → ¬ (g_Rmarks r < 0 ∨ M ≤ (g_Rmarks r).toNatClampNeg) := fun M hM => by rw [hM, hp]; exact nI_in (by omega) (by omega)
  obtain ⟨r', hr'⟩ : ∃ r', r' = (s_Rmarks (s_RmDigest (s_RmCount (s_RmRow (s_RmNumber (s_RlastMark r ((g_RlastMark r) + 1)) ((g_RmNumber r).1, upd (g_RmNumber r).2 ((g_Rmarks r)).toNatClampNeg ((g_RlastMark r) + 1))) ((g_RmRow r).1, upd (g_RmRow r).2 ((g_Rmarks r)).toNatClampNeg (-1))) ((g_RmCount r).1, upd (g_RmCount r).2 ((g_Rmarks r)).toNatClampNeg (nI c))) ((g_RmDigest r).1, vp_updL (g_RmDigest r).2 ((g_Rmarks r)).toNatClampNeg 0)) ((g_Rmarks r) + 1)) := ⟨_, rfl⟩
  have hq : ∀ k, k ≤ L.length → qrow r' k = if k = L.length then (nI (GM + 1), nI c, (-1), 0, lst f c) else qrow r k := by
    intro k hkL
    unfold qrow
    rw [hr']
    simp only [qR_mNumber, qR_mCount, qR_mRow, qR_mDigest, qR_mPart, c0]
    unfold upd vp_updL
    by_cases h : k = L.length
    · simp only [if_pos h]
      rw [hl, nI_1]
      refine Prod.ext rfl (Prod.ext rfl (Prod.ext rfl (Prod.ext rfl ?_)))
      unfold mls lst
      simp only
      rw [nI_clamp (by omega)]
      apply List.map_congr_left
      intro i hi
      rw [h]
      exact hf i (List.mem_range.mp hi)
    · simp only [if_neg h]
  refine ⟨r', ?_, ?_, ?_, ?_, ?_, ?_, ?_, ?_, ⟨?_, ?_, ?_, ?_⟩⟩
  · unfold m_RRef_newMark
    refine Eq.trans (if_neg (i0 _ l1)) ?_
    refine Eq.trans (if_neg (i0 _ l2)) ?_
    refine Eq.trans (if_neg (i0 _ l3)) ?_
    refine Eq.trans (if_neg (i0 _ l4)) ?_
    rw [← hr', hl, nI_1]
  · rw [hr']
    refine rs_marks (rs_mDigest (rs_mCount (rs_mRow (rs_mNumber (rs_lastMark hR) ?_) ?_) ?_) ?_) ?_
    · exact l1
    · exact l2
    · exact l3
    · exact l4
    · exact ⟨L.length + 1, by omega, by rw [hp, nI_1]⟩
  · rw [hr']; simp only [qf_Med]
  · rw [hr']; simp only [qf_Tap]
  · rw [hr']; simp only [qf_Par]
  · rw [hr']; simp only [qf_Hd]
  · rw [hr']; simp only [qR_lastPart]
  · rw [hr']; simp only [qR_lastMark]; rw [hl, nI_1]
  · rw [hr']
    simp only [qR_marks]
    rw [hp, nI_1, List.length_append]; rfl
  · rw [List.length_append]
    show L.length + 1 ≤ 270
    omega
  · rw [List.length_append]
    show lst (qrow r') (L.length + 1) = _
    rw [lst_succ, hq L.length (Nat.le_refl _), if_pos rfl, lst_congr (g := qrow r) (fun k hk => by rw [hq k (by omega), if_neg (by omega)]), hls]
  · intro m hm
    rcases List.mem_append.mp hm with z | z
    · exact hk m z
    · rcases List.mem_cons.mp z with rfl | z
      · exact ⟨c, hc.1, hc.2, rfl⟩
      · cases z
theorem R_below_L {r : St_Ref} {lp : List PQ} (h : PR r lp) (v : Int32) : ∀ (d fuel k : Nat) (b : Int32), k + d = lp.length → d < fuel → ∃ b', m_RRef_below_L4 r fuel v b (nI k) = some b' ∧ (b' = b ∨ ∃ q, q ∈ lp ∧ q.1 = b' ∧ q.1 < v) ∧ b ≤ b' ∧ ∀ j, k ≤ j → j < lp.length → (rrow r j).1 < v → (rrow r j).1 ≤ b' := by
  obtain ⟨⟨⟨l1, -⟩, hp, hP⟩, -⟩ := id h
  intro d
  induction d with
  | zero =>
    intro fuel k b hk hf
    obtain ⟨fu, rfl, -⟩ := fu1 hf
    refine ⟨b, ?_, Or.inl rfl, Int32.le_refl _, fun j h1 h2 => absurd h2 (by omega)⟩
    rw [m_RRef_below_L4, hp, if_pos (nI_le (by omega) (by omega))]
  | succ d ih =>
    intro fuel k b hk hf
    obtain ⟨fu, rfl, hf'⟩ := fu1 hf
    have hmem := PR_mem h (show k < lp.length by omega)
    have c0 : (nI k).toNatClampNeg = k := nI_clamp (by omega)
    have i0 : ¬ (nI k < 0 ∨ 520 ≤ k) := by
      have := nI_in (c := k) (N := 520) (by omega) (by omega)
      rw [c0] at this
      exact this
    rw [m_RRef_below_L4, hp, if_neg (nI_ge (by omega) (by omega)), l1, c0, if_neg i0, nI_1]
    by_cases h1 : v ≤ (g_RpNumber r).2 k
    · obtain ⟨b', a1, a2, a3, a4⟩ := ih fu (k + 1) b (by omega) (by omega)
      rw [if_pos h1]
      refine ⟨b', a1, a2, a3, fun j j1 j2 j3 => ?_⟩
      by_cases hj : j = k
      · rw [hj] at j3
        exact absurd j3 (Int32.not_lt.mpr h1)
      · exact a4 j (by omega) j2 j3
    · rw [if_neg h1, if_neg i0]
      by_cases h2 : (g_RpNumber r).2 k ≤ b
      · obtain ⟨b', a1, a2, a3, a4⟩ := ih fu (k + 1) b (by omega) (by omega)
        rw [if_pos h2]
        refine ⟨b', a1, a2, a3, fun j j1 j2 j3 => ?_⟩
        by_cases hj : j = k
        · rw [hj]
          exact Int32.le_trans h2 a3
        · exact a4 j (by omega) j2 j3
      · obtain ⟨b', a1, a2, a3, a4⟩ := ih fu (k + 1) ((g_RpNumber r).2 k) (by omega) (by omega)
        rw [if_neg h2, if_neg i0]
        refine ⟨b', a1, ?_, Int32.le_trans (Int32.le_of_lt (Int32.not_le.mp h2)) a3, fun j j1 j2 j3 => ?_⟩
        · rcases a2 with a2 | a2
          · right
            exact ⟨_, hmem, a2.symm, Int32.not_le.mp h1⟩
          · exact Or.inr a2
        · by_cases hj : j = k
          · rw [hj]
            exact a3
          · exact a4 j (by omega) j2 j3
theorem R_below {n : Nat} {r : St_Ref} {x : St_Parts} {lp : List PQ} (h : PR r lp) (hc : PC n x lp) (hpos : ∀ q, q ∈ lp → 0 < q.1) {v : Int32} {j : Nat} (hj : j < lp.length) (h1 : (crow x j).1 < v) (h2 : ∀ k, j < k → k < lp.length → v ≤ (crow x k).1) : m_RRef_below r v = some (crow x j).1 := by
  have hP := h.1.2.2
  obtain ⟨b', a1, a2, a3, a4⟩ := R_below_L h v lp.length FU 0 0 (by omega) (FU_lt (by omega))
  have hge : (crow x j).1 ≤ b' := by
    obtain ⟨i, hi, e⟩ := (h.2.1 _).mp (PC_mem hc hj)
    have := a4 i (by omega) hi (by rw [e]; exact h1)
    rw [e] at this
    exact this
  have hle : b' ≤ (crow x j).1 := by
    rcases a2 with rfl | ⟨q, hq, e1, e2⟩
    · exact Int32.le_of_lt (hpos _ (PC_mem hc hj))
    · obtain ⟨k, hk, e⟩ := ((PC_tc hc).2 q).mp hq
      rw [← e] at e1 e2
      rcases Nat.lt_trichotomy k j with hkj | hkj | hkj
      · rw [← e1]
        exact Int32.le_of_lt (hc.1.2.2.2.2 k j hkj hj)
      · rw [← e1, hkj]
        exact Int32.le_refl _
      · exact absurd e2 (Int32.not_lt.mpr (h2 k hkj hk))
  unfold m_RRef_below
  rw [n0] at a1
  rw [n0, a1, Int32.le_antisymm hle hge]
-- mark
theorem sr_mPart (r : St_Ref) (a b : AI) : s_RmPart (s_RmPart r a) b = s_RmPart r b := rfl
theorem lst_pw {α : Type} {R : α → α → Prop} {f : Nat → α} : ∀ (P : Nat), (∀ i j, i < j → j < P → R (f i) (f j)) → (lst f P).Pairwise R := by
  intro P
  induction P with
  | zero => intro _; exact List.Pairwise.nil
  | succ P ih =>
    intro h
    rw [lst_succ, List.pairwise_append]
    refine ⟨ih (fun i j h1 h2 => h i j h1 (by omega)), List.pairwise_singleton _ _, fun a ha b hb => ?_⟩
    obtain ⟨k, hk, rfl⟩ := mem_lst.mp ha
    rcases List.mem_cons.mp hb with rfl | hb
    · exact h k P hk (by omega)
    · cases hb
theorem R_mk_L {n : Nat} {r : St_Ref} {x : St_Parts} {lp : List PQ} {M c : Nat} (hR : RI n r) (h : PR r lp) (hx : PC n x lp) (hpos : ∀ q, q ∈ lp → 0 < q.1) (hM : M < 270) (hm : g_Rmarks r = nI M) (hc : c ≤ 12) (hcP : c ≤ lp.length) : ∀ (d fuel : Nat) (F : Nat → Int32) (v v3 : Int32), d ≤ c → ((d = 0 ∧ v3 < 0) ∨ (1 ≤ d ∧ v3 = nI (d - 1))) → (∀ k, k < lp.length - c + d → (crow x k).1 < v) → (∀ k, lp.length - c + d ≤ k → k < lp.length → v ≤ (crow x k).1) → d < fuel → ∃ F', m_RRef_mark_L62 fuel (s_RmPart r (3240, F)) (nI c) v v3 = ((m_RRef_newMark (s_RmPart r (3240, F')) (nI c)).bind fun q9 => some (q9.1, q9.2)) ∧ (∀ i, i < d → F' (12 * M + i) = (crow x (lp.length - c + i)).1) ∧ ∀ j, ¬ (12 * M ≤ j ∧ j < 12 * M + d) → F' j = F j := by
  intro d
  induction d with
  | zero =>
    intro fuel F v v3 hd hv h1 h2 hf
    obtain ⟨fu, rfl, -⟩ := fu1 hf
    refine ⟨F, ?_, fun i hi => absurd hi (by omega), fun j _ => rfl⟩
    rw [m_RRef_mark_L62]
    exact if_pos (hv.resolve_right (fun e => absurd e.1 (by omega))).2
  | succ d ih =>
    intro fuel F v v3 hd hv h1 h2 hf
    obtain ⟨fu, rfl, hf'⟩ := fu1 hf
    have hv3 : v3 = nI d := (hv.resolve_left (fun e => absurd e.1 (by omega))).2
    subst hv3
    have hb := R_below (r := s_RmPart r (3240, F)) (PR_fr (by simp only [qf_Par]) h) hx hpos (v := v) (j := lp.length - c + d) (by omega) (h1 _ (by omega)) (fun k k1 k2 => h2 k (by omega) k2)
    obtain ⟨F', a1, a2, a3⟩ := ih fu (upd F (12 * M + d) (crow x (lp.length - c + d)).1) (crow x (lp.length - c + d)).1 (nI d + (-1)) (by omega) (by
      by_cases h0 : d = 0
      · left
        subst h0
        exact ⟨rfl, by decide⟩
      · right
        exact ⟨by omega, sb_m1 (by omega)⟩) (fun k hk => hx.1.2.2.2.2 k _ (by omega) (by omega)) (fun k k1 k2 => by
      by_cases hk : k = lp.length - c + d
      · rw [hk]; exact Int32.le_refl _
      · exact Int32.le_of_lt (hx.1.2.2.2.2 _ k (by omega) k2)) (by omega)
    refine ⟨F', ?_, fun i hi => ?_, fun j hj => ?_⟩
    · rw [m_RRef_mark_L62]
      refine Eq.trans (if_neg (nI_pos (by omega))) ?_
      refine Eq.trans (bs hb) ?_
      simp only [qR_marks, qR_mPart, sr_mPart]
      rw [hm, n12, pk_mul, nI_add]
      refine Eq.trans (if_neg (nI_in (show 12 * M + d < 3240 by omega) (by omega))) ?_
      rw [nI_clamp (by omega)]
      exact a1
    · by_cases hid : i = d
      · rw [hid, a3 _ (by omega)]
        unfold upd
        rw [if_pos rfl]
      · exact a2 i (by omega)
    · rw [a3 j (by omega)]
      unfold upd
      rw [if_neg (by omega)]
theorem nI_back {a : Nat} (h : a < 2 ^ 31) : nI (nI a).toNatClampNeg = nI a := by rw [nI_clamp h]
theorem Abs_mark {n : Nat} {x : St_Parts} {lp : List PQ} {lk lm : List MKQ} {GP GM c : Nat} (h : Abs n lp lk lm GP GM) (hx : PC n x lp) (hG : GM < 1000000000) (hc : 1 ≤ c ∧ c ≤ 12) (hcP : c ≤ lp.length) : Abs n lp lk ((nI (GM + 1), nI c, (-1), 0, lst (fun k => (crow x (lp.length - c + k)).1) c) :: lm) GP (GM + 1) := by
  obtain ⟨h1, h2, h3, h4, h5, h6, h7⟩ := h
  have hmem : ∀ k, k < c → crow x (lp.length - c + k) ∈ lp := fun k hk => PC_mem hx (by omega)
  have hnum : ∀ k, k < c → ∃ a : Nat, 1 ≤ a ∧ a ≤ GP ∧ (crow x (lp.length - c + k)).1 = nI a := fun k hk => (h1 _ (hmem k hk)).2
  refine ⟨h1, fun m hm => ?_, fun m hm => ?_, h4, ?_, h6, by omega⟩
  · obtain ⟨k1, k2, k3⟩ := h2 m hm
    exact ⟨k1, k2, NumLe_mono (by omega) k3⟩
  · rcases List.mem_cons.mp hm with rfl | hm
    · refine ⟨⟨GM + 1, c, rfl, by omega, by omega, rfl, hc.1, hc.2, rfl, rfl⟩, ⟨lst (fun k => ((crow x (lp.length - c + k)).1).toNatClampNeg) c, ?_, ?_, ?_, ?_, ?_, ?_⟩, ⟨GM + 1, by omega, by omega, rfl⟩, ?_⟩
      · show lst (fun k => (crow x (lp.length - c + k)).1) c = _
        unfold lst
        rw [List.map_map]
        apply List.map_congr_left
        intro k hk
        obtain ⟨a, a1, a2, a3⟩ := hnum k (List.mem_range.mp hk)
        show _ = nI ((crow x (lp.length - c + k)).1).toNatClampNeg
        rw [a3, nI_back (by omega)]
      · rw [lst_len]
      · rw [lst_len]; exact hc.1
      · rw [lst_len]; exact hc.2
      · refine lst_pw c (fun i j hij hj => ?_)
        obtain ⟨a, a1, a2, a3⟩ := hnum i (by omega)
        obtain ⟨b, b1, b2, b3⟩ := hnum j hj
        have hlt : (crow x (lp.length - c + i)).1 < (crow x (lp.length - c + j)).1 := hx.1.2.2.2.2 _ _ (by omega) (by omega)
        rw [a3, b3] at hlt ⊢
        rw [nI_clamp (by omega), nI_clamp (by omega)]
        exact (nI_ltI (by omega) (by omega)).mp hlt
      · intro a ha
        obtain ⟨k, hk, rfl⟩ := mem_lst.mp ha
        obtain ⟨a, a1, a2, a3⟩ := hnum k hk
        rw [a3, nI_clamp (by omega)]
        exact ⟨a1, a2⟩
      · intro v hv
        obtain ⟨k, hk, rfl⟩ := mem_lst.mp hv
        exact ⟨_, hmem k hk, rfl⟩
    · obtain ⟨k1, k2, k3, k4⟩ := h3 m hm
      exact ⟨k1, k2, NumLe_mono (by omega) k3, k4⟩
  · refine ((List.perm_middle (a := (nI (GM + 1), nI c, (-1), 0, lst (fun k => (crow x (lp.length - c + k)).1) c)) (l₁ := lk) (l₂ := lm)).pairwise_iff (fun hr => hr.symm)).mpr (List.pairwise_cons.mpr ⟨fun m hm => ?_, h5⟩)
    have hle : NumLe GM m.1 := by
      rcases List.mem_append.mp hm with z | z
      · exact (h2 m z).2.2
      · exact (h3 m z).2.2.1
    obtain ⟨a, a1, a2, a3⟩ := hle
    show nI (GM + 1) ≠ m.1
    rw [a3]
    intro e
    have := (nI_eq (by omega) (by omega)).mp e
    omega
theorem fresh_mark {n : Nat} {lp : List PQ} {lk lm : List MKQ} {GP GM : Nat} (h : Abs n lp lk lm GP GM) : ∀ m, m ∈ lm → m.1 ≠ nI (GM + 1) := by
  intro m hm e
  obtain ⟨a, a1, a2, a3⟩ := (h.2.2.1 m hm).2.2.1
  have := h.2.2.2.2.2.2
  rw [a3] at e
  have := (nI_eq (by omega) (by omega)).mp e
  omega
theorem num_pos {n : Nat} {q : PQ} (h : FitP n q) : 0 < q.1 := by
  obtain ⟨a, _, _, _, a1, a2, a3, _⟩ := h
  rw [a1, n0]
  exact nI_lt (by omega) (by omega)
/-- a MARK more on both sides: of the c PARTS with the greatest numbers -/
theorem w_mark {n : Nat} {g : St_Log} {r : St_Ref} {lp : List PQ} {lk lm L : List MKQ} {GP GM c : Nat} (hC : CI n g) (hR : RI n r) (hn : 4 ≤ n ∧ n ≤ 512) (hTC : TabC n g lp lk lm) (hTR : TabR r lp L) (hL : L.Perm (lk ++ lm)) (hA : Abs n lp lk lm GP GM) (hN : Nums g r GP GM) (hG : GM < 1000000000) (hc : 1 ≤ c ∧ c ≤ 12) (hcP : c ≤ lp.length) (hlt : lm.length < 6) (hf : ∀ i, i < c → (g_RmPart r).2 (12 * L.length + i) = (crow (g_parts g) (lp.length - c + i)).1) : ∃ x' r' lm' L', m_Log_makeMark g (nI c) = some (nI (GM + 1), s_made (s_greatestMark g (nI (GM + 1))) x') ∧ m_RRef_newMark r (nI c) = some (nI (GM + 1), r') ∧ CI n (s_made (s_greatestMark g (nI (GM + 1))) x') ∧ RI n r' ∧ fMed r' = fMed r ∧ fTap r' = fTap r ∧ fPar r' = fPar r ∧ fHd r' = fHd r ∧ TabC n (s_made (s_greatestMark g (nI (GM + 1))) x') lp lk lm' ∧ TabR r' lp L' ∧ L'.Perm (lk ++ lm') ∧ Abs n lp lk lm' GP (GM + 1) ∧ Nums (s_made (s_greatestMark g (nI (GM + 1))) x') r' GP (GM + 1) := by
  have hroom := Abs_room hA hn.2
  have hLl : L.length = lk.length + lm.length := by rw [hL.length_eq, List.length_append]
  obtain ⟨x', lm', a1, a2, a3⟩ := C_makeMark hTC.1 hTC.2.2.1 hlt hc.2 hcP hN.2.2.1 (fresh_mark hA)
  obtain ⟨r', b1, b2, b3, b4, b5, b6, b7, b8, b9⟩ := R_newMark hR hTR.2 (by omega) hc hN.2.2.2 (fun k => (crow (g_parts g) (lp.length - c + k)).1) hf
  refine ⟨x', r', lm', _, a1, b1, cs_made (cs_greatestMark hC) ⟨_, a2.1.1⟩, b2, b3, b4, b5, b6, ⟨?_, ?_, ?_, ?_⟩, ⟨PR_fr b5 hTR.1, b9⟩, ?_, Abs_perm (List.Perm.refl _) (List.Perm.refl _) a3.symm (Abs_mark hA hTC.1 hG hc hcP), ⟨?_, ?_, ?_, ?_⟩⟩
  · simp only [q_parts]; exact hTC.1
  · simp only [q_kept]; exact hTC.2.1
  · simp only [q_made]; exact a2
  · simp only [q_room]; exact hTC.2.2.2
  · refine (List.perm_append_singleton _ _).trans ?_
    refine (List.Perm.cons _ hL).trans ?_
    refine List.perm_middle.symm.trans ?_
    exact List.Perm.append_left lk a3.symm
  · simp only [q_greatestPart]; exact hN.1
  · rw [b7]; exact hN.2.1
  · simp only [q_greatestMark]
  · exact b8
theorem st_mark {n : Nat} {g : St_Log} {r : St_Ref} (h : Rel n g r) (p : Int32) : ∃ a g' r', m_Log_mark g p = some (a, g') ∧ m_RRef_mark r p = some (a, r') ∧ Rel n g' r' := by
  obtain ⟨⟨hn, hC, hR, ht, ho, hts⟩, hT⟩ := id h
  unfold m_Log_mark m_RRef_mark
  by_cases hop : g_isOpen g = 0
  · exact ⟨-3, g, r, by rw [if_pos hop], by rw [if_pos (by rw [← ho]; exact hop)], h⟩
  · have ho1 := open_1 hC hop
    have hop' : ¬ g_Ropen r = 0 := by rw [← ho]; exact hop
    rw [if_neg hop, if_neg hop']
    obtain ⟨lp, lk, lm, L, GP, GM, hTC, hTR, hL, hA, hN, hH⟩ := hT ho1
    unfold m_RRef_isIn
    by_cases h1 : p < 1
    · exact ⟨-2, g, r, by rw [if_pos h1], by rw [if_pos h1]; rfl, h⟩
    · by_cases h2 : p ≤ 12
      · have h0 : ¬ p < 0 := fun e => h1 (Int32.lt_trans e (by decide))
        obtain ⟨c, hc, rfl⟩ := nI_of2 (x := p) (M := 12) (n := 12) (by decide +kernel) h0 h2
        have hc1 : 1 ≤ c := by
          rcases Nat.eq_zero_or_pos c with h | h
          · subst h
            exact absurd (by decide) h1
          · exact h
        rw [if_neg h1, if_pos h2, if_neg h1, if_neg (Int32.not_lt.mpr h2)]
        simp only [Option.bind_some]
        rw [if_neg e10]
        have hroom := Abs_room hA hn.2
        have hLl : L.length = lk.length + lm.length := by rw [hL.length_eq, List.length_append]
        have hsz : m_Parts_size (g_parts g) = some (nI lp.length) := by unfold m_Parts_size; rw [hTC.1.1.2.1]
        have hsm : m_Marks_size (g_made g) = some (nI lm.length) := by unfold m_Marks_size; rw [hTC.2.2.1.1.1.2.1]
        have hlm : lm.length ≤ 6 := hTC.2.2.1.1.1.2.2.1
        rw [bs hsz, hTR.1.1.2.1]
        by_cases h3 : c ≤ lp.length
        · rw [if_pos (nI_le h3 (by omega)), if_pos (nI_le h3 (by omega)), bs hsm, bs (R_count hR hn.2 hTR.2 hL hA).1, hN.2.2.1, hN.2.2.2, nMO, show (6 : Int32) = nI 6 by decide +kernel]
          by_cases h6 : lm.length = 6
          · exact ⟨-4, g, r, by rw [if_pos (nI_le (by omega) (by omega))], by rw [if_pos (by rw [h6])], h⟩
          · rw [if_neg (nI_ge (by omega) (by omega)), if_neg (fun e => h6 ((nI_eq (by omega) (by omega)).mp e))]
            have hGM := hA.2.2.2.2.2.2
            by_cases h7 : GM < 1000000000
            · rw [if_pos (nI_lt h7 (by omega)), if_neg (fun e => absurd ((nI_eq (by omega) (by omega)).mp e) (by omega))]
              have hr0 : r = s_RmPart r (3240, (g_RmPart r).2) := by
                have q1 : (3240, (g_RmPart r).2) = g_RmPart r := Prod.ext (ri_mPart hR).symm rfl
                rw [q1]; rfl
              have hnum : ∀ k, k < lp.length → (crow (g_parts g) k).1 < 1000000001 := by
                intro k hk
                obtain ⟨a, a1, a2, a3⟩ := (hA.1 _ (PC_mem hTC.1 hk)).2
                have := hA.2.2.2.2.2.1
                rw [a3, show (1000000001 : Int32) = nI 1000000001 by decide +kernel]
                exact nI_lt (by omega) (by omega)
              obtain ⟨F', f1, f2, f3⟩ := R_mk_L hR hTR.1 hTC.1 (fun q hq => num_pos (hA.1 q hq).1) (M := L.length) (c := c) (by omega) hTR.2.1 hc h3 c FU (g_RmPart r).2 1000000001 (nI c - 1) (Nat.le_refl _) (Or.inr ⟨hc1, by rw [n1, pk_sub hc1]⟩) (fun k hk => hnum k (by omega)) (fun k k1 k2 => absurd k2 (by omega)) (FU_lt (by omega))
              rw [← hr0] at f1
              have hR1 : RI n (s_RmPart r (3240, F')) := rs_mPart (v := (3240, F')) hR rfl
              have hMR1 : MR (s_RmPart r (3240, F')) L := by
                have er : ∀ k, k < L.length → qrow (s_RmPart r (3240, F')) k = qrow r k := by
                  intro k hk
                  obtain ⟨ck, -, hck, ek⟩ := hTR.2.2.2.2 _ (MR_mem hTR.2 hk)
                  have ek' : (g_RmCount r).2 k = nI ck := ek
                  unfold qrow
                  simp only [qR_mNumber, qR_mCount, qR_mRow, qR_mDigest, qR_mPart]
                  refine Prod.ext rfl (Prod.ext rfl (Prod.ext rfl (Prod.ext rfl ?_)))
                  refine mls_congr (fun i hi => ?_)
                  rw [ek', nI_clamp (by omega)] at hi
                  exact f3 _ (by omega)
                refine ⟨by simp only [qR_marks]; exact hTR.2.1, hTR.2.2.1, ?_, hTR.2.2.2.2⟩
                rw [lst_congr er]; exact hTR.2.2.2.1
              have hTR1 : TabR (s_RmPart r (3240, F')) lp L := ⟨PR_fr (by simp only [qf_Par]) hTR.1, hMR1⟩
              obtain ⟨x', r', lm', L', w1, w2, w3, w4, w5, w6, w7, w8, w9, w10, w11, w12, w13⟩ := w_mark hC hR1 hn hTC hTR1 hL hA (Nums_fr rfl rfl (by simp only [qf_Ls]) hN) h7 ⟨hc1, hc⟩ h3 (by omega) (fun i hi => by simp only [qR_mPart]; exact f2 i hi)
              refine ⟨nI (GM + 1), _, r', ?_, ?_, ⟨hn, w3, w4, ?_, ?_, ?_⟩, fun _ => ⟨lp, lk, lm', L', GP, GM + 1, w9, w10, w11, w12, w13, ?_⟩⟩
              · rw [bs w1]
              · rw [f1, bs w2]
              · simp only [q_medium]
                rw [ht]
                unfold rtri
                rw [e_medium w5, e_cutIn w5, e_written w5]
                simp only [qR_medium, qR_cutIn, qR_written]
              · simp only [q_isOpen]; rw [e_open w5]; simp only [qR_open]; exact ho
              · simp only [q_tape]; rw [e_tape w6, e_taped w6]; simp only [qR_tape, qR_taped]; exact hts
              · refine Hds_fr (g := g) (r := r) rfl rfl ?_ hH
                rw [w8]; simp only [qf_Hd]
            · exact ⟨-4, g, r, by rw [if_neg (nI_nlt (by omega) (by omega))], by rw [if_pos (by rw [show GM = 1000000000 by omega])], h⟩
        · exact ⟨-1, g, r, by rw [if_neg (nI_ge (by omega) (by omega))], by rw [if_neg (nI_ge (by omega) (by omega))], h⟩
      · exact ⟨-2, g, r, by rw [if_neg h1, if_neg h2], by rw [if_neg h1, if_pos (Int32.not_le.mp h2)]; rfl, h⟩
