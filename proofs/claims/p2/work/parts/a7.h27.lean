-- OPENING: numbers read, what is forgotten, heads
theorem n2a : ∀ a, a < 256 → jlshl ((jlshl 0 8) ||| lN a) 8 = lN (256 * a) := by decide +kernel
theorem lN_or (a : Nat) {b : Nat} (hb : b < 256) : lN (256 * a) ||| lN b = lN (256 * a + b) := by
  apply Int64.toBitVec_inj.mp
  show BitVec.ofNat 64 (256 * a) ||| BitVec.ofNat 64 b = BitVec.ofNat 64 (256 * a + b)
  rw [show 256 * a + b = 256 * a ||| b from Nat.two_pow_add_eq_or_of_lt (i := 8) hb a, BitVec.ofNat_or]
theorem n2b (a : Nat) (ha : a < 256) (b : Nat) (hb : b < 256) : ((jlshl ((jlshl 0 8) ||| lN a) 8) ||| lN b) = lN (256 * a + b) := by rw [n2a a ha, lN_or a hb]
theorem b255 (x : Int32) : ∃ c : Nat, c < 256 ∧ x &&& 255 = nI c := pk_andE x (m := 255) 8 (by decide +kernel)
theorem b255l (x : Int32) : ∃ c : Nat, c < 256 ∧ x.toInt64 &&& 255 = lN c := by
  obtain ⟨c, h1, h2⟩ := b255 x
  refine ⟨c, h1, ?_⟩
  rw [← l255, h2, nI_l (by omega)]
/-- two bytes -/
theorem num2 (f : Nat → Int32) (a : Nat) : ∃ l : Nat, l ≤ 65535 ∧ numF f a 2 = lN l := by
  obtain ⟨c0, h0, e0⟩ := b255l (f (a + 0))
  obtain ⟨c1, h1, e1⟩ := b255l (f (a + 1))
  refine ⟨256 * c0 + c1, by omega, ?_⟩
  rw [← n2b c0 h0 c1 h1, ← e0, ← e1]
  rfl
theorem lN1 : (1 : Int64) = lN 1 := by decide +kernel
theorem lNM : (1000000000 : Int64) = lN 1000000000 := by decide +kernel
theorem lN0 : (0 : Int64) = lN 0 := by decide +kernel
/-- a number of 1 .. 1000000000 -/
theorem numOk {x : Int64} (h1 : ¬ lg_cmp x 1 < 0) (h2 : ¬ 0 < lg_cmp x 1000000000) : ∃ a : Nat, 1 ≤ a ∧ a ≤ 1000000000 ∧ x = lN a ∧ x.toInt32 = nI a := by
  have k1 : ¬ x < 1 := fun e => h1 ((lg_cmp_lt x 1).mpr e)
  have k2 : ¬ (1000000000 : Int64) < x := fun e => h2 ((lg_cmp_gt x 1000000000).mpr e)
  have k0 : ¬ x < 0 := fun e => k1 (Int64.lt_trans e (by decide))
  obtain ⟨a, ha, rfl⟩ := pk_lOf k0
  rw [lN1, pk_lLT ha (by omega)] at k1
  rw [lNM, pk_lLT (by omega) ha] at k2
  exact ⟨a, by omega, by omega, rfl, lN_i a⟩
theorem C_forget {n : Nat} {g : St_Log} (hC : CI n g) (hn : 4 ≤ n ∧ n ≤ 512) : ∃ x1 x2 x3 x4, m_Log_forget g = some (s_greatestMark (s_greatestPart (s_room (s_made (s_kept (s_parts g x1) x2) x3) x4) 0) 0) ∧ PC n x1 [] ∧ MC (n / 2) x2 [] ∧ MC 6 x3 [] ∧ BT n x4 [] ∧ kRm n x4 := by
  obtain ⟨P, hP⟩ := ci_parts hC
  obtain ⟨K, hK⟩ := ci_kept hC
  obtain ⟨M, hM⟩ := ci_made hC
  have hmd := (ci_medium hC).1
  have hr : (g_room g).1 = n := (ci_room hC).1
  obtain ⟨x2, a1, a2, -⟩ := ML_removeFirst hK (a := K) (Nat.le_refl _)
  obtain ⟨x3, b1, b2, -⟩ := ML_removeFirst hM (a := M) (Nat.le_refl _)
  have c1 := C_free (x := g_room g) (n := n) (a := 0) (c := n) hr hn.2 (by omega)
  rw [Nat.sub_self] at a2 b2
  refine ⟨((g_parts g).1, (g_parts g).2.1, (g_parts g).2.2.1, (g_parts g).2.2.2.1, (g_parts g).2.2.2.2.1, 0), x2, x3, (n, setF (g_room g).2 0 n 0), ?_, ⟨⟨hP.1, n0, by show 0 ≤ n; omega, hP.2.2.2, fun i j _ hj => absurd hj (Nat.not_lt_zero _)⟩, rfl⟩, ⟨⟨a2, fun i j _ hj => absurd hj (Nat.not_lt_zero _)⟩, rfl⟩, ⟨⟨b2, fun i j _ hj => absurd hj (Nat.not_lt_zero _)⟩, rfl⟩, ⟨rfl, fun r h1 h2 => ?_⟩, kRm_set (ci_room hC).2 (Or.inl rfl)⟩
  · have hk : m_Marks_size (g_kept g) = some (nI K) := by unfold m_Marks_size; rw [hK.2.1]
    have hm : m_Marks_size (g_made g) = some (nI M) := by unfold m_Marks_size; rw [hM.2.1]
    have hs : m_Parts_shorten (g_parts g) 0 = some ((g_parts g).1, (g_parts g).2.1, (g_parts g).2.2.1, (g_parts g).2.2.2.1, (g_parts g).2.2.2.2.1, 0) := by
      unfold m_Parts_shorten
      have : jmax 0 (jmin (g_parts g).2.2.2.2.2 0) = 0 := by
        rw [hP.2.1]
        unfold jmin
        by_cases h0 : P = 0
        · rw [h0]; decide
        · rw [if_pos (show (0 : Int32) < nI P by rw [n0]; exact nI_lt (by omega) (by have := hP.2.2; omega))]
          decide
      rw [this]
    have hrw : m_Medium_rows (g_medium g) = some (nI n) := by unfold m_Medium_rows; rw [hmd.1]
    unfold m_Log_forget
    rw [bs hs, bs hk, bs a1, bs hm, bs b1, bs hrw, bs (show m_Room_free (g_room g) 0 (nI n) = _ from c1)]
  · show (if 0 ≤ r ∧ r < 0 + n then 0 else (g_room g).2 r) = 0 ↔ cov [] r = 0
    rw [if_pos (by omega), cov_nil]
    exact ⟨fun _ => rfl, fun _ => rfl⟩
/-- the row of the HEAD that counts, -1: none -/
def hdR (f : Nat → Int32) : Int32 := if goodH f 0 = 0 then (if goodH f 1 = 0 then (-1) else 1) else (if goodH f 1 = 0 then 0 else (if lg_cmp (numF f 36 4) (numF f 4 4) ≤ 0 then 0 else 1))
def hdS (f : Nat → Int32) : Int32 := if hdR f = (-1) then 0 else (if hdR f = 0 then (numF f 4 4).toInt32 else (numF f 36 4).toInt32)
theorem hdR_c (f : Nat → Int32) : hdR f = (-1) ∨ hdR f = 0 ∨ hdR f = 1 := by
  unfold hdR
  split
  · split
    · exact Or.inl rfl
    · exact Or.inr (Or.inr rfl)
  · split
    · exact Or.inr (Or.inl rfl)
    · split
      · exact Or.inr (Or.inl rfl)
      · exact Or.inr (Or.inr rfl)
def hdO (f : Nat → Int32) (j : Nat) : Int32 := if hdR f = (-1) then 0 else (if hdR f = 0 then (numF f (8 + 2 * j) 2).toInt32 else (numF f (40 + 2 * j) 2).toInt32)
theorem hdO_ok (f : Nat → Int32) (j : Nat) : ∃ o : Nat, o ≤ 65535 ∧ hdO f j = nI o := by
  unfold hdO
  split
  · exact ⟨0, by omega, n0⟩
  · split
    · obtain ⟨l, h1, h2⟩ := num2 f (8 + 2 * j)
      exact ⟨l, h1, by rw [h2, lN_i]⟩
    · obtain ⟨l, h1, h2⟩ := num2 f (40 + 2 * j)
      exact ⟨l, h1, by rw [h2, lN_i]⟩
theorem goodH_num {f : Nat → Int32} {w : Nat} (h : ¬ goodH f w = 0) : ∃ a : Nat, 1 ≤ a ∧ a ≤ 1000000000 ∧ numF f (32 * w + 4) 4 = lN a ∧ (numF f (32 * w + 4) 4).toInt32 = nI a := by
  unfold goodH at h
  split at h
  · split at h
    · exact absurd rfl h
    · split at h
      · exact absurd rfl h
      · split at h
        · exact absurd rfl h
        · rename_i h1 h2
          exact numOk h1 h2
  · exact absurd rfl h
theorem hdS_ok (f : Nat → Int32) : ∃ S : Nat, S ≤ 1000000000 ∧ hdS f = nI S := by
  unfold hdS hdR
  by_cases g0 : goodH f 0 = 0
  · by_cases g1 : goodH f 1 = 0
    · rw [if_pos g0, if_pos g1, if_pos rfl]
      exact ⟨0, by omega, n0⟩
    · obtain ⟨a, a1, a2, a3, a4⟩ := goodH_num g1
      rw [if_pos g0, if_neg g1, if_neg (by decide), if_neg (by decide)]
      exact ⟨a, a2, a4⟩
  · obtain ⟨a, a1, a2, a3, a4⟩ := goodH_num g0
    by_cases g1 : goodH f 1 = 0
    · rw [if_neg g0, if_pos g1, if_neg (by decide), if_pos rfl]
      exact ⟨a, a2, a4⟩
    · obtain ⟨b, b1, b2, b3, b4⟩ := goodH_num g1
      rw [if_neg g0, if_neg g1]
      split
      · rw [if_neg (by decide), if_pos rfl]
        exact ⟨a, a2, a4⟩
      · rw [if_neg (by decide), if_neg (by decide)]
        exact ⟨b, b2, b4⟩
theorem C_headThat {n : Nat} {g : St_Log} {t : T3} (hm : g_medium g = mk3 n t) (hn : 4 ≤ n ∧ n ≤ 512) : m_Log_headThatCounts g = some (hdR t.1) := by
  have k0 : m_Log_isGoodHead g 0 = some (goodH t.1 0) := C_isGoodHead hm hn (w := 0) (by omega)
  have k1 : m_Log_isGoodHead g 1 = some (goodH t.1 1) := C_isGoodHead hm hn (w := 1) (by omega)
  have a0 : m_Medium_number (mk3 n t) 0 4 4 = some (numF t.1 4 4) := c_number (mk3_ok hn.1 hn.2 t) (row := 0) (i := 4) (K := 4) (by omega) (by omega)
  have a1 : m_Medium_number (mk3 n t) 1 4 4 = some (numF t.1 36 4) := c_number (mk3_ok hn.1 hn.2 t) (row := 1) (i := 4) (K := 4) (by omega) (by omega)
  unfold m_Log_headThatCounts hdR
  rw [bs k0, hm]
  by_cases g0 : goodH t.1 0 = 0
  · rw [if_pos g0, if_pos g0, bs k1]
    split <;> rfl
  · rw [if_neg g0, if_neg g0, bs k1]
    by_cases g1 : goodH t.1 1 = 0
    · rw [if_pos g1, if_pos g1]
    · rw [if_neg g1, if_neg g1, bs a1, bs a0]
      split <;> rfl
theorem ss_owners (g : St_Log) (a b : AI) : s_owners (s_owners g a) b = s_owners g b := rfl
theorem C_rH_L {n : Nat} {g : St_Log} {t : T3} (hm : g_medium g = mk3 n t) (hn : 4 ≤ n ∧ n ≤ 512) : ∀ (d fuel j : Nat) (f : Nat → Int32), j + d = 8 → d < fuel → m_Log_readHeads_L31 fuel (s_owners g (8, f)) (hdR t.1) (nI j) = some (s_owners g (8, fun i => if j ≤ i ∧ i < 8 then hdO t.1 i else f i)) := by
  intro d
  induction d with
  | zero =>
    intro fuel j f hj hf
    obtain ⟨fu, rfl, -⟩ := fu1 hf
    rw [m_Log_readHeads_L31, if_pos (show (8 : Int32) ≤ nI j by rw [n8]; exact nI_le (by omega) (by omega))]
    have : (fun i => if j ≤ i ∧ i < 8 then hdO t.1 i else f i) = f := by
      funext i
      rw [if_neg (by omega)]
    rw [this]
  | succ d ih =>
    intro fuel j f hj hf
    obtain ⟨fu, rfl, hf'⟩ := fu1 hf
    have e : (fun i => if j + 1 ≤ i ∧ i < 8 then hdO t.1 i else upd f j (hdO t.1 j) i) = fun i => if j ≤ i ∧ i < 8 then hdO t.1 i else f i := by
      funext i
      unfold upd
      by_cases h1 : i = j
      · rw [if_neg (by omega), if_pos h1, if_pos (by omega), h1]
      · by_cases h2 : j + 1 ≤ i ∧ i < 8
        · rw [if_pos h2, if_pos (by omega)]
        · rw [if_neg h2, if_neg h1, if_neg (by omega)]
    have k := ih fu (j + 1) (upd f j (hdO t.1 j)) (by omega) (by omega)
    rw [e] at k
    rw [m_Log_readHeads_L31, if_neg (show ¬ (8 : Int32) ≤ nI j by rw [n8]; exact nI_ge (by omega) (by omega))]
    simp only [q_owners, q_medium]
    rw [hm, nI_1]
    have i0 : ¬ (nI j < 0 ∨ 8 ≤ (nI j).toNatClampNeg) := nI_in (by omega) (by omega)
    have ej : (8 : Int32) + 2 * nI j = nI (8 + 2 * j) := by rw [n8, n2, pk_mul, nI_add]
    rcases hdR_c t.1 with z | z | z
    · rw [if_pos z, if_neg i0, nI_clamp (by omega), ss_owners]
      have : hdO t.1 j = 0 := by unfold hdO; rw [if_pos z]
      rw [this] at k
      exact k
    · have hne : ¬ hdR t.1 = (-1) := by rw [z]; decide
      have hnum : m_Medium_number (mk3 n t) (hdR t.1) (8 + 2 * nI j) 2 = some (numF t.1 (8 + 2 * j) 2) := by
        rw [z, ej, n0, n2]
        have := c_number (mk3_ok hn.1 hn.2 t) (row := 0) (i := 8 + 2 * j) (K := 2) (by omega) (by omega)
        rw [show 32 * 0 + (8 + 2 * j) = 8 + 2 * j by omega] at this
        exact this
      rw [if_neg hne, bs hnum, if_neg i0, nI_clamp (by omega), ss_owners]
      have : hdO t.1 j = (numF t.1 (8 + 2 * j) 2).toInt32 := by unfold hdO; rw [if_neg hne, if_pos z]
      rw [this] at k
      exact k
    · have hne : ¬ hdR t.1 = (-1) := by rw [z]; decide
      have hne0 : ¬ hdR t.1 = 0 := by rw [z]; decide
      have hnum : m_Medium_number (mk3 n t) (hdR t.1) (8 + 2 * nI j) 2 = some (numF t.1 (40 + 2 * j) 2) := by
        rw [z, ej, n1, n2]
        have := c_number (mk3_ok hn.1 hn.2 t) (row := 1) (i := 8 + 2 * j) (K := 2) (by omega) (by omega)
        rw [show 32 * 1 + (8 + 2 * j) = 40 + 2 * j by omega] at this
        exact this
      rw [if_neg hne, bs hnum, if_neg i0, nI_clamp (by omega), ss_owners]
      have : hdO t.1 j = (numF t.1 (40 + 2 * j) 2).toInt32 := by unfold hdO; rw [if_neg hne, if_neg hne0]
      rw [this] at k
      exact k
def ow8 (f : Nat → Int32) (o : Nat → Int32) : Nat → Int32 := fun i => if 0 ≤ i ∧ i < 8 then hdO f i else o i
theorem C_readHeads {n : Nat} {g : St_Log} {t : T3} (hC : CI n g) (hm : g_medium g = mk3 n t) (hn : 4 ≤ n ∧ n ≤ 512) : m_Log_readHeads g = some (s_owners (s_serial g (hdS t.1)) (8, ow8 t.1 (g_owners g).2)) := by
  have ho : (g_owners g).1 = 8 := (ci_owners hC).1
  have hg : ∀ S, s_serial g S = s_owners (s_serial g S) (8, (g_owners g).2) := fun S => by
    have : (8, (g_owners g).2) = g_owners (s_serial g S) := Prod.ext ho.symm rfl
    rw [this]; rfl
  have k := fun S => C_rH_L (n := n) (g := s_serial g S) (t := t) (by simp only [q_medium]; exact hm) hn 8 FU 0 (g_owners g).2 (by omega) (FU_lt (by omega))
  unfold m_Log_readHeads
  rw [bs (C_headThat hm hn), hm]
  rcases hdR_c t.1 with z | z | z
  · rw [if_pos z, hg 0]
    refine Eq.trans (show m_Log_readHeads_L31 FU (s_owners (s_serial g 0) (8, (g_owners g).2)) (hdR t.1) 0 = _ from k 0) ?_
    have : hdS t.1 = 0 := by unfold hdS; rw [if_pos z]
    rw [this]; rfl
  · have hne : ¬ hdR t.1 = (-1) := by rw [z]; decide
    have hnum : m_Medium_number (mk3 n t) (hdR t.1) 4 4 = some (numF t.1 4 4) := by
      rw [z]
      exact c_number (mk3_ok hn.1 hn.2 t) (row := 0) (i := 4) (K := 4) (by omega) (by omega)
    rw [if_neg hne, bs hnum, hg]
    refine Eq.trans (show m_Log_readHeads_L31 FU (s_owners (s_serial g (numF t.1 4 4).toInt32) (8, (g_owners g).2)) (hdR t.1) 0 = _ from k _) ?_
    have : hdS t.1 = (numF t.1 4 4).toInt32 := by unfold hdS; rw [if_neg hne, if_pos z]
    rw [this]; rfl
  · have hne : ¬ hdR t.1 = (-1) := by rw [z]; decide
    have hne0 : ¬ hdR t.1 = 0 := by rw [z]; decide
    have hnum : m_Medium_number (mk3 n t) (hdR t.1) 4 4 = some (numF t.1 36 4) := by
      rw [z]
      exact c_number (mk3_ok hn.1 hn.2 t) (row := 1) (i := 4) (K := 4) (by omega) (by omega)
    rw [if_neg hne, bs hnum, hg]
    refine Eq.trans (show m_Log_readHeads_L31 FU (s_owners (s_serial g (numF t.1 36 4).toInt32) (8, (g_owners g).2)) (hdR t.1) 0 = _ from k _) ?_
    have : hdS t.1 = (numF t.1 36 4).toInt32 := by unfold hdS; rw [if_neg hne, if_neg hne0]
    rw [this]; rfl
-- the reference
theorem sr_owners (r : St_Ref) (a b : AI) : s_Rowners (s_Rowners r a) b = s_Rowners r b := rfl
theorem R_rH_L {n : Nat} {r : St_Ref} {f0 : Nat → Int32} (hR : RI n r) (hf : (g_Rmedium r).2 = f0) {B : Int32} (hB : B = hdR f0) : ∀ (d fuel j : Nat) (f : Nat → Int32), j + d = 8 → d < fuel → m_RRef_heads_L65 fuel (s_Rowners r (8, f)) B (nI j) = some (s_Rowners r (8, fun i => if j ≤ i ∧ i < 8 then hdO f0 i else f i)) := by
  subst hB
  have l1 : (g_Rmedium r).1 = 16384 := (ri_medium hR).1
  intro d
  induction d with
  | zero =>
    intro fuel j f hj hf'
    obtain ⟨fu, rfl, -⟩ := fu1 hf'
    rw [m_RRef_heads_L65, if_pos (show (8 : Int32) ≤ nI j by rw [n8]; exact nI_le (by omega) (by omega))]
    have : (fun i => if j ≤ i ∧ i < 8 then hdO f0 i else f i) = f := by
      funext i
      rw [if_neg (by omega)]
    rw [this]
  | succ d ih =>
    intro fuel j f hj hf'
    obtain ⟨fu, rfl, hf''⟩ := fu1 hf'
    have e : (fun i => if j + 1 ≤ i ∧ i < 8 then hdO f0 i else upd f j (hdO f0 j) i) = fun i => if j ≤ i ∧ i < 8 then hdO f0 i else f i := by
      funext i
      unfold upd
      by_cases h1 : i = j
      · rw [if_neg (by omega), if_pos h1, if_pos (by omega), h1]
      · by_cases h2 : j + 1 ≤ i ∧ i < 8
        · rw [if_pos h2, if_pos (by omega)]
        · rw [if_neg h2, if_neg h1, if_neg (by omega)]
    have k := ih fu (j + 1) (upd f j (hdO f0 j)) (by omega) (by omega)
    rw [e] at k
    rw [m_RRef_heads_L65, if_neg (show ¬ (8 : Int32) ≤ nI j by rw [n8]; exact nI_ge (by omega) (by omega))]
    simp only [qR_owners, qR_medium]
    rw [nI_1]
    have i0 : ¬ (nI j < 0 ∨ 8 ≤ (nI j).toNatClampNeg) := nI_in (by omega) (by omega)
    rcases hdR_c f0 with z | z | z
    · rw [if_pos z, if_neg i0, nI_clamp (by omega), sr_owners]
      have : hdO f0 j = 0 := by unfold hdO; rw [if_pos z]
      rw [this] at k
      exact k
    · have hne : ¬ hdR f0 = (-1) := by rw [z]; decide
      have hnum : m_RRef_number (g_Rmedium r) (32 * hdR f0 + 8 + 2 * nI j) 2 = some (numF f0 (8 + 2 * j) 2) := by
        rw [z, show (32 : Int32) * 0 + 8 = nI 8 by decide +kernel, n2, pk_mul, nI_add, ← hf]
        exact r_number (by rw [l1]; omega) (by rw [l1]; omega) (by omega)
      rw [if_neg hne, bs hnum, if_neg i0, nI_clamp (by omega), sr_owners]
      have : hdO f0 j = (numF f0 (8 + 2 * j) 2).toInt32 := by unfold hdO; rw [if_neg hne, if_pos z]
      rw [this] at k
      exact k
    · have hne : ¬ hdR f0 = (-1) := by rw [z]; decide
      have hne0 : ¬ hdR f0 = 0 := by rw [z]; decide
      have hnum : m_RRef_number (g_Rmedium r) (32 * hdR f0 + 8 + 2 * nI j) 2 = some (numF f0 (40 + 2 * j) 2) := by
        rw [z, show (32 : Int32) * 1 + 8 = nI 40 by decide +kernel, n2, pk_mul, nI_add, ← hf]
        exact r_number (by rw [l1]; omega) (by rw [l1]; omega) (by omega)
      rw [if_neg hne, bs hnum, if_neg i0, nI_clamp (by omega), sr_owners]
      have : hdO f0 j = (numF f0 (40 + 2 * j) 2).toInt32 := by unfold hdO; rw [if_neg hne, if_neg hne0]
      rw [this] at k
      exact k
theorem sr_serial (r : St_Ref) (a b : Int32) : s_Rserial (s_Rserial r a) b = s_Rserial r b := rfl
theorem R_heads {n : Nat} {r : St_Ref} {f : Nat → Int32} (hR : RI n r) (hf : (g_Rmedium r).2 = f) : m_RRef_heads r = some (s_Rowners (s_Rserial r (hdS f)) (8, ow8 f (g_Rowners r).2)) := by
  have l1 : (g_Rmedium r).1 = 16384 := (ri_medium hR).1
  have ho : (g_Rowners r).1 = 8 := (ri_owners hR).1
  obtain ⟨f1, e1, -⟩ := fu1 (k := 3) (fuel := FU) (FU_lt (by omega))
  obtain ⟨f2, e2, -⟩ := fu1 (k := 1) (fuel := f1) (by have := FU_ge; omega)
  obtain ⟨f3, e3, -⟩ := fu1 (k := 0) (fuel := f2) (by have := FU_ge; omega)
  have hg : ∀ S, s_Rserial r S = s_Rowners (s_Rserial r S) (8, (g_Rowners r).2) := fun S => by
    have : (8, (g_Rowners r).2) = g_Rowners (s_Rserial r S) := by simp only [qR_owners]; exact Prod.ext ho.symm rfl
    rw [this]; rfl
  have fin : ∀ S B, S = hdS f → B = hdR f → m_RRef_heads_L9 f2 (s_Rserial r S) B 2 = some (s_Rowners (s_Rserial r (hdS f)) (8, ow8 f (g_Rowners r).2)) := by
    intro S B hS hB
    rw [e3, m_RRef_heads_L9, if_pos (by decide), hg S]
    have k := R_rH_L (n := n) (r := s_Rserial r S) (f0 := f) (rs_serial hR) (by simp only [qR_medium]; exact hf) hB 8 FU 0 (g_Rowners r).2 (by omega) (FU_lt (by omega))
    rw [hS] at k ⊢
    exact k
  have gd : ∀ (S : Int32) (w : Nat), w < 512 → m_RRef_isGood (s_Rserial r S) (nI w) = some (goodH f w) := fun S w hw => R_isGood (r := s_Rserial r S) (rs_serial hR) (by simp only [qR_medium]; exact hf) hw
  have nm : ∀ (S : Int32) (w : Nat), w < 512 → m_RRef_number (g_Rmedium (s_Rserial r S)) (32 * nI w + 4) 4 = some (numF f (32 * w + 4) 4) := by
    intro S w hw
    simp only [qR_medium]
    rw [n32, pk_mul, n4, nI_add, ← hf]
    exact r_number (by rw [l1]; omega) (by rw [l1]; omega) (by omega)
  have s1 : ∀ (S B : Int32), m_RRef_heads_L9 f1 (s_Rserial r S) B 1 = (if goodH f 1 = 0 then (if 0 ≤ S then m_RRef_heads_L9 f2 (s_Rserial r S) B 2 else m_RRef_heads_L9 f2 (s_Rserial r 0) 1 2) else (if (numF f 36 4).toInt32 ≤ S then m_RRef_heads_L9 f2 (s_Rserial r S) B 2 else m_RRef_heads_L9 f2 (s_Rserial r (numF f 36 4).toInt32) 1 2)) := by
    intro S B
    rw [e2, m_RRef_heads_L9, if_neg (by decide), bs (show m_RRef_isGood (s_Rserial r S) 1 = some (goodH f 1) from gd S 1 (by omega)), bs (show m_RRef_number (g_Rmedium (s_Rserial r S)) (32 * 1 + 4) 4 = some (numF f 36 4) from nm S 1 (by omega))]
    simp only [qR_serial]
    rw [sr_serial, sr_serial]
    rfl
  unfold m_RRef_heads
  rw [e1, m_RRef_heads_L9, if_neg (by decide), bs (show m_RRef_isGood (s_Rserial r 0) 0 = some (goodH f 0) from gd 0 0 (by omega)), bs (show m_RRef_number (g_Rmedium (s_Rserial r 0)) (32 * 0 + 4) 4 = some (numF f 4 4) from nm 0 0 (by omega))]
  simp only [qR_serial]
  rw [sr_serial, sr_serial]
  show (if goodH f 0 = 0 then (if (0 : Int32) ≤ 0 then m_RRef_heads_L9 f1 (s_Rserial r 0) (-1) 1 else m_RRef_heads_L9 f1 (s_Rserial r 0) 0 1) else (if (numF f 4 4).toInt32 ≤ 0 then m_RRef_heads_L9 f1 (s_Rserial r 0) (-1) 1 else m_RRef_heads_L9 f1 (s_Rserial r (numF f 4 4).toInt32) 0 1)) = _
  by_cases g0 : goodH f 0 = 0
  · rw [if_pos g0, if_pos (Int32.le_refl _), s1]
    by_cases g1 : goodH f 1 = 0
    · rw [if_pos g1, if_pos (Int32.le_refl _)]
      have hr : hdR f = (-1) := by unfold hdR; rw [if_pos g0, if_pos g1]
      exact fin 0 (-1) (by unfold hdS; rw [if_pos hr]) hr.symm
    · obtain ⟨b, b1, b2, b3, b4⟩ := goodH_num g1
      have b4' : (numF f 36 4).toInt32 = nI b := b4
      have hr : hdR f = 1 := by unfold hdR; rw [if_pos g0, if_neg g1]
      rw [if_neg g1, if_neg (by rw [b4']; exact nI_nle (by omega) (by omega))]
      exact fin _ 1 (by unfold hdS; rw [if_neg (by rw [hr]; decide), if_neg (by rw [hr]; decide)]) hr.symm
  · obtain ⟨a, a1, a2, a3, a4⟩ := goodH_num g0
    have a4' : (numF f 4 4).toInt32 = nI a := a4
    have a3' : numF f 4 4 = lN a := a3
    rw [if_neg g0, if_neg (by rw [a4']; exact nI_nle (by omega) (by omega)), s1]
    by_cases g1 : goodH f 1 = 0
    · have hr : hdR f = 0 := by unfold hdR; rw [if_neg g0, if_pos g1]
      rw [if_pos g1, if_pos (by rw [a4']; exact nI_pos' (by omega))]
      exact fin _ 0 (by unfold hdS; rw [if_neg (by rw [hr]; decide), if_pos hr]) hr.symm
    · obtain ⟨b, b1, b2, b3, b4⟩ := goodH_num g1
      have b4' : (numF f 36 4).toInt32 = nI b := b4
      have b3' : numF f 36 4 = lN b := b3
      have hcmp : lg_cmp (numF f 36 4) (numF f 4 4) ≤ 0 ↔ (numF f 36 4).toInt32 ≤ (numF f 4 4).toInt32 := by
        rw [lg_cmp_le, a4', b4', a3', b3', pk_lLE (by omega) (by omega), nI_leI (by omega) (by omega)]
      rw [if_neg g1]
      by_cases z : (numF f 36 4).toInt32 ≤ (numF f 4 4).toInt32
      · have hr : hdR f = 0 := by unfold hdR; rw [if_neg g0, if_neg g1, if_pos (hcmp.mpr z)]
        rw [if_pos z]
        exact fin _ 0 (by unfold hdS; rw [if_neg (by rw [hr]; decide), if_pos hr]) hr.symm
      · have hr : hdR f = 1 := by unfold hdR; rw [if_neg g0, if_neg g1, if_neg (fun e => z (hcmp.mp e))]
        rw [if_neg z]
        exact fin _ 1 (by unfold hdS; rw [if_neg (by rw [hr]; decide), if_neg (by rw [hr]; decide)]) hr.symm
