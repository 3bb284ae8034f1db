-- OPENING: numbers read, what is forgotten, heads
theorem n2a : ∀ a, a < 256 → jlshl ((jlshl 0 8) ||| lN a) 8 = lN (256 * a) := by decide +kernel
theorem lN_or (a : Nat) {b : Nat} (hb : b < 256) : lN (256 * a) ||| lN b = lN (256 * a + b) := by
  apply Int64.toBitVec_inj.mp
  show BitVec.ofNat 64 (256 * a) ||| BitVec.ofNat 64 b = BitVec.ofNat 64 (256 * a + b)
  rw [show 256 * a + b = 256 * a ||| b from Nat.two_pow_add_eq_or_of_lt (i := 8) hb a, BitVec.ofNat_or]
theorem n2b (a : Nat) (ha : a < 256) (b : Nat) (hb : b < 256) : ((jlshl ((jlshl 0 8) ||| lN a) 8) ||| lN b) = lN (256 * a + b) := by rw [n2a a ha, lN_or a hb]
theorem b255 (x : Int32) : ∃ c : Nat, c < 256 ∧ x &&& 255 = nI c := pk_andE x (m := 255) 8 (by decide +kernel)
theorem b255l (x : Int32) : ∃ c : Nat, c < 256 ∧ x.toInt64 &&& 255 = lN c := by
  obtain ⟨c, h1, h2⟩ := b255 x
  refine ⟨c, h1, ?_⟩
  rw [← l255, h2, nI_l (by omega)]
/-- two bytes -/
theorem num2 (f : Nat → Int32) (a : Nat) : ∃ l : Nat, l ≤ 65535 ∧ numF f a 2 = lN l := by
  obtain ⟨c0, h0, e0⟩ := b255l (f (a + 0))
  obtain ⟨c1, h1, e1⟩ := b255l (f (a + 1))
  refine ⟨256 * c0 + c1, by omega, ?_⟩
  rw [← n2b c0 h0 c1 h1, ← e0, ← e1]
  rfl
theorem lN1 : (1 : Int64) = lN 1 := by decide +kernel
theorem lNM : (1000000000 : Int64) = lN 1000000000 := by decide +kernel
theorem lN0 : (0 : Int64) = lN 0 := by decide +kernel
/-- a number of 1 .. 1000000000 -/
theorem numOk {x : Int64} (h1 : ¬ lg_cmp x 1 < 0) (h2 : ¬ 0 < lg_cmp x 1000000000) : ∃ a : Nat, 1 ≤ a ∧ a ≤ 1000000000 ∧ x = lN a ∧ x.toInt32 = nI a := by
  have k1 : ¬ x < 1 := fun e => h1 ((lg_cmp_lt x 1).mpr e)
  have k2 : ¬ (1000000000 : Int64) < x := fun e => h2 ((lg_cmp_gt x 1000000000).mpr e)
  have k0 : ¬ x < 0 := fun e => k1 (Int64.lt_trans e (by decide))
  obtain ⟨a, ha, rfl⟩ := pk_lOf k0
  rw [lN1, pk_lLT ha (by omega)] at k1
  rw [lNM, pk_lLT (by omega) ha] at k2
  exact ⟨a, by omega, by omega, rfl, lN_i a⟩
theorem C_forget {n : Nat} {g : St_Log} (hC : CI n g) (hn : 4 ≤ n ∧ n ≤ 512) : ∃ x1 x2 x3 x4, m_Log_forget g = some (s_greatestMark (s_greatestPart (s_room (s_made (s_kept (s_parts g x1) x2) x3) x4) 0) 0) ∧ PC n x1 [] ∧ MC (n / 2) x2 [] ∧ MC 6 x3 [] ∧ BT n x4 [] ∧ kRm n x4 := by
  obtain ⟨P, hP⟩ := ci_parts hC
  obtain ⟨K, hK⟩ := ci_kept hC
  obtain ⟨M, hM⟩ := ci_made hC
  have hmd := (ci_medium hC).1
  have hr : (g_room g).1 = n := (ci_room hC).1
  obtain ⟨x2, a1, a2, -⟩ := ML_removeFirst hK (a := K) (Nat.le_refl _)
  obtain ⟨x3, b1, b2, -⟩ := ML_removeFirst hM (a := M) (Nat.le_refl _)
  have c1 := C_free (x := g_room g) (n := n) (a := 0) (c := n) hr hn.2 (by omega)
  rw [Nat.sub_self] at a2 b2
  refine ⟨((g_parts g).1, (g_parts g).2.1, (g_parts g).2.2.1, (g_parts g).2.2.2.1, (g_parts g).2.2.2.2.1, 0), x2, x3, (n, setF (g_room g).2 0 n 0), ?_, ⟨⟨hP.1, n0, by show 0 ≤ n; omega, hP.2.2.2, fun i j _ hj => absurd hj (Nat.not_lt_zero _)⟩, rfl⟩, ⟨⟨a2, fun i j _ hj => absurd hj (Nat.not_lt_zero _)⟩, rfl⟩, ⟨⟨b2, fun i j _ hj => absurd hj (Nat.not_lt_zero _)⟩, rfl⟩, ⟨rfl, fun r h1 h2 => ?_⟩, kRm_set (ci_room hC).2 (Or.inl rfl)⟩
  · have hk : m_Marks_size (g_kept g) = some (nI K) := by unfold m_Marks_size; rw [hK.2.1]
    have hm : m_Marks_size (g_made g) = some (nI M) := by unfold m_Marks_size; rw [hM.2.1]
    have hs : m_Parts_shorten (g_parts g) 0 = some ((g_parts g).1, (g_parts g).2.1, (g_parts g).2.2.1, (g_parts g).2.2.2.1, (g_parts g).2.2.2.2.1, 0) := by
      unfold m_Parts_shorten
      have : jmax 0 (jmin (g_parts g).2.2.2.2.2 0) = 0 := by
        rw [hP.2.1]
        unfold jmin
        by_cases h0 : P = 0
        · rw [h0]; decide
        · rw [if_pos (show (0 : Int32) < nI P by rw [n0]; exact nI_lt (by omega) (by have := hP.2.2; omega))]
          decide
      rw [this]
    have hrw : m_Medium_rows (g_medium g) = some (nI n) := by unfold m_Medium_rows; rw [hmd.1]
    unfold m_Log_forget
    rw [bs hs, bs hk, bs a1, bs hm, bs b1, bs hrw, bs (show m_Room_free (g_room g) 0 (nI n) = _ from c1)]
  · show (if 0 ≤ r ∧ r < 0 + n then 0 else (g_room g).2 r) = 0 ↔ cov [] r = 0
    rw [if_pos (by omega), cov_nil]
    exact ⟨fun _ => rfl, fun _ => rfl⟩
/-- the row of the HEAD that counts, -1: none -/
def hdR (f : Nat → Int32) : Int32 := if goodH f 0 = 0 then (if goodH f 1 = 0 then (-1) else 1) else (if goodH f 1 = 0 then 0 else (if lg_cmp (numF f 36 4) (numF f 4 4) ≤ 0 then 0 else 1))
def hdS (f : Nat → Int32) : Int32 := if hdR f = (-1) then 0 else (if hdR f = 0 then (numF f 4 4).toInt32 else (numF f 36 4).toInt32)
theorem hdR_c (f : Nat → Int32) : hdR f = (-1) ∨ hdR f = 0 ∨ hdR f = 1 := by
  unfold hdR
  split
  · split
    · exact Or.inl rfl
    · exact Or.inr (Or.inr rfl)
  · split
    · exact Or.inr (Or.inl rfl)
    · split
      · exact Or.inr (Or.inl rfl)
      · exact Or.inr (Or.inr rfl)
def hdO (f : Nat → Int32) (j : Nat) : Int32 := if hdR f = (-1) then 0 else (if hdR f = 0 then (numF f (8 + 2 * j) 2).toInt32 else (numF f (40 + 2 * j) 2).toInt32)
theorem hdO_ok (f : Nat → Int32) (j : Nat) : ∃ o : Nat, o ≤ 65535 ∧ hdO f j = nI o := by
  unfold hdO
  split
  · exact ⟨0, by omega, n0⟩
  · split
    · obtain ⟨l, h1, h2⟩ := num2 f (8 + 2 * j)
      exact ⟨l, h1, by rw [h2, lN_i]⟩
    · obtain ⟨l, h1, h2⟩ := num2 f (40 + 2 * j)
      exact ⟨l, h1, by rw [h2, lN_i]⟩
theorem goodH_num {f : Nat → Int32} {w : Nat} (h : ¬ goodH f w = 0) : ∃ a : Nat, 1 ≤ a ∧ a ≤ 1000000000 ∧ numF f (32 * w + 4) 4 = lN a ∧ (numF f (32 * w + 4) 4).toInt32 = nI a := by
  unfold goodH at h
  split at h
  · split at h
    · exact absurd rfl h
    · split at h
      · exact absurd rfl h
      · split at h
        · exact absurd rfl h
        · rename_i h1 h2
          exact numOk h1 h2
  · exact absurd rfl h
theorem hdS_ok (f : Nat → Int32) : ∃ S : Nat, S ≤ 1000000000 ∧ hdS f = nI S := by
  unfold hdS hdR
  by_cases g0 : goodH f 0 = 0
  · by_cases g1 : goodH f 1 = 0
    · rw [if_pos g0, if_pos g1, if_pos rfl]
      exact ⟨0, by omega, n0⟩
    · obtain ⟨a, a1, a2, a3, a4⟩ := goodH_num g1
      rw [if_pos g0, if_neg g1, if_neg (by decide), if_neg (by decide)]
      exact ⟨a, a2, a4⟩
  · obtain ⟨a, a1, a2, a3, a4⟩ := goodH_num g0
    by_cases g1 : goodH f 1 = 0
    · rw [if_neg g0, if_pos g1, if_neg (by decide), if_pos rfl]
      exact ⟨a, a2, a4⟩
    · obtain ⟨b, b1, b2, b3, b4⟩ := goodH_num g1
      rw [if_neg g0, if_neg g1]
      split
      · rw [if_neg (by decide), if_pos rfl]
        exact ⟨a, a2, a4⟩
      · rw [if_neg (by decide), if_neg (by decide)]
        exact ⟨b, b2, b4⟩
theorem C_headThat {n : Nat} {g : St_Log} {t : T3} (hm : g_medium g = mk3 n t) (hn : 4 ≤ n ∧ n ≤ 512) : m_Log_headThatCounts g = some (hdR t.1) := by
  have k0 : m_Log_isGoodHead g 0 = some (goodH t.1 0) := C_isGoodHead hm hn (w := 0) (by omega)
  have k1 : m_Log_isGoodHead g 1 = some (goodH t.1 1) := C_isGoodHead hm hn (w := 1) (by omega)
  have a0 : m_Medium_number (mk3 n t) 0 4 4 = some (numF t.1 4 4) := c_number (mk3_ok hn.1 hn.2 t) (row := 0) (i := 4) (K := 4) (by omega) (by omega)
  have a1 : m_Medium_number (mk3 n t) 1 4 4 = some (numF t.1 36 4) := c_number (mk3_ok hn.1 hn.2 t) (row := 1) (i := 4) (K := 4) (by omega) (by omega)
  unfold m_Log_headThatCounts hdR
  rw [bs k0, hm]
  by_cases g0 : goodH t.1 0 = 0
  · rw [if_pos g0, if_pos g0, bs k1]
    split <;> rfl
  · rw [if_neg g0, if_neg g0, bs k1]
    by_cases g1 : goodH t.1 1 = 0
    · rw [if_pos g1, if_pos g1]
    · rw [if_neg g1, if_neg g1, bs a1, bs a0]
      split <;> rfl
theorem ss_owners (g : St_Log) (a b : AI) : s_owners (s_owners g a) b = s_owners g b := rfl
theorem C_rH_L {n : Nat} {g : St_Log} {t : T3} (hm : g_medium g = mk3 n t) (hn : 4 ≤ n ∧ n ≤ 512) : ∀ (d fuel j : Nat) (f : Nat → Int32), j + d = 8 → d < fuel → m_Log_readHeads_L31 fuel (s_owners g (8, f)) (hdR t.1) (nI j) = some (s_owners g (8, fun i => if j ≤ i ∧ i < 8 then hdO t.1 i else f i)) := by
  intro d
  induction d with
  | zero =>
    intro fuel j f hj hf
    obtain ⟨fu, rfl, -⟩ := fu1 hf
    rw [m_Log_readHeads_L31, if_pos (show (8 : Int32) ≤ nI j by rw [n8]; exact nI_le (by omega) (by omega))]
    have : (fun i => if j ≤ i ∧ i < 8 then hdO t.1 i else f i) = f := by
      funext i
      rw [if_neg (by omega)]
    rw [this]
  | succ d ih =>
    intro fuel j f hj hf
    obtain ⟨fu, rfl, hf'⟩ := fu1 hf
    have e : (fun i => if j + 1 ≤ i ∧ i < 8 then hdO t.1 i else upd f j (hdO t.1 j) i) = fun i => if j ≤ i ∧ i < 8 then hdO t.1 i else f i := by
      funext i
      unfold upd
      by_cases h1 : i = j
      · rw [if_neg (by omega), if_pos h1, if_pos (by omega), h1]
      · by_cases h2 : j + 1 ≤ i ∧ i < 8
        · rw [if_pos h2, if_pos (by omega)]
        · rw [if_neg h2, if_neg h1, if_neg (by omega)]
    have k := ih fu (j + 1) (upd f j (hdO t.1 j)) (by omega) (by omega)
    rw [e] at k
    rw [m_Log_readHeads_L31, if_neg (show ¬ (8 : Int32) ≤ nI j by rw [n8]; exact nI_ge (by omega) (by omega))]
    simp only [q_owners, q_medium]
    rw [hm, nI_1]
    have i0 : ¬ (nI j < 0 ∨ 8 ≤ (nI j).toNatClampNeg) := nI_in (by omega) (by omega)
    have ej : (8 : Int32) + 2 * nI j = nI (8 + 2 * j) := by rw [n8, n2, pk_mul, nI_add]
    rcases hdR_c t.1 with z | z | z
    · rw [if_pos z, if_neg i0, nI_clamp (by omega), ss_owners]
      have : hdO t.1 j = 0 := by unfold hdO; rw [if_pos z]
      rw [this] at k
      exact k
    · have hne : ¬ hdR t.1 = (-1) := by rw [z]; decide
      have hnum : m_Medium_number (mk3 n t) (hdR t.1) (8 + 2 * nI j) 2 = some (numF t.1 (8 + 2 * j) 2) := by
        rw [z, ej, n0, n2]
        have := c_number (mk3_ok hn.1 hn.2 t) (row := 0) (i := 8 + 2 * j) (K := 2) (by omega) (by omega)
        rw [show 32 * 0 + (8 + 2 * j) = 8 + 2 * j by omega] at this
        exact this
      rw [if_neg hne, bs hnum, if_neg i0, nI_clamp (by omega), ss_owners]
      have : hdO t.1 j = (numF t.1 (8 + 2 * j) 2).toInt32 := by unfold hdO; rw [if_neg hne, if_pos z]
      rw [this] at k
      exact k
    · have hne : ¬ hdR t.1 = (-1) := by rw [z]; decide
      have hne0 : ¬ hdR t.1 = 0 := by rw [z]; decide
      have hnum : m_Medium_number (mk3 n t) (hdR t.1) (8 + 2 * nI j) 2 = some (numF t.1 (40 + 2 * j) 2) := by
        rw [z, ej, n1, n2]
        have := c_number (mk3_ok hn.1 hn.2 t) (row := 1) (i := 8 + 2 * j) (K := 2) (by omega) (by omega)
        rw [show 32 * 1 + (8 + 2 * j) = 40 + 2 * j by omega] at this
        exact this
      rw [if_neg hne, bs hnum, if_neg i0, nI_clamp (by omega), ss_owners]
      have : hdO t.1 j = (numF t.1 (40 + 2 * j) 2).toInt32 := by unfold hdO; rw [if_neg hne, if_neg hne0]
      rw [this] at k
      exact k
def ow8 (f : Nat → Int32) (o : Nat → Int32) : Nat → Int32 := fun i => if 0 ≤ i ∧ i < 8 then hdO f i else o i
theorem C_readHeads {n : Nat} {g : St_Log} {t : T3} (hC : CI n g) (hm : g_medium g = mk3 n t) (hn : 4 ≤ n ∧ n ≤ 512) : m_Log_readHeads g = some (s_owners (s_serial g (hdS t.1)) (8, ow8 t.1 (g_owners g).2)) := by
  have ho : (g_owners g).1 = 8 := (ci_owners hC).1
  have hg : ∀ S, s_serial g S = s_owners (s_serial g S) (8, (g_owners g).2) := fun S => by
    have : (8, (g_owners g).2) = g_owners (s_serial g S) := Prod.ext ho.symm rfl
    rw [this]; rfl
  have k := fun S => C_rH_L (n := n) (g := s_serial g S) (t := t) (by simp only [q_medium]; exact hm) hn 8 FU 0 (g_owners g).2 (by omega) (FU_lt (by omega))
  unfold m_Log_readHeads
  rw [bs (C_headThat hm hn), hm]
  rcases hdR_c t.1 with z | z | z
  · rw [if_pos z, hg 0]
    refine Eq.trans (show m_Log_readHeads_L31 FU (s_owners (s_serial g 0) (8, (g_owners g).2)) (hdR t.1) 0 = _ from k 0) ?_
    have : hdS t.1 = 0 := by unfold hdS; rw [if_pos z]
    rw [this]; rfl
  · have hne : ¬ hdR t.1 = (-1) := by rw [z]; decide
    have hnum : m_Medium_number (mk3 n t) (hdR t.1) 4 4 = some (numF t.1 4 4) := by
      rw [z]
      exact c_number (mk3_ok hn.1 hn.2 t) (row := 0) (i := 4) (K := 4) (by omega) (by omega)
    rw [if_neg hne, bs hnum, hg]
    refine Eq.trans (show m_Log_readHeads_L31 FU (s_owners (s_serial g (numF t.1 4 4).toInt32) (8, (g_owners g).2)) (hdR t.1) 0 = _ from k _) ?_
    have : hdS t.1 = (numF t.1 4 4).toInt32 := by unfold hdS; rw [if_neg hne, if_pos z]
    rw [this]; rfl
  · have hne : ¬ hdR t.1 = (-1) := by rw [z]; decide
    have hne0 : ¬ hdR t.1 = 0 := by rw [z]; decide
    have hnum : m_Medium_number (mk3 n t) (hdR t.1) 4 4 = some (numF t.1 36 4) := by
      rw [z]
      exact c_number (mk3_ok hn.1 hn.2 t) (row := 1) (i := 4) (K := 4) (by omega) (by omega)
    rw [if_neg hne, bs hnum, hg]
    refine Eq.trans (show m_Log_readHeads_L31 FU (s_owners (s_serial g (numF t.1 36 4).toInt32) (8, (g_owners g).2)) (hdR t.1) 0 = _ from k _) ?_
    have : hdS t.1 = (numF t.1 36 4).toInt32 := by unfold hdS; rw [if_neg hne, if_neg hne0]
    rw [this]; rfl
-- the reference
theorem sr_owners (r : St_Ref) (a b : AI) : s_Rowners (s_Rowners r a) b = s_Rowners r b := rfl
theorem R_rH_L {n : Nat} {r : St_Ref} {f0 : Nat → Int32} (hR : RI n r) (hf : (g_Rmedium r).2 = f0) {B : Int32} (hB : B = hdR f0) : ∀ (d fuel j : Nat) (f : Nat → Int32), j + d = 8 → d < fuel → m_RRef_heads_L65 fuel (s_Rowners r (8, f)) B (nI j) = some (s_Rowners r (8, fun i => if j ≤ i ∧ i < 8 then hdO f0 i else f i)) := by
  subst hB
  have l1 : (g_Rmedium r).1 = 16384 := (ri_medium hR).1
  intro d
  induction d with
  | zero =>
    intro fuel j f hj hf'
    obtain ⟨fu, rfl, -⟩ := fu1 hf'
    rw [m_RRef_heads_L65, if_pos (show (8 : Int32) ≤ nI j by rw [n8]; exact nI_le (by omega) (by omega))]
    have : (fun i => if j ≤ i ∧ i < 8 then hdO f0 i else f i) = f := by
      funext i
      rw [if_neg (by omega)]
    rw [this]
  | succ d ih =>
    intro fuel j f hj hf'
    obtain ⟨fu, rfl, hf''⟩ := fu1 hf'
    have e : (fun i => if j + 1 ≤ i ∧ i < 8 then hdO f0 i else upd f j (hdO f0 j) i) = fun i => if j ≤ i ∧ i < 8 then hdO f0 i else f i := by
      funext i
      unfold upd
      by_cases h1 : i = j
      · rw [if_neg (by omega), if_pos h1, if_pos (by omega), h1]
      · by_cases h2 : j + 1 ≤ i ∧ i < 8
        · rw [if_pos h2, if_pos (by omega)]
        · rw [if_neg h2, if_neg h1, if_neg (by omega)]
    have k := ih fu (j + 1) (upd f j (hdO f0 j)) (by omega) (by omega)
    rw [e] at k
    rw [m_RRef_heads_L65, if_neg (show ¬ (8 : Int32) ≤ nI j by rw [n8]; exact nI_ge (by omega) (by omega))]
    simp only [qR_owners, qR_medium]
    rw [nI_1]
    have i0 : ¬ (nI j < 0 ∨ 8 ≤ (nI j).toNatClampNeg) := nI_in (by omega) (by omega)
    rcases hdR_c f0 with z | z | z
    · rw [if_pos z, if_neg i0, nI_clamp (by omega), sr_owners]
      have : hdO f0 j = 0 := by unfold hdO; rw [if_pos z]
      rw [this] at k
      exact k
    · have hne : ¬ hdR f0 = (-1) := by rw [z]; decide
      have hnum : m_RRef_number (g_Rmedium r) (32 * hdR f0 + 8 + 2 * nI j) 2 = some (numF f0 (8 + 2 * j) 2) := by
        rw [z, show (32 : Int32) * 0 + 8 = nI 8 by decide +kernel, n2, pk_mul, nI_add, ← hf]
        exact r_number (by rw [l1]; omega) (by rw [l1]; omega) (by omega)
      rw [if_neg hne, bs hnum, if_neg i0, nI_clamp (by omega), sr_owners]
      have : hdO f0 j = (numF f0 (8 + 2 * j) 2).toInt32 := by unfold hdO; rw [if_neg hne, if_pos z]
      rw [this] at k
      exact k
    · have hne : ¬ hdR f0 = (-1) := by rw [z]; decide
      have hne0 : ¬ hdR f0 = 0 := by rw [z]; decide
      have hnum : m_RRef_number (g_Rmedium r) (32 * hdR f0 + 8 + 2 * nI j) 2 = some (numF f0 (40 + 2 * j) 2) := by
        rw [z, show (32 : Int32) * 1 + 8 = nI 40 by decide +kernel, n2, pk_mul, nI_add, ← hf]
        exact r_number (by rw [l1]; omega) (by rw [l1]; omega) (by omega)
      rw [if_neg hne, bs hnum, if_neg i0, nI_clamp (by omega), sr_owners]
      have : hdO f0 j = (numF f0 (40 + 2 * j) 2).toInt32 := by unfold hdO; rw [if_neg hne, if_neg hne0]
      rw [this] at k
      exact k
theorem sr_serial (r : St_Ref) (a b : Int32) : s_Rserial (s_Rserial r a) b = s_Rserial r b := rfl
theorem R_heads {n : Nat} {r : St_Ref} {f : Nat → Int32} (hR : RI n r) (hf : (g_Rmedium r).2 = f) : m_RRef_heads r = some (s_Rowners (s_Rserial r (hdS f)) (8, ow8 f (g_Rowners r).2)) := by
  have l1 : (g_Rmedium r).1 = 16384 := (ri_medium hR).1
  have ho : (g_Rowners r).1 = 8 := (ri_owners hR).1
  obtain ⟨f1, e1, -⟩ := fu1 (k := 3) (fuel := FU) (FU_lt (by omega))
  obtain ⟨f2, e2, -⟩ := fu1 (k := 1) (fuel := f1) (by have := FU_ge; omega)
  obtain ⟨f3, e3, -⟩ := fu1 (k := 0) (fuel := f2) (by have := FU_ge; omega)
  have hg : ∀ S, s_Rserial r S = s_Rowners (s_Rserial r S) (8, (g_Rowners r).2) := fun S => by
    have : (8, (g_Rowners r).2) = g_Rowners (s_Rserial r S) := by simp only [qR_owners]; exact Prod.ext ho.symm rfl
    rw [this]; rfl
  have fin : ∀ S B, S = hdS f → B = hdR f → m_RRef_heads_L9 f2 (s_Rserial r S) B 2 = some (s_Rowners (s_Rserial r (hdS f)) (8, ow8 f (g_Rowners r).2)) := by
    intro S B hS hB
    rw [e3, m_RRef_heads_L9, if_pos (by decide), hg S]
    have k := R_rH_L (n := n) (r := s_Rserial r S) (f0 := f) (rs_serial hR) (by simp only [qR_medium]; exact hf) hB 8 FU 0 (g_Rowners r).2 (by omega) (FU_lt (by omega))
    rw [hS] at k ⊢
    exact k
  have gd : ∀ (S : Int32) (w : Nat), w < 512 → m_RRef_isGood (s_Rserial r S) (nI w) = some (goodH f w) := fun S w hw => R_isGood (r := s_Rserial r S) (rs_serial hR) (by simp only [qR_medium]; exact hf) hw
  have nm : ∀ (S : Int32) (w : Nat), w < 512 → m_RRef_number (g_Rmedium (s_Rserial r S)) (32 * nI w + 4) 4 = some (numF f (32 * w + 4) 4) := by
    intro S w hw
    simp only [qR_medium]
    rw [n32, pk_mul, n4, nI_add, ← hf]
    exact r_number (by rw [l1]; omega) (by rw [l1]; omega) (by omega)
  have s1 : ∀ (S B : Int32), m_RRef_heads_L9 f1 (s_Rserial r S) B 1 = (if goodH f 1 = 0 then (if 0 ≤ S then m_RRef_heads_L9 f2 (s_Rserial r S) B 2 else m_RRef_heads_L9 f2 (s_Rserial r 0) 1 2) else (if (numF f 36 4).toInt32 ≤ S then m_RRef_heads_L9 f2 (s_Rserial r S) B 2 else m_RRef_heads_L9 f2 (s_Rserial r (numF f 36 4).toInt32) 1 2)) := by
    intro S B
    rw [e2, m_RRef_heads_L9, if_neg (by decide), bs (show m_RRef_isGood (s_Rserial r S) 1 = some (goodH f 1) from gd S 1 (by omega)), bs (show m_RRef_number (g_Rmedium (s_Rserial r S)) (32 * 1 + 4) 4 = some (numF f 36 4) from nm S 1 (by omega))]
    simp only [qR_serial]
    rw [sr_serial, sr_serial]
    rfl
  unfold m_RRef_heads
  rw [e1, m_RRef_heads_L9, if_neg (by decide), bs (show m_RRef_isGood (s_Rserial r 0) 0 = some (goodH f 0) from gd 0 0 (by omega)), bs (show m_RRef_number (g_Rmedium (s_Rserial r 0)) (32 * 0 + 4) 4 = some (numF f 4 4) from nm 0 0 (by omega))]
  simp only [qR_serial]
  rw [sr_serial, sr_serial]
  show (if goodH f 0 = 0 then (if (0 : Int32) ≤ 0 then m_RRef_heads_L9 f1 (s_Rserial r 0) (-1) 1 else m_RRef_heads_L9 f1 (s_Rserial r 0) 0 1) else (if (numF f 4 4).toInt32 ≤ 0 then m_RRef_heads_L9 f1 (s_Rserial r 0) (-1) 1 else m_RRef_heads_L9 f1 (s_Rserial r (numF f 4 4).toInt32) 0 1)) = _
  by_cases g0 : goodH f 0 = 0
  · rw [if_pos g0, if_pos (Int32.le_refl _), s1]
    by_cases g1 : goodH f 1 = 0
    · rw [if_pos g1, if_pos (Int32.le_refl _)]
      have hr : hdR f = (-1) := by unfold hdR; rw [if_pos g0, if_pos g1]
      exact fin 0 (-1) (by unfold hdS; rw [if_pos hr]) hr.symm
    · obtain ⟨b, b1, b2, b3, b4⟩ := goodH_num g1
      have b4' : (numF f 36 4).toInt32 = nI b := b4
      have hr : hdR f = 1 := by unfold hdR; rw [if_pos g0, if_neg g1]
      rw [if_neg g1, if_neg (by rw [b4']; exact nI_nle (by omega) (by omega))]
      exact fin _ 1 (by unfold hdS; rw [if_neg (by rw [hr]; decide), if_neg (by rw [hr]; decide)]) hr.symm
  · obtain ⟨a, a1, a2, a3, a4⟩ := goodH_num g0
    have a4' : (numF f 4 4).toInt32 = nI a := a4
    have a3' : numF f 4 4 = lN a := a3
    rw [if_neg g0, if_neg (by rw [a4']; exact nI_nle (by omega) (by omega)), s1]
    by_cases g1 : goodH f 1 = 0
    · have hr : hdR f = 0 := by unfold hdR; rw [if_neg g0, if_pos g1]
      rw [if_pos g1, if_pos (by rw [a4']; exact nI_pos' (by omega))]
      exact fin _ 0 (by unfold hdS; rw [if_neg (by rw [hr]; decide), if_pos hr]) hr.symm
    · obtain ⟨b, b1, b2, b3, b4⟩ := goodH_num g1
      have b4' : (numF f 36 4).toInt32 = nI b := b4
      have b3' : numF f 36 4 = lN b := b3
      have hcmp : lg_cmp (numF f 36 4) (numF f 4 4) ≤ 0 ↔ (numF f 36 4).toInt32 ≤ (numF f 4 4).toInt32 := by
        rw [lg_cmp_le, a4', b4', a3', b3', pk_lLE (by omega) (by omega), nI_leI (by omega) (by omega)]
      rw [if_neg g1]
      by_cases z : (numF f 36 4).toInt32 ≤ (numF f 4 4).toInt32
      · have hr : hdR f = 0 := by unfold hdR; rw [if_neg g0, if_neg g1, if_pos (hcmp.mpr z)]
        rw [if_pos z]
        exact fin _ 0 (by unfold hdS; rw [if_neg (by rw [hr]; decide), if_pos hr]) hr.symm
      · have hr : hdR f = 1 := by unfold hdR; rw [if_neg g0, if_neg g1, if_neg (fun e => z (hcmp.mp e))]
        rw [if_neg z]
        exact fin _ 1 (by unfold hdS; rw [if_neg (by rw [hr]; decide), if_neg (by rw [hr]; decide)]) hr.symm
-- WHAT STANDS AT A ROW
def pT (f : Nat → Int32) (n w l b : Nat) : Prop := b < 8 ∧ l ≤ 155 ∧ ¬ lg_cmp (numF f (32 * w + 4) 4) 1 < 0 ∧ ¬ 0 < lg_cmp (numF f (32 * w + 4) 4) 1000000000 ∧ w + 1 + bod l ≤ n
theorem bod_le {l : Nat} (h : l ≤ 65535) : bod l ≤ 3000 := by unfold bod; omega
theorem part_cases {n : Nat} {g : St_Log} {r : St_Ref} {t : T3} (hm : g_medium g = mk3 n t) (hn : 4 ≤ n ∧ n ≤ 512) (hR : RI n r) (hf : (g_Rmedium r).2 = t.1) {w l b : Nat} (hw : w < n) (hl0 : l ≤ 65535) (hl : numF t.1 (32 * w + 2) 2 = lN l) (hb0 : b < 256) (hb : t.1 (32 * w + 1) &&& 255 = nI b) : (pT t.1 n w l b ∧ m_Log_isPartThere g (nI w) = some 1 ∧ m_RRef_partAt r (nI w) = some (nI (1 + bod l))) ∨ (m_Log_isPartThere g (nI w) = some 0 ∧ m_RRef_partAt r (nI w) = some 0) := by
  have hk := mk3_ok hn.1 hn.2 t
  have hbl := bod_le hl0
  have l1 : (g_Rmedium r).1 = 16384 := (ri_medium hR).1
  have a3 : m_Medium_at (mk3 n t) (nI w) 0 = some (t.1 (32 * w) &&& 255) := c_at hk (row := w) (i := 0) (by omega) (by omega)
  have a3b : m_Medium_at (mk3 n t) (nI w) 1 = some (nI b) := by rw [← hb]; exact c_at hk (row := w) (i := 1) (by omega) (by omega)
  have a4 : m_Medium_isSumRight (mk3 n t) (nI w) = some (sumOk t.1 w) := c_sum hk (by omega)
  have a2 : m_Medium_number (mk3 n t) (nI w) 2 2 = some (lN l) := by rw [← hl]; exact c_number hk (by omega) (i := 2) (K := 2) (by omega)
  have a5 : m_Medium_number (mk3 n t) (nI w) 4 4 = some (numF t.1 (32 * w + 4) 4) := c_number hk (by omega) (i := 4) (K := 4) (by omega)
  have b3 : m_RRef_kind r (nI w) = some (t.1 (32 * w) &&& 255) := by rw [← hf]; exact r_kind l1 (by omega)
  have b4 : m_RRef_isSummed r (nI w) = some (sumOk t.1 w) := by rw [← hf]; exact r_sum l1 (by omega)
  have nb : ∀ a K : Nat, a + K ≤ 32 → m_RRef_number (g_Rmedium r) (32 * nI w + nI a) (nI K) = some (numF t.1 (32 * w + a) K) := by
    intro a K h
    rw [n32, pk_mul, nI_add, ← hf]
    exact r_number (by rw [l1]; omega) (by rw [l1]; omega) (by omega)
  have b5 : m_RRef_number (g_Rmedium r) (32 * nI w + 4) 4 = some (numF t.1 (32 * w + 4) 4) := nb 4 4 (by omega)
  have b2 : m_RRef_number (g_Rmedium r) (32 * nI w + 2) 2 = some (lN l) := by rw [← hl]; exact nb 2 2 (by omega)
  have ea : (32 : Int32) * nI w + 1 = nI (32 * w + 1) := by rw [n32, pk_mul, nI_1]
  have ca : (nI (32 * w + 1)).toNatClampNeg = 32 * w + 1 := nI_clamp (by omega)
  have ia : ¬ (nI (32 * w + 1) < 0 ∨ 16384 ≤ 32 * w + 1) := by
    have := nI_in (c := 32 * w + 1) (N := 16384) (by omega) (by omega)
    rw [ca] at this
    exact this
  have bb : m_RRef_bodies (nI l) = some (nI (bod l)) := R_bodies (by omega)
  unfold m_Log_isPartThere m_RRef_partAt
  rw [hm, bs a3, bs b5, bs b2, bs b3, lN_i, ea, ca, l1, hf, hb, bs a4, bs b4, bs a2, bs a3b, bs a5]
  simp only [bb, Option.bind_some, C_isNumber, lN_i]
  by_cases c1 : t.1 (32 * w) &&& 255 = 1
  · rw [if_pos c1, if_pos c1]
    by_cases c2 : sumOk t.1 w = 0
    · right
      rw [if_pos c2, if_pos c2]
      exact ⟨rfl, rfl⟩
    · rw [if_neg c2, if_neg c2, if_neg ia]
      rcases isGroup_cases (nI b) with ⟨z1, -⟩ | ⟨z1, -, -⟩
      · right
        have hb8 : 8 ≤ b := by
          rcases Nat.lt_or_ge b 8 with q | q
          · unfold m_Log_isGroup at z1
            rw [if_neg (nI_pos (by omega)), n8, if_neg (nI_ge q (by omega))] at z1
            exact absurd (Option.some.inj z1) (by decide)
          · exact q
        rw [bs z1, if_pos rfl, n8, if_pos (nI_le hb8 (by omega))]
        exact ⟨rfl, rfl⟩
      · have hb8 : b < 8 := by
          rcases Nat.lt_or_ge b 8 with q | q
          · exact q
          · unfold m_Log_isGroup at z1
            rw [if_neg (nI_pos (by omega)), n8, if_pos (nI_le q (by omega))] at z1
            exact absurd (Option.some.inj z1) (by decide)
        rw [bs z1, if_neg e10, n8, if_neg (nI_ge hb8 (by omega)), n155]
        by_cases c3 : l ≤ 155
        · rw [if_neg (nI_nlt c3 (by omega)), if_neg (nI_nlt c3 (by omega))]
          by_cases c4 : lg_cmp (numF t.1 (32 * w + 4) 4) 1 < 0
          · right
            rw [if_pos c4, if_pos c4, if_pos rfl]
            exact ⟨rfl, rfl⟩
          · rw [if_neg c4, if_neg c4]
            by_cases c5 : 0 < lg_cmp (numF t.1 (32 * w + 4) 4) 1000000000
            · right
              rw [if_pos c5, if_pos c5, if_pos rfl]
              exact ⟨rfl, rfl⟩
            · have hrw : m_Medium_rows (mk3 n t) = some (nI n) := rfl
              have e1 : (1 : Int32) + nI (bod l) = nI (1 + bod l) := by rw [n1, nI_add]
              rw [if_neg c5, if_neg c5, if_neg e10, bs (C_rowsOfPart (by omega)), bs hrw, show g_Rrows r = nI n from ri_rows hR, e1, nI_add]
              by_cases c6 : w + 1 + bod l ≤ n
              · left
                rw [if_neg (nI_nlt (by omega) (by omega)), if_neg (nI_nlt (by omega) (by omega))]
                exact ⟨⟨hb8, c3, c4, c5, c6⟩, rfl, rfl⟩
              · right
                rw [if_pos (nI_lt (by omega) (by omega)), if_pos (nI_lt (by omega) (by omega))]
                exact ⟨rfl, rfl⟩
        · right
          rw [if_pos (nI_lt (by omega) (by omega)), if_pos (nI_lt (by omega) (by omega))]
          exact ⟨rfl, rfl⟩
  · right
    rw [if_neg c1, if_neg c1]
    exact ⟨rfl, rfl⟩
def entA (w i : Nat) : Nat := 32 * (w + 1 + i / 2) + (1 + 14 * (i % 2))
def risF (f : Nat → Int32) (w : Nat) : Nat → Nat → Int64 → Bool
  | 0, _, _ => true
  | d + 1, i, b => if lg_cmp (numF f (entA w i) 4) b ≤ 0 then false else (if 0 < lg_cmp (numF f (entA w i) 4) 1000000000 then false else risF f w d (i + 1) (numF f (entA w i) 4))
theorem R_entryAt {w k : Nat} (hk : k < 2 ^ 20) : m_RRef_entryAt (nI w) (nI k) = some (nI (entA w k)) := by
  unfold m_RRef_entryAt jrem entA
  rw [n1, n2, n14, n32, pk_rem (by omega) (by omega) (by omega), pk_div (by omega) (by omega) (by omega), nI_add, nI_add, pk_mul, pk_mul, nI_add, nI_add, Nat.add_assoc]
theorem C_ent4 {n : Nat} {t : T3} (hn : 4 ≤ n ∧ n ≤ 512) {w c i : Nat} (hi : i < c) (hw : w + 1 + ent c ≤ n) : m_Medium_number (mk3 n t) (nI (w + 1 + i / 2)) (nI (1 + 14 * (i % 2))) 4 = some (numF t.1 (entA w i) 4) := by
  have : i / 2 < ent c := by unfold ent; omega
  exact c_number (mk3_ok hn.1 hn.2 t) (row := w + 1 + i / 2) (i := 1 + 14 * (i % 2)) (K := 4) (by omega) (by omega)
theorem pos_of {x b : Int64} (hb : ¬ b < 0) (h : ¬ lg_cmp x b ≤ 0) : ¬ lg_cmp x 1 < 0 ∧ ¬ x < 0 := by
  have h1 : b < x := by
    rw [lg_cmp_le] at h
    exact Int64.not_le.mp h
  have a1 := Int64.lt_iff_toInt_lt.mp h1
  have a2 : ¬ b.toInt < Int64.toInt 0 := fun e => hb (Int64.lt_iff_toInt_lt.mpr e)
  have a3 : Int64.toInt 0 = 0 := by decide
  have a4 : Int64.toInt 1 = 1 := by decide
  constructor
  · rw [lg_cmp_lt, Int64.lt_iff_toInt_lt]
    omega
  · rw [Int64.lt_iff_toInt_lt]
    omega
theorem C_ris_L {n : Nat} {g : St_Log} {t : T3} (hm : g_medium g = mk3 n t) (hn : 4 ≤ n ∧ n ≤ 512) {w c : Nat} (hc : c ≤ 12) (hw : w + 1 + ent c ≤ n) : ∀ (d fuel i : Nat) (b : Int64), ¬ b < 0 → i + d = c → d < fuel → m_Log_areEntriesRising_L5 g fuel (nI w) (nI c) b (nI i) = some (if risF t.1 w d i b then 1 else 0) := by
  intro d
  induction d with
  | zero =>
    intro fuel i b hb hi hf
    obtain ⟨fu, rfl, -⟩ := fu1 hf
    rw [m_Log_areEntriesRising_L5, if_pos (nI_le (by omega) (by omega))]; rfl
  | succ d ih =>
    intro fuel i b hb hi hf
    obtain ⟨fu, rfl, hf'⟩ := fu1 hf
    rw [m_Log_areEntriesRising_L5, if_neg (nI_ge (by omega) (by omega)), bs (C_entryRow (by omega)), bs (C_entryByte (by omega)), hm, bs (C_ent4 hn (c := c) (by omega) hw), risF, bs (C_isNumber _), nI_1]
    by_cases c1 : lg_cmp (numF t.1 (entA w i) 4) b ≤ 0
    · rw [if_pos c1, if_pos c1]; rfl
    · obtain ⟨p1, p2⟩ := pos_of hb c1
      rw [if_neg c1, if_neg c1, if_neg p1]
      by_cases c2 : 0 < lg_cmp (numF t.1 (entA w i) 4) 1000000000
      · rw [if_pos c2, if_pos rfl, if_pos c2]; rfl
      · rw [if_neg c2, if_neg e10, if_neg c2]
        exact ih fu (i + 1) _ p2 (by omega) (by omega)
theorem R_156z {r : St_Ref} (fu : Nat) (v1 v5 v6 : Int32) (b : Int64) (v10 : Int32) : m_RRef_markAt_L156 r (fu + 1) v1 v5 v6 0 b v10 = some 0 := by
  rw [m_RRef_markAt_L156]
  split
  · exact if_pos rfl
  · rw [if_pos rfl]
    exact if_pos rfl
theorem R_ris_L {n : Nat} {r : St_Ref} {f : Nat → Int32} (hR : RI n r) (hf : (g_Rmedium r).2 = f) {w c : Nat} (hc : c ≤ 12) (hw : w + 1 + ent c ≤ 512) (v6 : Int32) : ∀ (d fuel i : Nat) (b : Int64), i + d = c → d < fuel → m_RRef_markAt_L156 r fuel (nI w) (nI c) v6 1 b (nI i) = some (if risF f w d i b then v6 else 0) := by
  have l1 : (g_Rmedium r).1 = 16384 := (ri_medium hR).1
  intro d
  induction d with
  | zero =>
    intro fuel i b hi hf'
    obtain ⟨fu, rfl, -⟩ := fu1 hf'
    rw [m_RRef_markAt_L156, if_pos (nI_le (by omega) (by omega)), if_neg e10]; rfl
  | succ d ih =>
    intro fuel i b hi hf'
    obtain ⟨fu, rfl, hf''⟩ := fu1 hf'
    obtain ⟨fv, hfv, -⟩ := fu1 (k := 0) (fuel := fu) (by omega)
    have he : i / 2 < ent c := by unfold ent; omega
    have hnum : m_RRef_number (g_Rmedium r) (nI (entA w i)) 4 = some (numF f (entA w i) 4) := by
      rw [← hf]
      exact r_number (x := g_Rmedium r) (a := entA w i) (K := 4) (by rw [l1]; unfold entA; omega) (by rw [l1]; omega) (by omega)
    rw [m_RRef_markAt_L156, if_neg (nI_ge (by omega) (by omega)), if_neg e10, bs (R_entryAt (by omega)), bs hnum, risF, nI_1]
    by_cases c1 : lg_cmp (numF f (entA w i) 4) b ≤ 0
    · rw [if_pos c1, if_pos c1, hfv, R_156z]; rfl
    · rw [if_neg c1, if_neg c1]
      by_cases c2 : 0 < lg_cmp (numF f (entA w i) 4) 1000000000
      · rw [if_pos c2, if_pos c2, hfv, R_156z]; rfl
      · rw [if_neg c2, if_neg c2]
        exact ih fu (i + 1) _ (by omega) (by omega)
def mT (f : Nat → Int32) (n w c : Nat) : Prop := 1 ≤ c ∧ c ≤ 12 ∧ ¬ lg_cmp (numF f (32 * w + 4) 4) 1 < 0 ∧ ¬ 0 < lg_cmp (numF f (32 * w + 4) 4) 1000000000 ∧ w + 1 + ent c ≤ n ∧ risF f w c 0 0 = true
theorem mark_cases {n : Nat} {g : St_Log} {r : St_Ref} {t : T3} (hm : g_medium g = mk3 n t) (hn : 4 ≤ n ∧ n ≤ 512) (hR : RI n r) (hf : (g_Rmedium r).2 = t.1) {w c : Nat} (hw : w < n) (hc0 : c < 256) (hc : t.1 (32 * w + 1) &&& 255 = nI c) : (mT t.1 n w c ∧ m_Log_isMarkThere g (nI w) = some 1 ∧ m_RRef_markAt r (nI w) = some (nI (1 + ent c))) ∨ (m_Log_isMarkThere g (nI w) = some 0 ∧ m_RRef_markAt r (nI w) = some 0) := by
  have hk := mk3_ok hn.1 hn.2 t
  have he : ent c ≤ 128 := by unfold ent; omega
  have l1 : (g_Rmedium r).1 = 16384 := (ri_medium hR).1
  have a3 : m_Medium_at (mk3 n t) (nI w) 0 = some (t.1 (32 * w) &&& 255) := c_at hk (row := w) (i := 0) (by omega) (by omega)
  have a3b : m_Medium_at (mk3 n t) (nI w) 1 = some (nI c) := by rw [← hc]; exact c_at hk (row := w) (i := 1) (by omega) (by omega)
  have a4 : m_Medium_isSumRight (mk3 n t) (nI w) = some (sumOk t.1 w) := c_sum hk (by omega)
  have a5 : m_Medium_number (mk3 n t) (nI w) 4 4 = some (numF t.1 (32 * w + 4) 4) := c_number hk (by omega) (i := 4) (K := 4) (by omega)
  have a8 : m_Medium_number (mk3 n t) (nI w) 8 8 = some (numF t.1 (32 * w + 8) 8) := c_number hk (by omega) (i := 8) (K := 8) (by omega)
  have b3 : m_RRef_kind r (nI w) = some (t.1 (32 * w) &&& 255) := by rw [← hf]; exact r_kind l1 (by omega)
  have b4 : m_RRef_isSummed r (nI w) = some (sumOk t.1 w) := by rw [← hf]; exact r_sum l1 (by omega)
  have nb : ∀ a K : Nat, a + K ≤ 32 → m_RRef_number (g_Rmedium r) (32 * nI w + nI a) (nI K) = some (numF t.1 (32 * w + a) K) := by
    intro a K h
    rw [n32, pk_mul, nI_add, ← hf]
    exact r_number (by rw [l1]; omega) (by rw [l1]; omega) (by omega)
  have b5 : m_RRef_number (g_Rmedium r) (32 * nI w + 4) 4 = some (numF t.1 (32 * w + 4) 4) := nb 4 4 (by omega)
  have b8 : m_RRef_number (g_Rmedium r) (32 * nI w + 8) 8 = some (numF t.1 (32 * w + 8) 8) := nb 8 8 (by omega)
  have ea : (32 : Int32) * nI w + 1 = nI (32 * w + 1) := by rw [n32, pk_mul, nI_1]
  have ca : (nI (32 * w + 1)).toNatClampNeg = 32 * w + 1 := nI_clamp (by omega)
  have ia : ¬ (nI (32 * w + 1) < 0 ∨ 16384 ≤ 32 * w + 1) := by
    have := nI_in (c := 32 * w + 1) (N := 16384) (by omega) (by omega)
    rw [ca] at this
    exact this
  obtain ⟨fv, hfv, -⟩ := fu1 (k := 0) (fuel := FU) (FU_lt (by omega))
  have zz : ∀ v6 : Int32, m_RRef_markAt_L156 r FU (nI w) (nI c) v6 0 0 0 = some 0 := fun v6 => by rw [hfv]; exact R_156z _ _ _ _ _ _
  have en : m_RRef_entries (nI c) = some (nI (ent c)) := R_entries (by omega)
  unfold m_Log_isMarkThere m_RRef_markAt
  rw [hm, bs a3, bs b5, ea, ca, l1, if_neg ia, hf, hc, bs en, bs b3, bs a4, bs b4, bs a3b, bs a5]
  simp only [zz, en, Option.bind_some, C_isNumber]
  by_cases c1 : t.1 (32 * w) &&& 255 = 2
  · rw [if_pos c1, if_pos c1]
    by_cases c2 : sumOk t.1 w = 0
    · right
      rw [if_pos c2, if_pos c2]
      exact ⟨rfl, rfl⟩
    · rw [if_neg c2, if_neg c2, n1]
      by_cases c3 : c < 1
      · right
        rw [if_pos (nI_lt c3 (by omega)), if_pos (nI_lt c3 (by omega))]
        exact ⟨rfl, rfl⟩
      · rw [if_neg (nI_nlt (by omega) (by omega)), if_neg (nI_nlt (by omega) (by omega)), n12]
        by_cases c4 : c ≤ 12
        · rw [if_neg (nI_nlt c4 (by omega)), if_neg (nI_nlt c4 (by omega)), ← n1]
          by_cases c5 : lg_cmp (numF t.1 (32 * w + 4) 4) 1 < 0
          · right
            rw [if_pos c5, if_pos c5, if_pos rfl]
            exact ⟨rfl, rfl⟩
          · rw [if_neg c5, if_neg c5]
            by_cases c6 : 0 < lg_cmp (numF t.1 (32 * w + 4) 4) 1000000000
            · right
              rw [if_pos c6, if_pos c6, if_pos rfl]
              exact ⟨rfl, rfl⟩
            · have hrw : m_Medium_rows (mk3 n t) = some (nI n) := rfl
              have e1 : (1 : Int32) + nI (ent c) = nI (1 + ent c) := by rw [n1, nI_add]
              rw [if_neg c6, if_neg c6, if_neg e10, bs (C_rowsOfMark (by omega)), bs hrw, show g_Rrows r = nI n from ri_rows hR, e1, nI_add]
              by_cases c7 : w + 1 + ent c ≤ n
              · rw [if_neg (nI_nlt (by omega) (by omega)), if_neg (nI_nlt (by omega) (by omega)), bs a8, bs b8, bs (C_entriesOf (by omega))]
                have dg1 : m_Medium_digest (mk3 n t) (nI w + 1) (nI (ent c)) = some (digF t.1 (32 * w + 32) (32 * ent c)) := by
                  rw [nI_1, c_digest hk (first := w + 1) (count := ent c) (by omega)]
                  rw [show 32 * (w + 1) = 32 * w + 32 by omega]; rfl
                have dg2 : m_RRef_digest (g_Rmedium r) (32 * nI w + 32) (32 * nI (ent c)) = some (digF t.1 (32 * w + 32) (32 * ent c)) := by
                  rw [n32, pk_mul, pk_mul, nI_add, ← hf]
                  exact r_digest (by rw [l1]; omega) (by rw [l1]; omega) (by omega)
                have rs1 : m_Log_areEntriesRising g (nI w) (nI c) = some (if risF t.1 w c 0 0 then 1 else 0) := C_ris_L hm hn c4 c7 c FU 0 0 (by decide) (by omega) (FU_lt (by omega))
                have rs2 : m_RRef_markAt_L156 r FU (nI w) (nI c) (nI (1 + ent c)) 1 0 0 = some (if risF t.1 w c 0 0 then nI (1 + ent c) else 0) := R_ris_L hR hf c4 (by omega) (nI (1 + ent c)) c FU 0 0 (by omega) (FU_lt (by omega))
                rw [bs dg1, bs dg2, bs rs1, rs2]
                by_cases c8 : lg_cmp (numF t.1 (32 * w + 8) 8) (digF t.1 (32 * w + 32) (32 * ent c)) = 0
                · rw [if_pos c8, if_pos c8]
                  cases c9 : risF t.1 w c 0 0 with
                  | true =>
                    left
                    exact ⟨⟨by omega, c4, c5, c6, c7, c9⟩, rfl, rfl⟩
                  | false =>
                    right
                    exact ⟨rfl, rfl⟩
                · right
                  rw [if_neg c8, if_neg c8]
                  exact ⟨rfl, rfl⟩
              · right
                rw [if_pos (nI_lt (by omega) (by omega)), if_pos (nI_lt (by omega) (by omega))]
                exact ⟨rfl, rfl⟩
        · right
          rw [if_pos (nI_lt (by omega) (by omega)), if_pos (nI_lt (by omega) (by omega))]
          exact ⟨rfl, rfl⟩
  · right
    rw [if_neg c1, if_neg c1]
    exact ⟨rfl, rfl⟩
-- WHAT IS LEARNED
theorem jmaxN {a b : Nat} (ha : a < 2 ^ 31) (hb : b < 2 ^ 31) : jmax (nI a) (nI b) = nI (max a b) := by
  unfold jmax
  by_cases h : a < b
  · rw [if_pos (nI_lt h hb), Nat.max_eq_right (by omega)]
  · rw [if_neg (nI_nlt (by omega) ha), Nat.max_eq_left (by omega)]
theorem TR_psh {r r' : St_Ref} {P : Nat} {T : PQ → Prop} {q : PQ} (h : TR r P T) (hR : RP r' (P + 1)) (hr : ∀ k, rrow r' k = if k = P then q else rrow r k) (hq : ∀ p, T p → p.1 ≠ q.1) : TR r' (P + 1) (fun p => T p ∨ p = q) := by
  obtain ⟨h1, h2, h3⟩ := h
  refine ⟨hR, fun z => ⟨?_, ?_⟩, fun i j hi hj e => ?_⟩
  · rintro (hz | rfl)
    · obtain ⟨k, hk, rfl⟩ := (h2 z).mp hz
      exact ⟨k, by omega, by rw [hr, if_neg (by omega)]⟩
    · exact ⟨P, by omega, by rw [hr, if_pos rfl]⟩
  · rintro ⟨k, hk, rfl⟩
    rw [hr]
    by_cases hk2 : k = P
    · rw [if_pos hk2]; exact Or.inr rfl
    · rw [if_neg hk2]; exact Or.inl ((h2 _).mpr ⟨k, by omega, rfl⟩)
  · rw [hr, hr] at e
    by_cases i1 : i = P
    · by_cases j1 : j = P
      · omega
      · rw [if_pos i1, if_neg j1] at e
        exact absurd e.symm (hq _ ((h2 _).mpr ⟨j, by omega, rfl⟩))
    · by_cases j1 : j = P
      · rw [if_neg i1, if_pos j1] at e
        exact absurd e (hq _ ((h2 _).mpr ⟨i, by omega, rfl⟩))
      · rw [if_neg i1, if_neg j1] at e
        exact h3 i j (by omega) (by omega) e
theorem Abs_addP {n : Nat} {lp : List PQ} {lk lm : List MKQ} {GP GM GP' : Nat} {q : PQ} (h : Abs n lp lk lm GP GM) (hG : GP ≤ GP') (hG2 : GP' ≤ 1000000000) (hq : FitP n q) (hq2 : NumLe GP' q.1) (hn : n ≤ 512) (hf : ∀ j, (pIv q).1 ≤ j → j < (pIv q).1 + (pIv q).2 → cov (ivs lp lk) j = 0) : Abs n (q :: lp) lk lm GP' GM := by
  obtain ⟨h1, h2, h3, h4, h5, h6, h7⟩ := h
  refine ⟨fun z hz => ?_, fun m hm => ?_, fun m hm => ?_, ?_, h5, hG2, h7⟩
  · rcases List.mem_cons.mp hz with e | hz
    · rw [e]; exact ⟨hq, hq2⟩
    · obtain ⟨k1, k2⟩ := h1 z hz
      exact ⟨k1, NumLe_mono hG k2⟩
  · obtain ⟨k1, k2, k3⟩ := h2 m hm
    exact ⟨k1, Ris_mono hG k2, k3⟩
  · obtain ⟨k1, k2, k3, k4⟩ := h3 m hm
    refine ⟨k1, Ris_mono hG k2, k3, fun v hv => ?_⟩
    obtain ⟨z, hz, e⟩ := k4 v hv
    exact ⟨z, List.mem_cons_of_mem _ hz, e⟩
  · show DJ n (pIv q :: ivs lp lk)
    obtain ⟨_, _, l, w, _, _, _, _, _, p6, p7, p8, p9, p10⟩ := hq
    have e : pIv q = (w, 1 + bod l) := by
      unfold pIv
      rw [p6, p8, nI_clamp (by omega), nI_clamp (by omega)]
    rw [e] at hf ⊢
    exact DJ_cons h4 ⟨p9, by show 1 ≤ 1 + bod l; omega, by show w + (1 + bod l) ≤ n; omega⟩ hf
theorem Abs_addK {n : Nat} {lp : List PQ} {lk : List MKQ} {GP GM GP' GM' : Nat} {m : MKQ} (h : Abs n lp lk [] GP GM) (hG : GP ≤ GP') (hG2 : GP' ≤ 1000000000) (hM : GM ≤ GM') (hM2 : GM' ≤ 1000000000) (hm : FitK n m) (hm2 : Ris GP' m) (hm3 : NumLe GM' m.1) (hu : ∀ z, z ∈ lk → z.1 ≠ m.1) (hn : n ≤ 512) (hf : ∀ j, (mIv m).1 ≤ j → j < (mIv m).1 + (mIv m).2 → cov (ivs lp lk) j = 0) : Abs n lp (m :: lk) [] GP' GM' := by
  obtain ⟨h1, h2, h3, h4, h5, h6, h7⟩ := h
  refine ⟨fun z hz => ?_, fun z hz => ?_, fun z hz => (by cases hz), ?_, ?_, hG2, hM2⟩
  · obtain ⟨k1, k2⟩ := h1 z hz
    exact ⟨k1, NumLe_mono hG k2⟩
  · rcases List.mem_cons.mp hz with e | hz
    · rw [e]; exact ⟨hm, hm2, hm3⟩
    · obtain ⟨k1, k2, k3⟩ := h2 z hz
      exact ⟨k1, Ris_mono hG k2, NumLe_mono hM k3⟩
  · obtain ⟨_, c, w, _, _, _, p4, p5, p6, p7, p8, p9⟩ := hm
    have e : mIv m = (w, 1 + ent c) := by
      unfold mIv
      rw [p4, p7, nI_clamp (by omega), nI_clamp (by omega)]
    have hj : DJ n (mIv m :: ivs lp lk) := by
      rw [e] at hf ⊢
      exact DJ_cons h4 ⟨p8, by show 1 ≤ 1 + ent c; omega, by show w + (1 + ent c) ≤ n; omega⟩ hf
    refine DJ_perm ?_ hj
    unfold ivs
    rw [List.map_cons]
    exact List.perm_middle.symm
  · rw [List.append_nil] at h5 ⊢
    exact List.pairwise_cons.mpr ⟨fun z hz e => hu z hz e.symm, h5⟩
/-- while it is opened: rows below w are read -/
def Sc (n w : Nat) (t : T3) (g : St_Log) (r : St_Ref) (lp : List PQ) (lk L : List MKQ) (GP GM : Nat) : Prop := CI n g ∧ RI n r ∧ g_medium g = mk3 n t ∧ rtri r = t ∧ TabC n g lp lk [] ∧ TabR r lp L ∧ L.Perm lk ∧ Abs n lp lk [] GP GM ∧ Nums g r GP GM ∧ ∀ i, i ∈ ivs lp lk → i.1 + i.2 ≤ w
/-- what opening leaves as it was -/
def ScF (g g' : St_Log) (r r' : St_Ref) : Prop := g_tape g' = g_tape g ∧ g_owners g' = g_owners g ∧ g_serial g' = g_serial g ∧ fTap r' = fTap r ∧ fHd r' = fHd r ∧ g_Ropen r' = g_Ropen r
theorem ScF.rf (g : St_Log) (r : St_Ref) : ScF g g r r := ⟨rfl, rfl, rfl, rfl, rfl, rfl⟩
theorem ScF.tr {g g' g'' : St_Log} {r r' r'' : St_Ref} (h : ScF g g' r r') (k : ScF g' g'' r' r'') : ScF g g'' r r'' := ⟨k.1.trans h.1, k.2.1.trans h.2.1, k.2.2.1.trans h.2.2.1, k.2.2.2.1.trans h.2.2.2.1, k.2.2.2.2.1.trans h.2.2.2.2.1, k.2.2.2.2.2.trans h.2.2.2.2.2⟩
theorem Sc_mono {n w w' : Nat} {t : T3} {g : St_Log} {r : St_Ref} {lp : List PQ} {lk L : List MKQ} {GP GM : Nat} (h : Sc n w t g r lp lk L GP GM) (hw : w ≤ w') : Sc n w' t g r lp lk L GP GM := by
  obtain ⟨a1, a2, a3, a4, a5, a6, a7, a8, a9, a10⟩ := h
  exact ⟨a1, a2, a3, a4, a5, a6, a7, a8, a9, fun i hi => Nat.le_trans (a10 i hi) hw⟩
theorem ln_part {n w l b : Nat} {t : T3} {g : St_Log} {r : St_Ref} {lp : List PQ} {lk L : List MKQ} {GP GM : Nat} (hn : 4 ≤ n ∧ n ≤ 512) (h : Sc n w t g r lp lk L GP GM) (hw : 2 ≤ w ∧ w < n) (hl : numF t.1 (32 * w + 2) 2 = lN l) (hb : t.1 (32 * w + 1) &&& 255 = nI b) (hp : pT t.1 n w l b) : ∃ g' r' lp' GP', m_Log_learnPart g (nI w) = some (nI (1 + bod l), g') ∧ m_RRef_learnPart r (nI w) = some r' ∧ Sc n (w + (1 + bod l)) t g' r' lp' lk L GP' GM ∧ ScF g g' r r' := by
  obtain ⟨hC, hR, hm, htr, hTC, hTR, hL, hA, hN, hiv⟩ := id h
  obtain ⟨hb8, hl5, hc4, hc5, hfit⟩ := hp
  obtain ⟨a, ha1, ha2, ha3, ha4⟩ := numOk hc4 hc5
  have hk := mk3_ok hn.1 hn.2 t
  have l1 : (g_Rmedium r).1 = 16384 := (ri_medium hR).1
  have hf : (g_Rmedium r).2 = t.1 := by rw [← htr]; rfl
  have hroom := Abs_room hA hn.2
  have a5 : m_Medium_number (mk3 n t) (nI w) 4 4 = some (lN a) := by rw [← ha3]; exact c_number hk hw.2 (i := 4) (K := 4) (by omega)
  have a2 : m_Medium_number (mk3 n t) (nI w) 2 2 = some (lN l) := by rw [← hl]; exact c_number hk hw.2 (i := 2) (K := 2) (by omega)
  have a1 : m_Medium_at (mk3 n t) (nI w) 1 = some (nI b) := by rw [← hb]; exact c_at hk (row := w) (i := 1) (by omega) (by omega)
  have a8 : m_Medium_number (mk3 n t) (nI w) 8 8 = some (numF t.1 (32 * w + 8) 8) := c_number hk hw.2 (i := 8) (K := 8) (by omega)
  have nb : ∀ x K : Nat, x + K ≤ 32 → m_RRef_number (g_Rmedium r) (32 * nI w + nI x) (nI K) = some (numF t.1 (32 * w + x) K) := by
    intro x K hx
    rw [n32, pk_mul, nI_add, ← hf]
    exact r_number (by rw [l1]; omega) (by rw [l1]; omega) (by omega)
  have b5 : m_RRef_number (g_Rmedium r) (32 * nI w + 4) 4 = some (lN a) := by rw [← ha3]; exact nb 4 4 (by omega)
  have b2 : m_RRef_number (g_Rmedium r) (32 * nI w + 2) 2 = some (lN l) := by rw [← hl]; exact nb 2 2 (by omega)
  have b8 : m_RRef_number (g_Rmedium r) (32 * nI w + 8) 8 = some (numF t.1 (32 * w + 8) 8) := nb 8 8 (by omega)
  have ea : (32 : Int32) * nI w + 1 = nI (32 * w + 1) := by rw [n32, pk_mul, nI_1]
  have ca : (nI (32 * w + 1)).toNatClampNeg = 32 * w + 1 := nI_clamp (by omega)
  have ia : ¬ (nI (32 * w + 1) < 0 ∨ 16384 ≤ 32 * w + 1) := by
    have := nI_in (c := 32 * w + 1) (N := 16384) (by omega) (by omega)
    rw [ca] at this
    exact this
  unfold m_Log_learnPart m_RRef_learnPart
  rw [hm, bs a5, bs a2, bs b5, lN_i, lN_i]
  rcases T_find (PC_tc hTC.1) hTR.1 (nI a) with ⟨z1, z2, z3⟩ | ⟨i, j, q, hi, hj, hq, e1, e2, e3, z1, z2⟩
  · rw [bs z1, if_pos rfl, bs z2, if_pos rfl, bs a1, bs a8, bs b8, bs b2, lN_i, ea, ca, l1, hf, hb]
    obtain ⟨q, hqd⟩ : ∃ q : PQ, q = (nI a, nI b, nI l, nI w, numF t.1 (32 * w + 8) 8) := ⟨_, rfl⟩
    have hqF : FitP n q := by rw [hqd]; exact ⟨a, b, l, w, rfl, ha1, ha2, rfl, hb8, rfl, hl5, rfl, hw.1, hfit⟩
    have hqI : pIv q = (w, 1 + bod l) := by
      rw [hqd]
      unfold pIv
      show ((nI w).toNatClampNeg, 1 + bod (nI l).toNatClampNeg) = _
      rw [nI_clamp (by omega), nI_clamp (by omega)]
    have hfree : ∀ j, w ≤ j → cov (ivs lp lk) j = 0 := fun j hj => cov_zero (fun i hi hc => by have := hiv i hi; omega)
    obtain ⟨x', lp', c1, c2, c3⟩ := PC_add hTC.1 (by omega) q (by rw [hqd]; exact z3)
    have c1' : m_Parts_add (g_parts g) (nI a) (nI b) (nI l) (nI w) (numF t.1 (32 * w + 8) 8) = some x' := by rw [hqd] at c1; exact c1
    have hT2 := C_take (x := g_room g) (n := n) (a := w) (c := 1 + bod l) hTC.2.2.2.1 hn.2 (by omega)
    have hGP := hA.2.2.2.2.2.1
    have hlen : lp'.length = lp.length + 1 := by rw [c3.length_eq]; rfl
    have hmx : max GP a ≤ 1000000000 := by omega
    have p1 : g_Rparts r = nI lp.length := hTR.1.1.2.1
    have i0 : ∀ M, M = 520 → ¬ (g_Rparts r < 0 ∨ M ≤ (g_Rparts r).toNatClampNeg) := fun M hM => by rw [hM, p1]; exact nI_in (by omega) (by omega)
    have cp : (g_Rparts r).toNatClampNeg = lp.length := by rw [p1]; exact nI_clamp (by omega)
    obtain ⟨r', hr'⟩ : ∃ r', r' = s_RlastPart (s_Rparts (s_RpRow (s_RpLength (s_RpPosition (s_RpGroup (s_RpNumber r ((g_RpNumber r).1, upd (g_RpNumber r).2 lp.length (nI a))) ((g_RpGroup r).1, upd (g_RpGroup r).2 lp.length (nI b))) ((g_RpPosition r).1, vp_updL (g_RpPosition r).2 lp.length (numF t.1 (32 * w + 8) 8))) ((g_RpLength r).1, upd (g_RpLength r).2 lp.length (nI l))) ((g_RpRow r).1, upd (g_RpRow r).2 lp.length (nI w))) (nI (lp.length + 1))) (nI (max GP a)) := ⟨_, rfl⟩
    have hRr : RI n r' := by
      rw [hr']
      refine rs_lastPart (rs_parts (rs_pRow (rs_pLength (rs_pPosition (rs_pGroup (rs_pNumber hR ?_) ?_) ?_) ?_) ?_) ?_)
      · exact ri_pNumber hR
      · exact ri_pGroup hR
      · exact ri_pPosition hR
      · exact ri_pLength hR
      · exact ri_pRow hR
      · exact ⟨lp.length + 1, by omega, rfl⟩
    have hrow : ∀ k, rrow r' k = if k = lp.length then q else rrow r k := by
      intro k
      rw [hr', hqd]
      unfold rrow
      simp only [qR_pNumber, qR_pGroup, qR_pLength, qR_pRow, qR_pPosition]
      unfold upd vp_updL
      by_cases hk : k = lp.length
      · simp only [if_pos hk]
      · simp only [if_neg hk]
    have hRP : RP r' (lp.length + 1) := ⟨⟨ri_pNumber hRr, ri_pGroup hRr, ri_pPosition hRr, ri_pLength hRr, ri_pRow hRr⟩, by rw [hr']; simp only [qR_parts], by omega⟩
    have hPR : PR r' lp' := by
      unfold PR
      rw [hlen]
      refine TR_congr (TR_psh hTR.1 hRP hrow (by rw [hqd]; exact z3)) (fun z => ?_)
      rw [c3.mem_iff, List.mem_cons]
      exact Or.comm
    refine ⟨s_greatestPart (s_room (s_parts g x') (n, setF (g_room g).2 w (1 + bod l) 1)) (nI (max GP a)), r', lp', max GP a, ?_, ?_, ⟨?_, hRr, ?_, ?_, ⟨?_, ?_, ?_, ?_⟩, ⟨hPR, ?_⟩, hL, ?_, ⟨?_, ?_, ?_, ?_⟩, ?_⟩, ⟨?_, ?_, ?_, ?_, ?_, ?_⟩⟩
    · rw [bs c1', bs (C_rowsOfPart (by omega)), bs hT2, bs (C_rowsOfPart (by omega)), hN.1, jmaxN (by omega) (by omega)]
    · have key : (if nI a ≤ g_RlastPart r then some (s_RlastPart (s_Rparts (s_RpRow (s_RpLength (s_RpPosition (s_RpGroup (s_RpNumber r ((g_RpNumber r).1, upd (g_RpNumber r).2 lp.length (nI a))) ((g_RpGroup r).1, upd (g_RpGroup r).2 lp.length (nI b))) ((g_RpPosition r).1, vp_updL (g_RpPosition r).2 lp.length (numF t.1 (32 * w + 8) 8))) ((g_RpLength r).1, upd (g_RpLength r).2 lp.length (nI l))) ((g_RpRow r).1, upd (g_RpRow r).2 lp.length (nI w))) (g_Rparts r + 1)) (g_RlastPart r)) else some (s_RlastPart (s_Rparts (s_RpRow (s_RpLength (s_RpPosition (s_RpGroup (s_RpNumber r ((g_RpNumber r).1, upd (g_RpNumber r).2 lp.length (nI a))) ((g_RpGroup r).1, upd (g_RpGroup r).2 lp.length (nI b))) ((g_RpPosition r).1, vp_updL (g_RpPosition r).2 lp.length (numF t.1 (32 * w + 8) 8))) ((g_RpLength r).1, upd (g_RpLength r).2 lp.length (nI l))) ((g_RpRow r).1, upd (g_RpRow r).2 lp.length (nI w))) (g_Rparts r + 1)) (nI a))) = some r' := by
        rw [p1, nI_1, hN.2.1, hr']
        by_cases hz : a ≤ GP
        · rw [if_pos (nI_le hz (by omega)), Nat.max_eq_left hz]
        · rw [if_neg (nI_ge (by omega) (by omega)), Nat.max_eq_right (by omega)]
      rw [← key, cp]
      rw [cp] at i0
      refine Eq.trans (if_neg (i0 _ (ri_pNumber hR))) ?_
      refine Eq.trans (if_neg ia) ?_
      refine Eq.trans (if_neg (i0 _ (ri_pGroup hR))) ?_
      refine Eq.trans (if_neg (i0 _ (ri_pPosition hR))) ?_
      refine Eq.trans (if_neg (i0 _ (ri_pLength hR))) ?_
      exact if_neg (i0 _ (ri_pRow hR))
    · exact cs_greatestPart (cs_room (v := (n, setF (g_room g).2 w (1 + bod l) 1)) (cs_parts hC ⟨_, c2.1.l⟩) (kRm_set (ci_room hC).2 (Or.inr rfl)))
    · simp only [q_medium]; exact hm
    · rw [hr']; simp only [rtri, qR_medium, qR_cutIn, qR_written]; exact htr
    · simp only [q_parts]; exact c2
    · simp only [q_kept]; exact hTC.2.1
    · simp only [q_made]; exact hTC.2.2.1
    · simp only [q_room]
      refine BT_perm (ivs_perm c3.symm (List.Perm.refl _)) ?_
      show BT n _ (pIv q :: ivs lp lk)
      rw [hqI]
      exact BT_take hTC.2.2.2 _ _
    · exact MR_fr (by rw [hr']; simp only [qf_Mrk]) hTR.2
    · refine Abs_perm c3.symm (List.Perm.refl _) (List.Perm.refl _) (Abs_addP hA (by omega) hmx hqF ⟨a, ha1, by omega, by rw [hqd]⟩ hn.2 (fun j j1 _ => hfree j (by rw [hqI] at j1; exact j1)))
    · simp only [q_greatestPart]
    · rw [hr']; simp only [qR_lastPart]
    · simp only [q_greatestMark]; exact hN.2.2.1
    · rw [hr']; simp only [qR_lastMark]; exact hN.2.2.2
    · intro i hi
      have hi2 := (ivs_perm c3 (List.Perm.refl lk)).mem_iff.mp hi
      rcases List.mem_cons.mp (show i ∈ pIv q :: ivs lp lk from hi2) with e | hi3
      · rw [e, hqI]; exact Nat.le_refl _
      · have := hiv i hi3
        omega
    · simp only [q_tape]
    · simp only [q_owners]
    · simp only [q_serial]
    · rw [hr']; simp only [qf_Tap]
    · rw [hr']; simp only [qf_Hd]
    · rw [hr']; simp only [qR_open]
  · have h512 := hTC.1.1.2.2
    have hlp := hTR.1.1.2.2
    refine ⟨g, r, lp, GP, ?_, ?_, Sc_mono h (by omega), ScF.rf g r⟩
    · rw [bs z1, if_neg (nI_m1 (by omega)), bs (C_rowsOfPart (by omega))]
    · rw [bs z2, if_neg (nI_m1 (by omega))]
-- A MARK IS LEARNED
def eN (f : Nat → Int32) (w k : Nat) : Nat := ((numF f (entA w k) 4).toInt32).toNatClampNeg
def mxE (e : Nat → Nat) (G : Nat) : Nat → Nat
  | 0 => G
  | i + 1 => max (mxE e G i) (e i)
theorem mxE_ge (e : Nat → Nat) (G : Nat) : ∀ c, G ≤ mxE e G c ∧ ∀ k, k < c → e k ≤ mxE e G c := by
  intro c
  induction c with
  | zero => exact ⟨Nat.le_refl _, fun k hk => absurd hk (by omega)⟩
  | succ c ih =>
    rw [mxE]
    refine ⟨by omega, fun k hk => ?_⟩
    by_cases h : k = c
    · rw [h]; omega
    · have := ih.2 k (by omega)
      omega
theorem mxE_le {e : Nat → Nat} {G B : Nat} (hG : G ≤ B) : ∀ c, (∀ k, k < c → e k ≤ B) → mxE e G c ≤ B := by
  intro c
  induction c with
  | zero => intro _; exact hG
  | succ c ih =>
    intro h
    rw [mxE]
    have h1 := ih (fun k hk => h k (by omega))
    have h2 := h c (by omega)
    omega
theorem ris_spec (f : Nat → Int32) (w : Nat) : ∀ (d i : Nat) (b : Int64), ¬ b < 0 → risF f w d i b = true → (∀ k, i ≤ k → k < i + d → 1 ≤ eN f w k ∧ eN f w k ≤ 1000000000 ∧ numF f (entA w k) 4 = lN (eN f w k) ∧ b < numF f (entA w k) 4) ∧ ∀ k k', i ≤ k → k < k' → k' < i + d → numF f (entA w k) 4 < numF f (entA w k') 4 := by
  intro d
  induction d with
  | zero => intro i b hb h; exact ⟨fun k k1 k2 => absurd k2 (by omega), fun k k' k1 k2 k3 => absurd k3 (by omega)⟩
  | succ d ih =>
    intro i b hb h
    rw [risF] at h
    by_cases c1 : lg_cmp (numF f (entA w i) 4) b ≤ 0
    · rw [if_pos c1] at h
      cases h
    · rw [if_neg c1] at h
      by_cases c2 : 0 < lg_cmp (numF f (entA w i) 4) 1000000000
      · rw [if_pos c2] at h
        cases h
      · rw [if_neg c2] at h
        obtain ⟨p1, p2⟩ := pos_of hb c1
        obtain ⟨a, a1, a2, a3, a4⟩ := numOk p1 c2
        have hlt : b < numF f (entA w i) 4 := by
          rw [lg_cmp_le] at c1
          exact Int64.not_le.mp c1
        obtain ⟨k1, k2⟩ := ih (i + 1) _ p2 h
        have hi : 1 ≤ eN f w i ∧ eN f w i ≤ 1000000000 ∧ numF f (entA w i) 4 = lN (eN f w i) := by
          have : eN f w i = a := by unfold eN; rw [a4, nI_clamp (by omega)]
          rw [this]
          exact ⟨a1, a2, a3⟩
        refine ⟨fun k h1 h2 => ?_, fun k k' h1 h2 h3 => ?_⟩
        · by_cases hk : k = i
          · rw [hk]; exact ⟨hi.1, hi.2.1, hi.2.2, hlt⟩
          · obtain ⟨q1, q2, q3, q4⟩ := k1 k (by omega) (by omega)
            exact ⟨q1, q2, q3, Int64.lt_trans hlt q4⟩
        · by_cases hk : k = i
          · rw [hk]
            exact (k1 k' (by omega) (by omega)).2.2.2
          · exact k2 k k' (by omega) h2 (by omega)
theorem ss_kg (g : St_Log) (x y : St_Marks) (a b : Int32) : s_greatestPart (s_kept (s_greatestPart (s_kept g x) a) y) b = s_greatestPart (s_kept g y) b := rfl
theorem C_lm_L {n N Q : Nat} {g : St_Log} {t : T3} (hm : g_medium g = mk3 n t) (hn : 4 ≤ n ∧ n ≤ 512) {x : St_Marks} (hx : ML N x Q) {p c w a GP GM : Nat} (hp : p < Q) (hc : x.2.1.2 p = nI c) (hc2 : c ≤ 12) (hw : w + 1 + ent c ≤ n) (he : ∀ k, k < c → eN t.1 w k ≤ 1000000000 ∧ numF t.1 (entA w k) 4 = lN (eN t.1 w k)) (hGP : GP ≤ 1000000000) (hGM : g_greatestMark g = nI GM) (hGM2 : GM ≤ 1000000000) (ha : a ≤ 1000000000) {rm : St_Room} (hT : m_Room_take (g_room g) (nI w) (nI (1 + ent c)) = some rm) : ∀ (d fuel i : Nat), i + d = c → d < fuel → m_Log_learnMark_L61 fuel (s_greatestPart (s_kept g (mfl x p (fun k => nI (eN t.1 w k)) i)) (nI (mxE (eN t.1 w) GP i))) (nI w) (nI a) (nI c) (nI p) (nI i) = some (nI (1 + ent c), s_greatestMark (s_room (s_greatestPart (s_kept g (mfl x p (fun k => nI (eN t.1 w k)) c)) (nI (mxE (eN t.1 w) GP c))) rm) (nI (max GM a))) := by
  intro d
  induction d with
  | zero =>
    intro fuel i hi hf
    obtain ⟨fu, rfl, -⟩ := fu1 hf
    rw [m_Log_learnMark_L61, if_pos (nI_le (by omega) (by omega)), bs (C_rowsOfMark (by omega))]
    simp only [q_room, q_greatestMark]
    rw [bs hT, bs (C_rowsOfMark (by omega)), hGM, jmaxN (by omega) (by omega), show i = c by omega]
  | succ d ih =>
    intro fuel i hi hf
    obtain ⟨fu, rfl, hf'⟩ := fu1 hf
    obtain ⟨h1, h2⟩ := he i (by omega)
    have hmx := mxE_le (e := eN t.1 w) hGP i (fun k hk => (he k (by omega)).1)
    rw [m_Log_learnMark_L61, if_neg (nI_ge (by omega) (by omega)), bs (C_entryRow (by omega)), bs (C_entryByte (by omega))]
    simp only [q_medium, q_kept, q_greatestPart]
    rw [hm, bs (C_ent4 hn (c := c) (by omega) hw), h2, lN_i]
    have hs := M_setPart (ML_mfl hx p (fun k => nI (eN t.1 w k)) i) (k := p) (i := i) (c := c) hp hc hc2 (by omega) (nI (eN t.1 w i))
    have e : mpt (mfl x p (fun k => nI (eN t.1 w k)) i) p i (nI (eN t.1 w i)) = mfl x p (fun k => nI (eN t.1 w k)) (i + 1) := mfl_step x p (fun k => nI (eN t.1 w k)) i
    rw [e] at hs
    rw [bs hs, jmaxN (by omega) (by omega), ss_kg, nI_1]
    exact ih fu (i + 1) (by omega) (by omega)
theorem R_lm_L {n : Nat} {f : Nat → Int32} {M c w a GP GM : Nat} (hn : n ≤ 512) (hM : M < 270) (hc2 : c ≤ 12) (hw : w + 1 + ent c ≤ n) (he : ∀ k, k < c → eN f w k ≤ 1000000000 ∧ numF f (entA w k) 4 = lN (eN f w k)) (hGP : GP ≤ 1000000000) (hGM2 : GM ≤ 1000000000) (ha : a ≤ 1000000000) : ∀ (d fuel i : Nat) (G : St_Ref), RI n G → (g_Rmedium G).2 = f → g_Rmarks G = nI M → (g_RmCount G).2 M = nI c → g_RlastMark G = nI GM → g_RlastPart G = nI (mxE (eN f w) GP i) → (∀ j, j < i → (g_RmPart G).2 (12 * M + j) = nI (eN f w j)) → i + d = c → d < fuel → ∃ G', m_RRef_learnMark_L94 fuel G (nI w) (nI a) (nI i) = some G' ∧ RI n G' ∧ fMed G' = fMed G ∧ fTap G' = fTap G ∧ fPar G' = fPar G ∧ fHd G' = fHd G ∧ g_RmNumber G' = g_RmNumber G ∧ g_RmRow G' = g_RmRow G ∧ g_RmCount G' = g_RmCount G ∧ g_RmDigest G' = g_RmDigest G ∧ g_Rmarks G' = nI (M + 1) ∧ g_RlastMark G' = nI (max GM a) ∧ g_RlastPart G' = nI (mxE (eN f w) GP c) ∧ (∀ j, j < c → (g_RmPart G').2 (12 * M + j) = nI (eN f w j)) ∧ ∀ j, j < 12 * M → (g_RmPart G').2 j = (g_RmPart G).2 j := by
  intro d
  induction d with
  | zero =>
    intro fuel i G hR hf hm hc hlm hlp hpt hi hfu
    obtain ⟨fu, rfl, -⟩ := fu1 hfu
    have hic : i = c := by omega
    subst hic
    have l1 : (g_RmCount G).1 = 270 := ri_mCount hR
    obtain ⟨G', hG'⟩ : ∃ G', G' = s_RlastMark (s_Rmarks G (nI (M + 1))) (nI (max GM a)) := ⟨_, rfl⟩
    refine ⟨G', ?_, ?_, ?_, ?_, ?_, ?_, ?_, ?_, ?_, ?_, ?_, ?_, ?_, ?_, ?_⟩
    · rw [m_RRef_learnMark_L94, hm, l1, if_neg (nI_in hM (by omega)), nI_clamp (by omega), hc, if_pos (Int32.le_refl _), hlm, nI_1, hG']
      by_cases hz : a ≤ GM
      · rw [if_pos (nI_le hz (by omega)), Nat.max_eq_left hz]
      · rw [if_neg (nI_ge (by omega) (by omega)), Nat.max_eq_right (by omega)]
    · rw [hG']
      refine rs_lastMark (rs_marks hR ?_)
      exact ⟨M + 1, by omega, rfl⟩
    · rw [hG']; simp only [qf_Med]
    · rw [hG']; simp only [qf_Tap]
    · rw [hG']; simp only [qf_Par]
    · rw [hG']; simp only [qf_Hd]
    · rw [hG']; simp only [qR_mNumber]
    · rw [hG']; simp only [qR_mRow]
    · rw [hG']; simp only [qR_mCount]
    · rw [hG']; simp only [qR_mDigest]
    · rw [hG']; simp only [qR_marks]
    · rw [hG']; simp only [qR_lastMark]
    · rw [hG']; simp only [qR_lastPart]; exact hlp
    · intro j hj
      rw [hG']; simp only [qR_mPart]; exact hpt j hj
    · intro j hj
      rw [hG']; simp only [qR_mPart]
  | succ d ih =>
    intro fuel i G hR hf hm hc hlm hlp hpt hi hfu
    obtain ⟨fu, rfl, hfu'⟩ := fu1 hfu
    obtain ⟨h1, h2⟩ := he i (by omega)
    have hmx := mxE_le (e := eN f w) hGP i (fun k hk => (he k (by omega)).1)
    have l1 : (g_RmCount G).1 = 270 := ri_mCount hR
    have l2 : (g_RmPart G).1 = 3240 := ri_mPart hR
    have l3 : (g_RmPartRow G).1 = 3240 := ri_mPartRow hR
    have l4 : (g_RmPartDigest G).1 = 3240 := ri_mPartDigest hR
    have l5 : (g_Rmedium G).1 = 16384 := (ri_medium hR).1
    have hei : i / 2 < ent c := by unfold ent; omega
    have hA : entA w i + 14 ≤ 16384 := by unfold entA; omega
    have b1 : m_RRef_number (g_Rmedium G) (nI (entA w i)) 4 = some (lN (eN f w i)) := by
      rw [← h2, ← hf]
      exact r_number (x := g_Rmedium G) (a := entA w i) (K := 4) (by rw [l5]; omega) (by rw [l5]; omega) (by omega)
    have b2 : m_RRef_number (g_Rmedium G) (nI (entA w i) + 4) 2 = some (numF f (entA w i + 4) 2) := by
      rw [n4, nI_add, n2, ← hf]
      exact r_number (by rw [l5]; omega) (by rw [l5]; omega) (by omega)
    have b3 : m_RRef_number (g_Rmedium G) (nI (entA w i) + 6) 8 = some (numF f (entA w i + 6) 8) := by
      rw [n6, nI_add, n8, ← hf]
      exact r_number (by rw [l5]; omega) (by rw [l5]; omega) (by omega)
    have e0 : (12 : Int32) * g_Rmarks G + nI i = nI (12 * M + i) := by rw [hm, n12, pk_mul, nI_add]
    have c1 : (nI (12 * M + i)).toNatClampNeg = 12 * M + i := nI_clamp (by omega)
    have i1 : ∀ K, K = 3240 → ¬ (nI (12 * M + i) < 0 ∨ K ≤ 12 * M + i) := fun K hK => by
      have := nI_in (c := 12 * M + i) (N := 3240) (by omega) (by omega)
      rw [c1] at this
      rw [hK]; exact this
    obtain ⟨G1, hG1⟩ : ∃ G1, G1 = s_RlastPart (s_RmPartDigest (s_RmPartRow (s_RmPart G ((g_RmPart G).1, upd (g_RmPart G).2 (12 * M + i) (nI (eN f w i)))) ((g_RmPartRow G).1, upd (g_RmPartRow G).2 (12 * M + i) ((numF f (entA w i + 4) 2).toInt32))) ((g_RmPartDigest G).1, vp_updL (g_RmPartDigest G).2 (12 * M + i) (numF f (entA w i + 6) 8))) (nI (mxE (eN f w) GP (i + 1))) := ⟨_, rfl⟩
    have hRG1 : RI n G1 := by
      rw [hG1]
      refine rs_lastPart (rs_mPartDigest (rs_mPartRow (rs_mPart hR ?_) ?_) ?_)
      · exact l2
      · exact l3
      · exact l4
    have k1 : fMed G1 = fMed G := by rw [hG1]; simp only [qf_Med]
    have k2 : fTap G1 = fTap G := by rw [hG1]; simp only [qf_Tap]
    have k3 : fPar G1 = fPar G := by rw [hG1]; simp only [qf_Par]
    have k4 : fHd G1 = fHd G := by rw [hG1]; simp only [qf_Hd]
    have k5 : g_RmNumber G1 = g_RmNumber G := by rw [hG1]; simp only [qR_mNumber]
    have k6 : g_RmRow G1 = g_RmRow G := by rw [hG1]; simp only [qR_mRow]
    have k7 : g_RmCount G1 = g_RmCount G := by rw [hG1]; simp only [qR_mCount]
    have k8 : g_RmDigest G1 = g_RmDigest G := by rw [hG1]; simp only [qR_mDigest]
    have k9 : g_RmPart G1 = ((g_RmPart G).1, upd (g_RmPart G).2 (12 * M + i) (nI (eN f w i))) := by rw [hG1]; simp only [qR_mPart]
    have k10 : g_Rmarks G1 = nI M := by rw [hG1]; simp only [qR_marks]; exact hm
    have k11 : g_RlastMark G1 = nI GM := by rw [hG1]; simp only [qR_lastMark]; exact hlm
    have k12 : g_RlastPart G1 = nI (mxE (eN f w) GP (i + 1)) := by rw [hG1]; simp only [qR_lastPart]
    obtain ⟨G', z1, z2, z3, z4, z5, z6, z7, z8, z9, z10, z11, z12, z13, z14, z15⟩ := ih fu (i + 1) G1 hRG1 (by rw [e_medium k1]; exact hf) k10 (by rw [k7]; exact hc) k11 k12 (fun j hj => by
      rw [k9]
      show upd (g_RmPart G).2 (12 * M + i) (nI (eN f w i)) (12 * M + j) = _
      unfold upd
      by_cases hji : j = i
      · rw [if_pos (by omega), hji]
      · rw [if_neg (by omega)]
        exact hpt j (by omega)) (by omega) (by omega)
    refine ⟨G', ?_, z2, z3.trans k1, z4.trans k2, z5.trans k3, z6.trans k4, z7.trans k5, z8.trans k6, z9.trans k7, z10.trans k8, z11, z12, z13, z14, fun j hj => ?_⟩
    · rw [m_RRef_learnMark_L94, e0, c1, hlp]
      refine Eq.trans (if_neg (show ¬ (g_Rmarks G < 0 ∨ (g_RmCount G).1 ≤ (g_Rmarks G).toNatClampNeg) by rw [hm, l1]; exact nI_in hM (by omega))) ?_
      refine Eq.trans (if_neg (show ¬ (g_RmCount G).2 (g_Rmarks G).toNatClampNeg ≤ nI i by rw [hm, nI_clamp (by omega), hc]; exact nI_ge (by omega) (by omega))) ?_
      refine Eq.trans (bs (R_entryAt (by omega))) ?_
      refine Eq.trans (bs b1) ?_
      rw [lN_i]
      refine Eq.trans (if_neg (i1 _ l2)) ?_
      refine Eq.trans (bs b2) ?_
      refine Eq.trans (if_neg (i1 _ l3)) ?_
      refine Eq.trans (bs b3) ?_
      refine Eq.trans (if_neg (i1 _ l4)) ?_
      rw [nI_1]
      by_cases hz : eN f w i ≤ mxE (eN f w) GP i
      · refine Eq.trans (if_pos (nI_le hz (by omega))) ?_
        have hmm : mxE (eN f w) GP (i + 1) = mxE (eN f w) GP i := by rw [mxE]; exact Nat.max_eq_left hz
        rw [hmm] at hG1
        rw [← hG1]
        exact z1
      · refine Eq.trans (if_neg (nI_ge (by omega) (by omega))) ?_
        have hmm : mxE (eN f w) GP (i + 1) = eN f w i := by rw [mxE]; exact Nat.max_eq_right (by omega)
        rw [hmm] at hG1
        rw [← hG1]
        exact z1
    · rw [z15 j hj, k9]
      show upd (g_RmPart G).2 (12 * M + i) (nI (eN f w i)) j = _
      unfold upd
      rw [if_neg (by omega)]
theorem ln_mark {n w c : Nat} {t : T3} {g : St_Log} {r : St_Ref} {lp : List PQ} {lk L : List MKQ} {GP GM : Nat} (hn : 4 ≤ n ∧ n ≤ 512) (h : Sc n w t g r lp lk L GP GM) (hw : 2 ≤ w ∧ w < n) (hc : t.1 (32 * w + 1) &&& 255 = nI c) (hmT : mT t.1 n w c) : ∃ g' r' lk' L' GP' GM', m_Log_learnMark g (nI w) = some (nI (1 + ent c), g') ∧ m_RRef_learnMark r (nI w) = some r' ∧ Sc n (w + (1 + ent c)) t g' r' lp lk' L' GP' GM' ∧ ScF g g' r r' := by
  obtain ⟨hC, hR, hm, htr, hTC, hTR, hL, hA, hN, hiv⟩ := id h
  obtain ⟨hc1, hc12, hc4, hc5, hfit, hris⟩ := hmT
  obtain ⟨a, ha1, ha2, ha3, ha4⟩ := numOk hc4 hc5
  obtain ⟨hsp, hinc⟩ := ris_spec t.1 w c 0 0 (by decide) hris
  have hk := mk3_ok hn.1 hn.2 t
  have l1 : (g_Rmedium r).1 = 16384 := (ri_medium hR).1
  have hf : (g_Rmedium r).2 = t.1 := by rw [← htr]; rfl
  have he12 : ent c ≤ 6 := by unfold ent; omega
  have hroom := Abs_room hA hn.2
  have a5 : m_Medium_number (mk3 n t) (nI w) 4 4 = some (lN a) := by rw [← ha3]; exact c_number hk hw.2 (i := 4) (K := 4) (by omega)
  have a1 : m_Medium_at (mk3 n t) (nI w) 1 = some (nI c) := by rw [← hc]; exact c_at hk (row := w) (i := 1) (by omega) (by omega)
  have a8 : m_Medium_number (mk3 n t) (nI w) 8 8 = some (numF t.1 (32 * w + 8) 8) := c_number hk hw.2 (i := 8) (K := 8) (by omega)
  have nb : ∀ x K : Nat, x + K ≤ 32 → m_RRef_number (g_Rmedium r) (32 * nI w + nI x) (nI K) = some (numF t.1 (32 * w + x) K) := by
    intro x K hx
    rw [n32, pk_mul, nI_add, ← hf]
    exact r_number (by rw [l1]; omega) (by rw [l1]; omega) (by omega)
  have b5 : m_RRef_number (g_Rmedium r) (32 * nI w + 4) 4 = some (lN a) := by rw [← ha3]; exact nb 4 4 (by omega)
  have b8 : m_RRef_number (g_Rmedium r) (32 * nI w + 8) 8 = some (numF t.1 (32 * w + 8) 8) := nb 8 8 (by omega)
  have ea : (32 : Int32) * nI w + 1 = nI (32 * w + 1) := by rw [n32, pk_mul, nI_1]
  have ca : (nI (32 * w + 1)).toNatClampNeg = 32 * w + 1 := nI_clamp (by omega)
  have ia : ¬ (nI (32 * w + 1) < 0 ∨ 16384 ≤ 32 * w + 1) := by
    have := nI_in (c := 32 * w + 1) (N := 16384) (by omega) (by omega)
    rw [ca] at this
    exact this
  have hLl : L.length = lk.length := hL.length_eq
  have hLa : L.Perm (lk ++ []) := by rw [List.append_nil]; exact hL
  unfold m_Log_learnMark m_RRef_learnMark
  rw [hm, bs a5, bs a1, bs b5, lN_i]
  rcases F3 hR hTC.2.1 hTC.2.2.1 hTR.2 hLa hA.2.2.2.2.1 (nI a) with ⟨z1, z2, z3, z4⟩ | ⟨i, j, hi, hj, z1, z2, z3, -, -, -⟩ | ⟨i, j, hi, hj, -⟩
  · rw [bs z1, if_pos rfl, bs z3, if_pos rfl, bs a8, bs b8, ea, ca, l1, hf, hc]
    have hGP := hA.2.2.2.2.2.1
    have hGM := hA.2.2.2.2.2.2
    have he : ∀ k, k < c → eN t.1 w k ≤ 1000000000 ∧ numF t.1 (entA w k) 4 = lN (eN t.1 w k) := fun k hk2 => by
      obtain ⟨q1, q2, q3, q4⟩ := hsp k (by omega) (by omega)
      exact ⟨q2, q3⟩
    obtain ⟨D, hD⟩ : ∃ D, D = numF t.1 (32 * w + 8) 8 := ⟨_, rfl⟩
    rw [← hD]
    obtain ⟨m, hmd⟩ : ∃ m : MKQ, m = (nI a, nI c, nI w, D, lst (fun k => nI (eN t.1 w k)) c) := ⟨_, rfl⟩
    have hmF : FitK n m := by rw [hmd]; exact ⟨a, c, w, rfl, ha1, ha2, rfl, hc1, hc12, rfl, hw.1, hfit⟩
    have hmI : mIv m = (w, 1 + ent c) := by
      rw [hmd]
      unfold mIv
      show ((nI w).toNatClampNeg, 1 + ent (nI c).toNatClampNeg) = _
      rw [nI_clamp (by omega), nI_clamp (by omega)]
    have hmx := mxE_le (e := eN t.1 w) hGP c (fun k hk2 => (he k hk2).1)
    have hmg := mxE_ge (eN t.1 w) GP c
    have hmR : Ris (mxE (eN t.1 w) GP c) m := by
      rw [hmd]
      refine ⟨lst (eN t.1 w) c, ?_, ?_, ?_, ?_, ?_, ?_⟩
      · unfold lst
        rw [List.map_map]
        rfl
      · rw [lst_len]
      · rw [lst_len]; exact hc1
      · rw [lst_len]; exact hc12
      · refine lst_pw c (fun i j hij hj => ?_)
        have := hinc i j (by omega) hij (by omega)
        rw [(he i (by omega)).2, (he j hj).2, pk_lLT (by have := (he i (by omega)).1; omega) (by have := (he j hj).1; omega)] at this
        exact this
      · intro x hx
        obtain ⟨k, hk2, rfl⟩ := mem_lst.mp hx
        exact ⟨(hsp k (by omega) (by omega)).1, hmg.2 k hk2⟩
    have hfree : ∀ j, w ≤ j → cov (ivs lp lk) j = 0 := fun j hj => cov_zero (fun i hi hcc => by have := hiv i hi; omega)
    have hfr : ∀ z, z ∈ lk → z.1 ≠ nI a := fun z hz => z4 z (hL.mem_iff.mpr hz)
    have hA' : Abs n lp (m :: lk) [] (mxE (eN t.1 w) GP c) (max GM a) := Abs_addK hA hmg.1 hmx (by omega) (by omega) hmF hmR ⟨a, ha1, by omega, by rw [hmd]⟩ (by rw [hmd]; exact hfr) hn.2 (fun j j1 _ => hfree j (by rw [hmI] at j1; exact j1))
    have hroom' := Abs_room hA' hn.2
    rw [List.length_cons] at hroom'
    obtain ⟨x', p, c1, c2, c3, c4, c5⟩ := MC_add hTC.2.1 (by omega) (nI a) (nI w) D hc12 hfr
    obtain ⟨lk', d1, d2⟩ := c5 (fun k => nI (eN t.1 w k))
    rw [← hmd] at d2
    have hT2 := C_take (x := g_room g) (n := n) (a := w) (c := 1 + ent c) hTC.2.2.2.1 hn.2 (by omega)
    have runC := C_lm_L (n := n) (g := g) (t := t) hm hn (x := x') c3.1 (p := p) (c := c) (w := w) (a := a) (GP := GP) (GM := GM) c2 c4 hc12 hfit he hGP hN.2.2.1 hGM ha2 hT2 c FU 0 (by omega) (FU_lt (by omega))
    rw [mfl_0] at runC
    have hg0 : s_greatestPart (s_kept g x') (nI (mxE (eN t.1 w) GP 0)) = s_kept g x' := by
      have : nI (mxE (eN t.1 w) GP 0) = g_greatestPart (s_kept g x') := by simp only [q_greatestPart]; exact hN.1.symm
      rw [this]; rfl
    rw [hg0] at runC
    -- the reference
    have hMp : g_Rmarks r = nI L.length := hTR.2.1
    have cM : (g_Rmarks r).toNatClampNeg = L.length := by rw [hMp]; exact nI_clamp (by omega)
    have i0 : ∀ K, K = 270 → ¬ (g_Rmarks r < 0 ∨ K ≤ (g_Rmarks r).toNatClampNeg) := fun K hK => by rw [hK, hMp]; exact nI_in (by omega) (by omega)
    rw [cM] at i0 ⊢
    obtain ⟨G0, hG0⟩ : ∃ G0, G0 = s_RmDigest (s_RmCount (s_RmRow (s_RmNumber r ((g_RmNumber r).1, upd (g_RmNumber r).2 L.length (nI a))) ((g_RmRow r).1, upd (g_RmRow r).2 L.length (nI w))) ((g_RmCount r).1, upd (g_RmCount r).2 L.length (nI c))) ((g_RmDigest r).1, vp_updL (g_RmDigest r).2 L.length D) := ⟨_, rfl⟩
    have hRG0 : RI n G0 := by
      rw [hG0]
      refine rs_mDigest (rs_mCount (rs_mRow (rs_mNumber hR ?_) ?_) ?_) ?_
      · exact ri_mNumber hR
      · exact ri_mRow hR
      · exact ri_mCount hR
      · exact ri_mDigest hR
    have u1 : fMed G0 = fMed r := by rw [hG0]; simp only [qf_Med]
    have u2 : fTap G0 = fTap r := by rw [hG0]; simp only [qf_Tap]
    have u3 : fPar G0 = fPar r := by rw [hG0]; simp only [qf_Par]
    have u4 : fHd G0 = fHd r := by rw [hG0]; simp only [qf_Hd]
    have u5 : fLs G0 = fLs r := by rw [hG0]; simp only [qf_Ls]
    have u6 : g_Rmarks G0 = nI L.length := by rw [hG0]; simp only [qR_marks]; exact hMp
    have u7 : g_RmNumber G0 = ((g_RmNumber r).1, upd (g_RmNumber r).2 L.length (nI a)) := by rw [hG0]; simp only [qR_mNumber]
    have u8 : g_RmRow G0 = ((g_RmRow r).1, upd (g_RmRow r).2 L.length (nI w)) := by rw [hG0]; simp only [qR_mRow]
    have u9 : g_RmCount G0 = ((g_RmCount r).1, upd (g_RmCount r).2 L.length (nI c)) := by rw [hG0]; simp only [qR_mCount]
    have u10 : g_RmDigest G0 = ((g_RmDigest r).1, vp_updL (g_RmDigest r).2 L.length D) := by rw [hG0]; simp only [qR_mDigest]
    have u11 : g_RmPart G0 = g_RmPart r := by rw [hG0]; simp only [qR_mPart]
    obtain ⟨r', y1, y2, y3, y4, y5, y6, y7, y8, y9, y10, y11, y12, y13, y14, y15⟩ := R_lm_L (n := n) (f := t.1) (M := L.length) (c := c) (w := w) (a := a) (GP := GP) (GM := GM) hn.2 (by omega) hc12 hfit he hGP hGM ha2 c FU 0 G0 hRG0 (by rw [e_medium u1]; exact hf) u6 (by rw [u9]; show upd _ _ _ _ = _; unfold upd; rw [if_pos rfl]) ((e_lastMark u5).trans hN.2.2.2) ((e_lastPart u5).trans hN.2.1) (fun j hj => absurd hj (by omega)) (by omega) (FU_lt (by omega))
    have hq : ∀ k, k ≤ L.length → qrow r' k = if k = L.length then m else qrow r k := by
      intro k hkL
      rw [hmd]
      unfold qrow
      rw [y7, y8, y9, y10, u7, u8, u9, u10]
      simp only
      unfold upd vp_updL
      by_cases hkk : k = L.length
      · simp only [if_pos hkk]
        rw [mls_lst hc12]
        refine Prod.ext rfl (Prod.ext rfl (Prod.ext rfl (Prod.ext rfl ?_)))
        refine lst_congr (fun j hj => ?_)
        show (g_RmPart r').2 (12 * k + j) = nI (eN t.1 w j)
        rw [hkk]; exact y14 j hj
      · simp only [if_neg hkk]
        refine Prod.ext rfl (Prod.ext rfl (Prod.ext rfl (Prod.ext rfl ?_)))
        refine mls_congr (fun j hj => ?_)
        obtain ⟨ck, -, hck, ek⟩ := hTR.2.2.2.2 _ (MR_mem hTR.2 (show k < L.length by omega))
        have ek' : (g_RmCount r).2 k = nI ck := ek
        rw [ek', nI_clamp (by omega)] at hj
        rw [y15 _ (by omega), u11]
    have hMR : MR r' (L ++ [m]) := by
      refine ⟨?_, ?_, ?_, fun z hz => ?_⟩
      · rw [y11, List.length_append]; rfl
      · rw [List.length_append]
        show L.length + 1 ≤ 270
        omega
      · rw [List.length_append]
        show lst (qrow r') (L.length + 1) = _
        rw [lst_succ, hq L.length (Nat.le_refl _), if_pos rfl, lst_congr (g := qrow r) (fun k hk2 => by rw [hq k (by omega), if_neg (by omega)]), hTR.2.2.2.1]
      · rcases List.mem_append.mp hz with zz | zz
        · exact hTR.2.2.2.2 z zz
        · rcases List.mem_cons.mp zz with e | zz
          · rw [e, hmd]; exact ⟨c, hc1, hc12, rfl⟩
          · cases zz
    obtain ⟨g', hg'⟩ : ∃ g', g' = s_greatestMark (s_room (s_greatestPart (s_kept g (mfl x' p (fun k => nI (eN t.1 w k)) c)) (nI (mxE (eN t.1 w) GP c))) (n, setF (g_room g).2 w (1 + ent c) 1)) (nI (max GM a)) := ⟨_, rfl⟩
    refine ⟨g', r', lk', L ++ [m], mxE (eN t.1 w) GP c, max GM a, ?_, ?_, ⟨?_, y2, ?_, ?_, ⟨?_, ?_, ?_, ?_⟩, ⟨PR_fr (y5.trans u3) hTR.1, hMR⟩, ?_, ?_, ⟨?_, y13, ?_, y12⟩, ?_⟩, ⟨?_, ?_, ?_, y4.trans u2, y6.trans u4, ?_⟩⟩
    · rw [bs c1, hg']; exact runC
    · refine Eq.trans (if_neg (i0 _ (ri_mNumber hR))) ?_
      refine Eq.trans (if_neg (i0 _ (ri_mRow hR))) ?_
      refine Eq.trans (if_neg ia) ?_
      refine Eq.trans (if_neg (i0 _ (ri_mCount hR))) ?_
      refine Eq.trans (if_neg (i0 _ (ri_mDigest hR))) ?_
      rw [← hG0]
      exact y1
    · rw [hg']
      exact cs_greatestMark (cs_room (v := (n, setF (g_room g).2 w (1 + ent c) 1)) (cs_greatestPart (cs_kept hC ⟨_, d1.1.1⟩)) (kRm_set (ci_room hC).2 (Or.inr rfl)))
    · rw [hg']; simp only [q_medium]; exact hm
    · rw [rtri_fr (y3.trans u1)]; exact htr
    · rw [hg']; simp only [q_parts]; exact hTC.1
    · rw [hg']; simp only [q_kept]; exact d1
    · rw [hg']; simp only [q_made]; exact hTC.2.2.1
    · rw [hg']; simp only [q_room]
      refine BT_perm (l := (w, 1 + ent c) :: ivs lp lk) ?_ (BT_take hTC.2.2.2 _ _)
      refine List.Perm.trans ?_ (ivs_perm (List.Perm.refl lp) d2.symm)
      unfold ivs
      rw [List.map_cons, hmI]
      exact List.perm_middle.symm
    · exact (List.perm_append_singleton _ _).trans ((List.Perm.cons _ hL).trans d2.symm)
    · exact Abs_perm (List.Perm.refl _) d2.symm (List.Perm.refl _) hA'
    · rw [hg']; simp only [q_greatestPart]
    · rw [hg']; simp only [q_greatestMark]
    · intro i hi
      have hi2 := (ivs_perm (List.Perm.refl lp) d2).mem_iff.mp hi
      unfold ivs at hi2
      rw [List.map_cons, hmI] at hi2
      rcases List.mem_cons.mp (List.perm_middle.mem_iff.mp hi2) with e | hi3
      · rw [e]; exact Nat.le_refl _
      · have := hiv i hi3
        omega
    · rw [hg']; simp only [q_tape]
    · rw [hg']; simp only [q_owners]
    · rw [hg']; simp only [q_serial]
    · exact (e_open y3).trans (e_open u1)
  · have hk2 := hTC.2.1.1.1.2.2
    have hl2 := hTR.2.2.1
    refine ⟨g, r, lk, L, GP, GM, ?_, ?_, Sc_mono h (by omega), ScF.rf g r⟩
    · rw [bs z1, if_neg (nI_m1 (by omega)), bs (C_rowsOfMark (by omega))]
    · rw [bs z3, if_neg (nI_m1 (by omega))]
  · exact absurd hi (Nat.not_lt_zero _)
-- open
theorem op_L {n : Nat} {t : T3} (hn : 4 ≤ n ∧ n ≤ 512) : ∀ (d w fuel fuel' : Nat) (g : St_Log) (r : St_Ref) (lp : List PQ) (lk L : List MKQ) (GP GM : Nat), Sc n w t g r lp lk L GP GM → 2 ≤ w → n ≤ w + d → w ≤ 1024 → d < fuel → d < fuel' → ∃ g' r' lp' lk' L' GP' GM' w', m_Log_open__L12 fuel g (nI w) = some (nI lk'.length, s_isOpen g' 1) ∧ m_RRef_open__L31 fuel' r (nI w) = some (nI lk'.length, r') ∧ Sc n w' t g' r' lp' lk' L' GP' GM' ∧ ScF g g' r r' := by
  intro d
  induction d with
  | zero =>
    intro w fuel fuel' g r lp lk L GP GM h hw hd hw2 hf hf'
    obtain ⟨fu, rfl, -⟩ := fu1 hf
    obtain ⟨fv, rfl, -⟩ := fu1 hf'
    obtain ⟨hC, hR, hm, htr, hTC, hTR, hL, hA, hN, hiv⟩ := id h
    have hrw : m_Medium_rows (g_medium g) = some (nI n) := by rw [hm]; rfl
    have hsz : m_Marks_size (g_kept g) = some (nI lk.length) := by unfold m_Marks_size; rw [hTC.2.1.1.1.2.1]
    refine ⟨g, r, lp, lk, L, GP, GM, w, ?_, ?_, h, ScF.rf g r⟩
    · rw [m_Log_open__L12, bs hrw, if_pos (nI_le (by omega) (by omega)), bs hsz]
    · rw [m_RRef_open__L31, show g_Rrows r = nI n from ri_rows hR, if_pos (nI_le (by omega) (by omega)), hTR.2.1, hL.length_eq]
  | succ d ih =>
    intro w fuel fuel' g r lp lk L GP GM h hw hd hw2 hf hf'
    obtain ⟨fu, rfl, hfu⟩ := fu1 hf
    obtain ⟨fv, rfl, hfv⟩ := fu1 hf'
    obtain ⟨hC, hR, hm, htr, hTC, hTR, hL, hA, hN, hiv⟩ := id h
    have hrw : m_Medium_rows (g_medium g) = some (nI n) := by rw [hm]; rfl
    have hsz : m_Marks_size (g_kept g) = some (nI lk.length) := by unfold m_Marks_size; rw [hTC.2.1.1.1.2.1]
    have hf0 : (g_Rmedium r).2 = t.1 := by rw [← htr]; rfl
    by_cases hwn : n ≤ w
    · refine ⟨g, r, lp, lk, L, GP, GM, w, ?_, ?_, h, ScF.rf g r⟩
      · rw [m_Log_open__L12, bs hrw, if_pos (nI_le hwn (by omega)), bs hsz]
      · rw [m_RRef_open__L31, show g_Rrows r = nI n from ri_rows hR, if_pos (nI_le hwn (by omega)), hTR.2.1, hL.length_eq]
    · obtain ⟨l, hl0, hl⟩ := num2 t.1 (32 * w + 2)
      obtain ⟨b, hb0, hb⟩ := b255 (t.1 (32 * w + 1))
      rw [m_Log_open__L12, bs hrw, if_neg (nI_ge (by omega) (by omega)), m_RRef_open__L31, show g_Rrows r = nI n from ri_rows hR, if_neg (nI_ge (by omega) (by omega))]
      rcases part_cases hm hn hR hf0 (w := w) (by omega) hl0 hl hb0 hb with ⟨pt, p1, p2⟩ | ⟨p1, p2⟩
      · have hb5 : bod l ≤ 5 := by have := pt.2.1; unfold bod; omega
        obtain ⟨g', r', lp', GP', q1, q2, q3, q4⟩ := ln_part hn h ⟨hw, by omega⟩ hl hb pt
        obtain ⟨g'', r'', lp'', lk'', L'', GP'', GM'', w'', s1, s2, s3, s4⟩ := ih (w + (1 + bod l)) fu fv g' r' lp' lk L GP' GM q3 (by omega) (by omega) (by have := pt.2.2.2.2; omega) (by omega) (by omega)
        refine ⟨g'', r'', lp'', lk'', L'', GP'', GM'', w'', ?_, ?_, s3, q4.tr s4⟩
        · have lr : m_Log_learnRow g (nI w) = some (nI (1 + bod l), g') := by
            unfold m_Log_learnRow
            rw [bs p1, if_neg e10, bs q1]
          rw [bs lr]
          show m_Log_open__L12 fu g' (nI w + jmax 1 (nI (1 + bod l))) = _
          rw [n1, jmaxN (by omega) (by omega), Nat.max_eq_right (by omega), nI_add]
          exact s1
        · have hne : ¬ nI (1 + bod l) = 0 := nI_ne0 (by omega) (by omega)
          have hnl : ¬ nI (1 + bod l) ≤ 0 := nI_nle (by omega) (by omega)
          have ez : nI (1 + bod l) + 0 = nI (1 + bod l) := by rw [n0, nI_add]; rfl
          rw [bs p2, if_neg hne, if_neg hnl, bs q2, ez, if_neg hne, nI_add]
          exact s2
      · rcases mark_cases hm hn hR hf0 (w := w) (by omega) hb0 hb with ⟨mt, m1, m2⟩ | ⟨m1, m2⟩
        · have hb5 : ent b ≤ 6 := by have := mt.2.1; unfold ent; omega
          obtain ⟨g', r', lk', L', GP', GM', q1, q2, q3, q4⟩ := ln_mark hn h ⟨hw, by omega⟩ hb mt
          obtain ⟨g'', r'', lp'', lk'', L'', GP'', GM'', w'', s1, s2, s3, s4⟩ := ih (w + (1 + ent b)) fu fv g' r' lp lk' L' GP' GM' q3 (by omega) (by omega) (by have := mt.2.2.2.2.1; omega) (by omega) (by omega)
          refine ⟨g'', r'', lp'', lk'', L'', GP'', GM'', w'', ?_, ?_, s3, q4.tr s4⟩
          · have lr : m_Log_learnRow g (nI w) = some (nI (1 + ent b), g') := by
              unfold m_Log_learnRow
              rw [bs p1, if_pos rfl, bs m1, if_neg e10, bs q1]
            rw [bs lr]
            show m_Log_open__L12 fu g' (nI w + jmax 1 (nI (1 + ent b))) = _
            rw [n1, jmaxN (by omega) (by omega), Nat.max_eq_right (by omega), nI_add]
            exact s1
          · have hne : ¬ nI (1 + ent b) = 0 := nI_ne0 (by omega) (by omega)
            have hnl : ¬ nI (1 + ent b) ≤ 0 := nI_nle (by omega) (by omega)
            have ez : 0 + nI (1 + ent b) = nI (1 + ent b) := by
              rw [n0, nI_add, Nat.zero_add]
            rw [bs p2, if_pos rfl, bs m2, if_pos (Int32.le_refl _), if_neg hnl, bs q2, ez, if_neg hne, nI_add]
            exact s2
        · obtain ⟨g'', r'', lp'', lk'', L'', GP'', GM'', w'', s1, s2, s3, s4⟩ := ih (w + 1) fu fv g r lp lk L GP GM (Sc_mono h (by omega)) (by omega) (by omega) (by omega) (by omega) (by omega)
          refine ⟨g'', r'', lp'', lk'', L'', GP'', GM'', w'', ?_, ?_, s3, s4⟩
          · have lr : m_Log_learnRow g (nI w) = some (1, g) := by
              unfold m_Log_learnRow
              rw [bs p1, if_pos rfl, bs m1, if_pos rfl]
            rw [bs lr]
            show m_Log_open__L12 fu g (nI w + jmax 1 1) = _
            rw [show jmax 1 1 = nI 1 by decide +kernel, nI_add]
            exact s1
          · rw [bs p2, if_pos rfl, bs m2, if_pos (Int32.le_refl _), if_pos (Int32.le_refl _), if_pos (by decide), nI_1]
            exact s2
theorem Abs_nil (n : Nat) : Abs n [] [] [] 0 0 := ⟨fun q hq => (by cases hq), fun q hq => (by cases hq), fun q hq => (by cases hq), ⟨fun i hi => (by cases hi), List.Pairwise.nil⟩, List.Pairwise.nil, by omega, by omega⟩
theorem st_open {n : Nat} {g : St_Log} {r : St_Ref} (h : Rel n g r) : ∃ a g' r', m_Log_open_ g = some (a, g') ∧ m_RRef_open_ r = some (a, r') ∧ Rel n g' r' := by
  obtain ⟨⟨hn, hC, hR, ht, ho, hts⟩, hT⟩ := id h
  obtain ⟨x1, x2, x3, x4, f1, f2, f3, f4, f5, f6⟩ := C_forget hC hn
  obtain ⟨t, htd⟩ : ∃ t, t = tri (g_medium g) := ⟨_, rfl⟩
  obtain ⟨G1, hG1⟩ : ∃ G1, G1 = s_greatestMark (s_greatestPart (s_room (s_made (s_kept (s_parts g x1) x2) x3) x4) 0) 0 := ⟨_, rfl⟩
  have hCG1 : CI n G1 := by
    rw [hG1]
    exact cs_greatestMark (cs_greatestPart (cs_room (cs_made (cs_kept (cs_parts hC ⟨_, f2.1.l⟩) ⟨_, f3.1.1⟩) ⟨_, f4.1.1⟩) f6))
  have m1 : g_medium G1 = mk3 n t := by rw [hG1]; simp only [q_medium]; rw [htd]; exact g_mk3 hC
  have rh := C_readHeads hCG1 m1 hn
  obtain ⟨R1, hR1⟩ : ∃ R1, R1 = s_RlastMark (s_RlastPart (s_Rmarks (s_Rparts (s_Ropen r 1) 0) 0) 0) 0 := ⟨_, rfl⟩
  have hRR1 : RI n R1 := by
    rw [hR1]
    refine rs_lastMark (rs_lastPart (rs_marks (rs_parts (rs_open hR ?_) ?_) ?_))
    · exact Or.inr rfl
    · exact ⟨0, by omega, n0⟩
    · exact ⟨0, by omega, n0⟩
  have tr1 : rtri R1 = t := by
    rw [hR1, htd, ht]
    simp only [rtri, qR_medium, qR_cutIn, qR_written]
  have hf1 : (g_Rmedium R1).2 = t.1 := by rw [← tr1]; rfl
  have hh := R_heads hRR1 hf1
  obtain ⟨S, hS1, hS2⟩ := hdS_ok t.1
  have o1 : g_owners G1 = g_owners g := by rw [hG1]; simp only [q_owners]
  have o2 : g_Rowners R1 = g_Rowners r := by rw [hR1]; simp only [qR_owners]
  have how : ow8 t.1 (g_Rowners R1).2 = ow8 t.1 (g_owners G1).2 := by
    funext i
    unfold ow8
    by_cases hi : 0 ≤ i ∧ i < 8
    · rw [if_pos hi, if_pos hi]
    · rw [if_neg hi, if_neg hi, (ri_owners hRR1).2 i (by omega), (ci_owners hCG1).2 i (by omega)]
  have hkO : kOw (8, ow8 t.1 (g_owners G1).2) := by
    refine ⟨rfl, fun j hj => ?_⟩
    show ow8 t.1 (g_owners G1).2 j = 0
    unfold ow8
    rw [if_neg (by omega)]
    exact (ci_owners hCG1).2 j hj
  obtain ⟨G2, hG2⟩ : ∃ G2, G2 = s_owners (s_serial G1 (hdS t.1)) (8, ow8 t.1 (g_owners G1).2) := ⟨_, rfl⟩
  obtain ⟨R2, hR2⟩ : ∃ R2, R2 = s_Rowners (s_Rserial R1 (hdS t.1)) (8, ow8 t.1 (g_owners G1).2) := ⟨_, rfl⟩
  rw [how, ← hR2] at hh
  rw [← hG2] at rh
  have hCG2 : CI n G2 := by rw [hG2]; exact cs_owners (cs_serial hCG1) hkO
  have hRR2 : RI n R2 := by rw [hR2]; exact rs_owners (rs_serial hRR1) hkO
  have hSc : Sc n 2 t G2 R2 [] [] [] 0 0 := by
    refine ⟨hCG2, hRR2, ?_, ?_, ⟨?_, ?_, ?_, ?_⟩, ⟨⟨⟨⟨?_, ?_, ?_, ?_, ?_⟩, ?_, ?_⟩, ?_, ?_⟩, ⟨?_, ?_, ?_, ?_⟩⟩, List.Perm.refl _, Abs_nil n, ⟨?_, ?_, ?_, ?_⟩, fun i hi => (by cases hi)⟩
    · rw [hG2]; simp only [q_medium]; exact m1
    · rw [hR2]; simp only [rtri, qR_medium, qR_cutIn, qR_written]; exact tr1
    · rw [hG2, hG1]; simp only [q_parts]; exact f2
    · rw [hG2, hG1]; simp only [q_kept]; exact f3
    · rw [hG2, hG1]; simp only [q_made]; exact f4
    · rw [hG2, hG1]; simp only [q_room]; exact f5
    · exact ri_pNumber hRR2
    · exact ri_pGroup hRR2
    · exact ri_pPosition hRR2
    · exact ri_pLength hRR2
    · exact ri_pRow hRR2
    · rw [hR2, hR1]; simp only [qR_parts]; exact n0
    · exact Nat.zero_le _
    · intro q
      exact ⟨fun hq => (by cases hq), fun ⟨k, hk, _⟩ => absurd hk (Nat.not_lt_zero _)⟩
    · intro i j hi
      exact absurd hi (Nat.not_lt_zero _)
    · rw [hR2, hR1]; simp only [qR_marks]; exact n0
    · exact Nat.zero_le _
    · rfl
    · intro m hm
      cases hm
    · rw [hG2, hG1]; simp only [q_greatestPart]; exact n0
    · rw [hR2, hR1]; simp only [qR_lastPart]; exact n0
    · rw [hG2, hG1]; simp only [q_greatestMark]; exact n0
    · rw [hR2, hR1]; simp only [qR_lastMark]; exact n0
  obtain ⟨g', r', lp', lk', L', GP', GM', w', s1, s2, s3, s4⟩ := op_L hn 510 2 FU FU G2 R2 [] [] [] 0 0 hSc (by omega) (by omega) (by omega) (FU_lt (by omega)) (FU_lt (by omega))
  obtain ⟨cC, cR, cm, ctr, cTC, cTR, cL, cA, cN, -⟩ := s3
  obtain ⟨e1, e2, e3, e4, e5, e6⟩ := s4
  have ope : g_Ropen R2 = 1 := by rw [hR2, hR1]; simp only [qR_open]
  have tg : g_tape G2 = g_tape g := by rw [hG2, hG1]; simp only [q_tape]
  have trr : fTap R2 = fTap r := by rw [hR2, hR1]; simp only [qf_Tap]
  refine ⟨nI lk'.length, s_isOpen g' 1, r', ?_, ?_, ⟨hn, cs_isOpen cC (Or.inr rfl), cR, ?_, ?_, ?_⟩, fun _ => ⟨lp', lk', [], L', GP', GM', ⟨?_, ?_, ?_, ?_⟩, cTR, ?_, cA, ⟨?_, cN.2.1, ?_, cN.2.2.2⟩, ⟨ow8 t.1 (g_owners G1).2, S, ?_, ?_, ?_, ?_, hS1, ?_⟩⟩⟩
  · unfold m_Log_open_
    rw [← hG1] at f1
    rw [bs f1, bs rh]
    exact s1
  · unfold m_RRef_open_
    rw [← hR1, bs hh]
    exact s2
  · simp only [q_medium]; rw [cm, ctr]; rfl
  · simp only [q_isOpen]; rw [e6, ope]
  · simp only [q_tape]
    rw [e1, tg, e_tape (e4.trans trr), e_taped (e4.trans trr)]
    exact hts
  · simp only [q_parts]; exact cTC.1
  · simp only [q_kept]; exact cTC.2.1
  · simp only [q_made]; exact cTC.2.2.1
  · simp only [q_room]; exact cTC.2.2.2
  · rw [List.append_nil]; exact cL
  · simp only [q_greatestPart]; exact cN.1
  · simp only [q_greatestMark]; exact cN.2.2.1
  · simp only [q_owners]; rw [e2, hG2]; simp only [q_owners]
  · rw [e_owners e5, hR2]; simp only [qR_owners]
  · simp only [q_serial]; rw [e3, hG2]; simp only [q_serial]; exact hS2
  · rw [e_serial e5, hR2]; simp only [qR_serial]; exact hS2
  · intro j hj
    unfold ow8
    rw [if_pos (by omega)]
    exact hdO_ok t.1 j
