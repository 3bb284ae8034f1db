-- THE START, THE LAW'S STEPS
theorem Rel_0 {n : Nat} (h4 : 4 ≤ n) (h5 : n ≤ 512) : Rel n (G0 n) (R0 n) := by
  have b0 : ∀ N, BBe N ((N, fun _ => 0), 0) := fun N => ⟨0, rfl, n0, Nat.zero_le _, fun _ _ => rfl⟩
  have hPL : PS n ((n, fun _ => 0), (n, fun _ => 0), (n, fun _ => 0), (n, fun _ => 0), (n, fun _ => 0), 0) 0 := ⟨⟨rfl, rfl, rfl, rfl, rfl⟩, n0, Nat.zero_le _, h5, fun i j _ hj => absurd hj (by omega)⟩
  have hMS : ∀ N : Nat, N ≤ 256 → MS N ((N, fun _ => 0), (N, fun _ => 0), (N, fun _ => 0), (N * 12, fun _ => 0), (N, fun _ => 0), 0) 0 := fun N hN => ⟨⟨⟨rfl, rfl, rfl, rfl, rfl⟩, n0, Nat.zero_le _, hN, fun k _ => ⟨0, by omega, n0⟩⟩, fun i j _ hj => absurd hj (by omega)⟩
  have pw : Pw (-1) := Pw_of (by decide) (by decide)
  have hC : CI n (G0 n) := ⟨⟨⟨rfl, rfl, h4, h5⟩, pw, fun _ => By0⟩, ⟨b0 2000, fun _ => By0⟩, b0 224, b0 2002, b0 2002, ⟨rfl, fun _ => Or.inl rfl⟩, rfl, ⟨0, hPL.l⟩, ⟨0, (hMS (n / 2) (by omega)).1⟩, ⟨0, (hMS 6 (by omega)).1⟩, ⟨rfl, fun _ _ => rfl⟩, Or.inr rfl⟩
  have hR : RI n (R0 n) := ⟨⟨rfl, fun _ => By0⟩, rfl, Or.inr rfl, pw, ⟨rfl, fun _ => By0⟩, ⟨0, by omega, n0⟩, rfl, rfl, rfl, rfl, rfl, ⟨0, by omega, n0⟩, rfl, rfl, rfl, rfl, rfl, rfl, rfl, ⟨0, by omega, n0⟩, ⟨rfl, fun _ _ => rfl⟩, rfl, ⟨rfl, fun _ _ => rfl⟩, rfl, rfl⟩
  refine ⟨⟨⟨h4, h5⟩, hC, hR, rfl, rfl, 0, BB0, n0, fun j hj => absurd hj (by omega)⟩, fun _ => ⟨[], [], [], [], 0, 0, ⟨⟨hPL, rfl⟩, ⟨hMS (n / 2) (by omega), rfl⟩, ⟨hMS 6 (by omega), rfl⟩, rfl, fun j _ _ => ⟨fun _ => rfl, fun _ => rfl⟩⟩, ⟨⟨⟨⟨rfl, rfl, rfl, rfl, rfl⟩, n0, by show 0 ≤ 520; omega⟩, fun q => ⟨fun hq => (by cases hq), fun ⟨k, hk, _⟩ => absurd hk (Nat.not_lt_zero _)⟩, fun i j hi => absurd hi (Nat.not_lt_zero _)⟩, n0, by show 0 ≤ 270; omega, rfl, fun m hm => (by cases hm)⟩, List.Perm.refl _, ?_, ⟨n0, n0, n0, n0⟩, ?_⟩⟩
  · refine ⟨fun q hq => (by cases hq), fun q hq => (by cases hq), fun q hq => (by cases hq), ⟨fun i hi => (by cases hi), List.Pairwise.nil⟩, List.Pairwise.nil, by omega, by omega⟩
  · exact ⟨fun _ => 0, 0, rfl, rfl, n0, n0, by omega, fun j _ => ⟨0, by omega, n0⟩⟩
theorem lw_stop {L i : Nat} (hL : L ≤ 2049) (hi : i ≤ 3000) (h : L ≤ i + 3) : Int32.ofNat L - 4 < nI i := by
  show nI L - 4 < nI i
  rw [n4]
  by_cases h4 : L < 4
  · exact Int32.lt_of_lt_of_le (nsub_neg (by omega) h4) (Int32.not_lt.mp (nI_pos (by omega)))
  · rw [pk_sub (by omega)]
    exact nI_lt (by omega) (by omega)
theorem lw_go {L i : Nat} (hL : L ≤ 2049) (h : i + 4 ≤ L) : ¬ (Int32.ofNat L - 4 < nI i) := by
  show ¬ (nI L - 4 < nI i)
  rw [n4, pk_sub (by omega)]
  exact nI_nlt (by omega) (by omega)
theorem lw_in {L i k : Nat} {v : Int32} (hL : L ≤ 2049) (h : i + k < L) (hv : v = nI k) : ¬ (nI i + v < 0 ∨ L ≤ (nI i + v).toNatClampNeg) := by
  rw [hv, nI_add]
  exact nI_in (by omega) (by omega)
