/-! caravan -/
theorem car43_eq (x1 x2 x3 x4 x5 x6 x7 s0 : Int32) (σ : PS) : fX8_caravan_43 x1 x2 x3 x4 x5 x6 x7 s0 σ = fX8_caravan_89 x1 x2 x3 x4 x5 x6 x7 s0 (tv ((0 ≤ x4 ∧ x4 ≤ gi σ 3 0 - 1) ∧ (0 ≤ x5 ∧ x5 ≤ gi σ 3 0 - 1) ∧ ¬ x4 = x5 ∧ (0 ≤ x6 ∧ x6 ≤ 59))) σ := by
  unfold fX8_caravan_43 fX8_caravan_88
  rw [hasInn_eq]
  simp only [Option.bind_some]
  rw [ite_tv]
  by_cases h1 : 0 ≤ x4 ∧ x4 ≤ gi σ 3 0 - 1
  rotate_left
  · rw [if_neg h1, show tv ((0 ≤ x4 ∧ x4 ≤ gi σ 3 0 - 1) ∧ (0 ≤ x5 ∧ x5 ≤ gi σ 3 0 - 1) ∧ ¬ x4 = x5 ∧ (0 ≤ x6 ∧ x6 ≤ 59)) = 0 from tv_0.mpr (fun q => h1 q.1)]
  rw [if_pos h1, hasInn_eq]
  simp only [Option.bind_some]
  rw [ite_tv]
  by_cases h2 : 0 ≤ x5 ∧ x5 ≤ gi σ 3 0 - 1
  rotate_left
  · rw [if_neg h2, show tv ((0 ≤ x4 ∧ x4 ≤ gi σ 3 0 - 1) ∧ (0 ≤ x5 ∧ x5 ≤ gi σ 3 0 - 1) ∧ ¬ x4 = x5 ∧ (0 ≤ x6 ∧ x6 ≤ 59)) = 0 from tv_0.mpr (fun q => h2 q.2.1)]
  rw [if_pos h2]
  by_cases h3 : x4 = x5
  · rw [if_pos h3, show tv ((0 ≤ x4 ∧ x4 ≤ gi σ 3 0 - 1) ∧ (0 ≤ x5 ∧ x5 ≤ gi σ 3 0 - 1) ∧ ¬ x4 = x5 ∧ (0 ≤ x6 ∧ x6 ≤ 59)) = 0 from tv_0.mpr (fun q => q.2.2.1 h3)]
  rw [if_neg h3, isDay_eq]
  simp only [Option.bind_some]
  rw [ite_tv]
  by_cases h4 : 0 ≤ x6 ∧ x6 ≤ 59
  · rw [if_pos h4]
    unfold tv
    rw [if_pos ⟨h1, h2, h3, h4⟩]
  · rw [if_neg h4, show tv ((0 ≤ x4 ∧ x4 ≤ gi σ 3 0 - 1) ∧ (0 ≤ x5 ∧ x5 ≤ gi σ 3 0 - 1) ∧ ¬ x4 = x5 ∧ (0 ≤ x6 ∧ x6 ≤ 59)) = 0 from tv_0.mpr (fun q => h4 q.2.2.2)]
theorem car_eq (x1 x2 x3 x4 x5 x6 : Int32) (σ : PS) : fX8_caravan x1 x2 x3 x4 x5 x6 σ = fX8_caravan_89 x1 x2 x3 x4 x5 x6 (gi σ 3 6) (tv ((0 ≤ x1 ∧ x1 ≤ 3) ∧ (1 ≤ x2 ∧ x2 ≤ 30) ∧ (1 ≤ x3 ∧ x3 ≤ 9))) (tv ((0 ≤ x4 ∧ x4 ≤ gi σ 3 0 - 1) ∧ (0 ≤ x5 ∧ x5 ≤ gi σ 3 0 - 1) ∧ ¬ x4 = x5 ∧ (0 ≤ x6 ∧ x6 ≤ 59))) σ := by
  unfold fX8_caravan fX8_caravan_42
  rw [isWithin_eq]
  simp only [Option.bind_some]
  rw [ite_tv]
  by_cases h1 : 0 ≤ x1 ∧ x1 ≤ 3
  rotate_left
  · rw [if_neg h1, car43_eq, show tv ((0 ≤ x1 ∧ x1 ≤ 3) ∧ (1 ≤ x2 ∧ x2 ≤ 30) ∧ (1 ≤ x3 ∧ x3 ≤ 9)) = 0 from tv_0.mpr (fun q => h1 q.1)]
  rw [if_pos h1, isWithin_eq]
  simp only [Option.bind_some]
  rw [ite_tv]
  by_cases h2 : 1 ≤ x2 ∧ x2 ≤ 30
  rotate_left
  · rw [if_neg h2, car43_eq, show tv ((0 ≤ x1 ∧ x1 ≤ 3) ∧ (1 ≤ x2 ∧ x2 ≤ 30) ∧ (1 ≤ x3 ∧ x3 ≤ 9)) = 0 from tv_0.mpr (fun q => h2 q.2.1)]
  rw [if_pos h2, isWithin_eq]
  simp only [Option.bind_some]
  rw [ite_tv]
  by_cases h3 : 1 ≤ x3 ∧ x3 ≤ 9
  · rw [if_pos h3, car43_eq]
    unfold tv
    rw [if_pos (show (0 ≤ x1 ∧ x1 ≤ 3) ∧ (1 ≤ x2 ∧ x2 ≤ 30) ∧ (1 ≤ x3 ∧ x3 ≤ 9) from ⟨h1, h2, h3⟩)]
  · rw [if_neg h3, car43_eq, show tv ((0 ≤ x1 ∧ x1 ≤ 3) ∧ (1 ≤ x2 ∧ x2 ≤ 30) ∧ (1 ≤ x3 ∧ x3 ≤ 9)) = 0 from tv_0.mpr (fun q => h3 q.2.2)]
theorem op_caravan (x1 x2 x3 x4 x5 x6 : Int32) : OPS (fX8_caravan x1 x2 x3 x4 x5 x6) (fX9_caravan x1 x2 x3 x4 x5 x6) := by
  rintro σ ⟨n, a, c, b, f, s, l, h⟩
  have h0 := h
  have hI : Inv σ := ⟨n, a, c, b, f, s, l, h⟩
  obtain ⟨-, -, ⟨⟨L1, L2, L3, L4, L5, L6⟩, ⟨⟨X1, X2⟩, X3, X4⟩, ⟨B1, B2, B3, B4, B5⟩, Z1, Z2⟩, -⟩ := h
  rw [L3] at X1
  rw [L4] at X2
  rw [car_eq, L3, L4]
  unfold fX8_caravan_89
  have mi : ∀ (x : Int32) (τ : PS), gi τ 132 38 = nI a → fX9_isInn x τ = some (tv (0 ≤ x ∧ x ≤ nI a - 1), τ) := fun x τ ht => by rw [mInn_eq x τ ht (by omega), ht]
  by_cases q0 : 6 ≤ c
  · rw [if_pos (l_le (k := 6) (by rfl) q0 (by omega))]
    refine hO_pr rfl ?_
    unfold fX9_caravan
    rw [X2, if_pos ((eq_full (x := 6) (N := 6) rfl L2 (by decide)).mpr q0)]
    exact ⟨_, rfl, rfl, hI⟩
  have r0 : ¬ nI c = 6 := fun q => q0 ((eq_full (x := 6) (N := 6) rfl L2 (by decide)).mp q)
  rw [if_neg (l_nle (k := 6) (by rfl) (by omega) (by decide)), ite_tv, ite_tv]
  by_cases q1 : 0 ≤ x1 ∧ x1 ≤ 3
  rotate_left
  · rw [if_neg (fun q => q1 q.1)]
    refine hO_pr rfl ?_
    unfold fX9_caravan
    rw [X2, if_neg r0, rng_neg q1]
    exact ⟨_, rfl, rfl, hI⟩
  by_cases q2 : 1 ≤ x2 ∧ x2 ≤ 30
  rotate_left
  · rw [if_neg (fun q => q2 q.2.1)]
    refine hO_pr rfl ?_
    unfold fX9_caravan
    rw [X2, if_neg r0, rng_pos q1, rng_neg q2]
    exact ⟨_, rfl, rfl, hI⟩
  by_cases q3 : 1 ≤ x3 ∧ x3 ≤ 9
  rotate_left
  · rw [if_neg (fun q => q3 q.2.2)]
    refine hO_pr rfl ?_
    unfold fX9_caravan
    rw [X2, if_neg r0, rng_pos q1, rng_pos q2, rng_neg q3]
    exact ⟨_, rfl, rfl, hI⟩
  rw [if_pos ⟨q1, q2, q3⟩]
  by_cases q4 : 0 ≤ x4 ∧ x4 ≤ nI a - 1
  rotate_left
  · rw [if_neg (fun q => q4 q.1)]
    refine hO_pr rfl ?_
    unfold fX9_caravan
    rw [X2, if_neg r0, rng_pos q1, rng_pos q2, rng_pos q3, mi x4 σ X1]
    simp only [Option.bind_some]
    rw [ite_tv, if_neg q4]
    exact ⟨_, rfl, rfl, hI⟩
  by_cases q5 : 0 ≤ x5 ∧ x5 ≤ nI a - 1
  rotate_left
  · rw [if_neg (fun q => q5 q.2.1)]
    refine hO_pr rfl ?_
    unfold fX9_caravan
    rw [X2, if_neg r0, rng_pos q1, rng_pos q2, rng_pos q3, mi x4 σ X1]
    simp only [Option.bind_some]
    rw [ite_tv, if_pos q4, mi x5 σ X1]
    simp only [Option.bind_some]
    rw [ite_tv, if_neg q5]
    exact ⟨_, rfl, rfl, hI⟩
  by_cases q6 : x4 = x5
  · rw [if_neg (fun q => q.2.2.1 q6)]
    refine hO_pr rfl ?_
    unfold fX9_caravan
    rw [X2, if_neg r0, rng_pos q1, rng_pos q2, rng_pos q3, mi x4 σ X1]
    simp only [Option.bind_some]
    rw [ite_tv, if_pos q4, mi x5 σ X1]
    simp only [Option.bind_some]
    rw [ite_tv, if_pos q5, if_pos q6]
    exact ⟨_, rfl, rfl, hI⟩
  by_cases q7 : 0 ≤ x6 ∧ x6 ≤ 59
  rotate_left
  · rw [if_neg (fun q => q7 q.2.2.2)]
    refine hO_pr rfl ?_
    unfold fX9_caravan
    rw [X2, if_neg r0, rng_pos q1, rng_pos q2, rng_pos q3, mi x4 σ X1]
    simp only [Option.bind_some]
    rw [ite_tv, if_pos q4, mi x5 σ X1]
    simp only [Option.bind_some]
    rw [ite_tv, if_pos q5, if_neg q6, mDay_eq]
    simp only [Option.bind_some]
    rw [ite_tv, if_neg q7]
    exact ⟨_, rfl, rfl, hI⟩
  rw [if_pos ⟨q4, q5, q6, q7⟩]
  have g6 : inb (nI c) 6 = true := inb_nI (by omega) (by decide)
  have cc : (nI c).toNatClampNeg = c := nI_clamp (by omega)
  simp only [gd_t g6, forget_eq, Option.bind_some, cc, nI_1]
  refine hO_pr rfl ?_
  generalize hσ1 : sI (sI (sI (sI (sI (sI (sI (sI σ 17 c x1) 18 c x2) 19 c x3) 20 c x4) 21 c x5) 22 c x6) 3 6 (nI (c + 1))) 41 13 (-1) = σ1
  have s1 : ∀ k j, k ≠ 41 → k ≠ 3 → ¬ (17 ≤ k ∧ k ≤ 22) → gi σ1 k j = gi σ k j := fun k j a1 a2 a3 => by rw [← hσ1, gi_ne a1, gi_ne a2, gi_ne (by omega), gi_ne (by omega), gi_ne (by omega), gi_ne (by omega), gi_ne (by omega), gi_ne (by omega)]
  have s44 : gi σ1 132 44 = nI c := by rw [s1 _ _ (by decide) (by decide) (by decide)]; exact X2
  have s38 : gi σ1 132 38 = nI a := by rw [s1 _ _ (by decide) (by decide) (by decide)]; exact X1
  unfold fX9_caravan
  rw [if_neg (by rw [s44]; exact r0), rng_pos q1, rng_pos q2, rng_pos q3, mi x4 σ1 s38]
  simp only [Option.bind_some]
  rw [ite_tv, if_pos q4, mi x5 σ1 s38]
  simp only [Option.bind_some]
  rw [ite_tv, if_pos q5, if_neg q6, mDay_eq]
  simp only [Option.bind_some]
  rw [ite_tv, if_pos q7]
  simp (disch := decide) only [gi_ne]
  simp only [s44, gd_t g6, cc, nI_1]
  rw [gi_nj (by decide), gi_eq, nI_pred]
  refine ⟨_, rfl, rfl, n, a, c + 1, b, f, s, l, ?_⟩
  simp only
  generalize hτ : sI (sI (sI (sI (sI (sI (sI (sI (sI σ1 161 c x1) 162 c x2) 163 c x3) 164 c x4) 165 c x5) 166 c x6) 167 c 0) 132 44 (nI (c + 1))) 132 58 (-1) = τ
  have t1 : ∀ k j, ¬ (161 ≤ k ∧ k ≤ 167) → k ≠ 132 → gi τ k j = gi σ1 k j := fun k j a1 a2 => by rw [← hτ, gi_ne a2, gi_ne a2, gi_ne (by omega), gi_ne (by omega), gi_ne (by omega), gi_ne (by omega), gi_ne (by omega), gi_ne (by omega), gi_ne (by omega)]
  have to : ∀ k j, ¬ (161 ≤ k ∧ k ≤ 167) → k ≠ 132 → k ≠ 41 → k ≠ 3 → ¬ (17 ≤ k ∧ k ≤ 22) → gi τ k j = gi σ k j := fun k j a1 a2 a3 a4 a5 => by rw [t1 k j a1 a2, s1 k j a3 a4 a5]
  have t132 : ∀ j, j ≠ 58 → j ≠ 44 → gi τ 132 j = gi σ 132 j := fun j h1 h2 => by
    rw [← hτ, gi_nj h1, gi_nj h2]
    simp (disch := decide) only [gi_ne]
    exact s1 _ _ (by decide) (by decide) (by decide)
  have t58 : gi τ 132 58 = -1 := by rw [← hτ, gi_eq]
  have t44 : gi τ 132 44 = nI (c + 1) := by rw [← hτ, gi_nj (by decide), gi_eq]
  have t41 : gi τ 41 13 = -1 := by rw [t1 _ _ (by decide) (by decide), ← hσ1, gi_eq]
  have t36 : gi τ 3 6 = nI (c + 1) := by rw [t1 _ _ (by decide) (by decide), ← hσ1, gi_ne (by decide), gi_eq]
  have t3 : ∀ j, j ≠ 6 → gi τ 3 j = gi σ 3 j := fun j hj => by
    rw [t1 _ _ (by decide) (by decide), ← hσ1, gi_ne (by decide), gi_nj hj]
    simp (disch := decide) only [gi_ne]
  have t17 : ∀ j, gi τ 17 j = if j = c then x1 else gi σ 17 j := fun j => by rw [t1 _ _ (by decide) (by decide), ← hσ1]; simp (disch := decide) only [gi_ne, gi_k]
  have t18 : ∀ j, gi τ 18 j = if j = c then x2 else gi σ 18 j := fun j => by rw [t1 _ _ (by decide) (by decide), ← hσ1]; simp (disch := decide) only [gi_ne, gi_k]
  have t19 : ∀ j, gi τ 19 j = if j = c then x3 else gi σ 19 j := fun j => by rw [t1 _ _ (by decide) (by decide), ← hσ1]; simp (disch := decide) only [gi_ne, gi_k]
  have t20 : ∀ j, gi τ 20 j = if j = c then x4 else gi σ 20 j := fun j => by rw [t1 _ _ (by decide) (by decide), ← hσ1]; simp (disch := decide) only [gi_ne, gi_k]
  have t21 : ∀ j, gi τ 21 j = if j = c then x5 else gi σ 21 j := fun j => by rw [t1 _ _ (by decide) (by decide), ← hσ1]; simp (disch := decide) only [gi_ne, gi_k]
  have t22 : ∀ j, gi τ 22 j = if j = c then x6 else gi σ 22 j := fun j => by rw [t1 _ _ (by decide) (by decide), ← hσ1]; simp (disch := decide) only [gi_ne, gi_k]
  have sx : ∀ k j, 160 ≤ k → gi σ1 k j = gi σ k j := fun k j _ => s1 k j (by omega) (by omega) (by omega)
  have t161 : ∀ j, gi τ 161 j = if j = c then x1 else gi σ 161 j := fun j => by rw [← hτ]; simp (disch := decide) only [gi_ne, gi_k, sx]
  have t162 : ∀ j, gi τ 162 j = if j = c then x2 else gi σ 162 j := fun j => by rw [← hτ]; simp (disch := decide) only [gi_ne, gi_k, sx]
  have t163 : ∀ j, gi τ 163 j = if j = c then x3 else gi σ 163 j := fun j => by rw [← hτ]; simp (disch := decide) only [gi_ne, gi_k, sx]
  have t164 : ∀ j, gi τ 164 j = if j = c then x4 else gi σ 164 j := fun j => by rw [← hτ]; simp (disch := decide) only [gi_ne, gi_k, sx]
  have t165 : ∀ j, gi τ 165 j = if j = c then x5 else gi σ 165 j := fun j => by rw [← hτ]; simp (disch := decide) only [gi_ne, gi_k, sx]
  have t166 : ∀ j, gi τ 166 j = if j = c then x6 else gi σ 166 j := fun j => by rw [← hτ]; simp (disch := decide) only [gi_ne, gi_k, sx]
  have t167 : ∀ j, gi τ 167 j = if j = c then 0 else gi σ 167 j := fun j => by rw [← hτ]; simp (disch := decide) only [gi_ne, gi_k, sx]
  have to' : ∀ k j, (4 ≤ k ∧ k ≤ 16) ∨ k = 23 ∨ k = 24 → gi τ k j = gi σ k j := fun k j _ => to k j (by omega) (by omega) (by omega) (by omega) (by omega)
  have to2 : ∀ k j, (156 ≤ k ∧ k ≤ 160) ∨ k = 168 → gi τ k j = gi σ k j := fun k j _ => to k j (by omega) (by omega) (by omega) (by omega) (by omega)
  have i1 := (isN_of (l := 0) (h := 3) (lo := 0) (hi := 3) rfl rfl (by decide) (by decide)).mp q1
  have i2 := (isN_of (l := 1) (h := 30) (lo := 1) (hi := 30) rfl rfl (by decide) (by decide)).mp q2
  have i3 := (isN_of (l := 1) (h := 9) (lo := 1) (hi := 9) rfl rfl (by decide) (by decide)).mp q3
  have i6 := (isN_of (l := 0) (h := 59) (lo := 0) (hi := 59) rfl rfl (by decide) (by decide)).mp q7
  obtain ⟨ff, e4, hff⟩ := (isN_lt (by omega)).mp q4
  obtain ⟨tt, e5, htt⟩ := (isN_lt (by omega)).mp q5
  refine IV_land h0 ⟨⟨L1, by omega, by rw [t3 _ (by decide)]; exact L3, t36, fun i' hi' => ?_, fun c' hc' => ?_⟩, ⟨⟨by rw [t132 _ (by decide) (by decide), t3 _ (by decide), X1, L3], by rw [t44, t36]⟩, fun j => ?_, fun i' hi' r hr => by rw [to2 _ _ (by omega), to' _ _ (by omega)]; exact X4 i' hi' r hr⟩, ⟨B1, by rw [t3 _ (by decide)]; exact B2, by rw [t132 _ (by decide) (by decide)]; exact B3, fun j => by rw [to2 _ _ (by omega), to' _ _ (by omega)]; exact B4 j, fun j hj => ?_⟩, fun j hj => by rw [to' _ _ (by omega)]; exact Z1 j (by omega), fun i' hi' => by rw [to' _ _ (by omega)]; exact Z2 i' hi'⟩ (by rw [← hτ, ← hσ1]; rfl) (by rw [← hτ, ← hσ1]; rfl) (fun k j g1 g2 g3 g4 => ?_) t41 t58
  · rw [to' 4 _ (by omega), to' 5 _ (by omega), to' 6 _ (by omega), to' 7 _ (by omega)]
    obtain ⟨w1, w2, w3, w4, w5⟩ := L5 i' hi'
    exact ⟨w1, w2, w3, w4, fun r hr => by rw [to' _ _ (by omega)]; exact w5 r hr⟩
  · rw [t17, t18, t19, t20, t21, t22]
    by_cases hcc : c' = c
    · rw [if_pos hcc, if_pos hcc, if_pos hcc, if_pos hcc, if_pos hcc, if_pos hcc]
      exact ⟨i1, i2, i3, ⟨ff, tt, e4, e5, hff, htt, fun q => q6 (by rw [e4, e5, q])⟩, i6⟩
    · rw [if_neg hcc, if_neg hcc, if_neg hcc, if_neg hcc, if_neg hcc, if_neg hcc]
      exact L6 c' (by omega)
  · rw [to2 156 _ (by omega), to2 157 _ (by omega), to2 158 _ (by omega), to2 159 _ (by omega), t161, t162, t163, t164, t165, t166, t167, to' 4 _ (by omega), to' 5 _ (by omega), to' 6 _ (by omega), to' 7 _ (by omega), t17, t18, t19, t20, t21, t22, to' 23 _ (by omega)]
    obtain ⟨w1, w2, w3, w4, w5, w6, w7, w8, w9, w10, w11⟩ := X3 j
    rw [w5, w6, w7, w8, w9, w10, w11]
    refine ⟨w1, w2, w3, w4, rfl, rfl, rfl, rfl, rfl, rfl, ?_⟩
    by_cases hjc : j = c
    · rw [if_pos hjc, hjc, Z1 c (Nat.le_refl _)]
    · rw [if_neg hjc]
  · rw [to' _ _ (by omega)]
    obtain ⟨q, hq, e⟩ := B5 j hj
    exact ⟨q, by omega, e⟩
  · by_cases hk : k = 132
    · subst hk
      exact t132 j (g3 rfl).2.2.2 (g3 rfl).2.1
    · exact to k j (by omega) hk g2 (by omega) (by omega)
