/-! inn, room, caravan, bale -/
theorem rng_neg {α : Type} {x lo hi : Int32} {A B : α} (h : ¬ (lo ≤ x ∧ x ≤ hi)) : (if x < lo then A else if hi < x then A else B) = A := by
  by_cases h1 : x < lo
  · rw [if_pos h1]
  · rw [if_neg h1, if_pos (Int32.not_le.mp (fun q => h ⟨Int32.not_lt.mp h1, q⟩))]
theorem rng_pos {α : Type} {x lo hi : Int32} {A B : α} (h : lo ≤ x ∧ x ≤ hi) : (if x < lo then A else if hi < x then A else B) = B := by
  rw [if_neg (Int32.not_lt.mpr h.1), if_neg (Int32.not_lt.mpr h.2)]
theorem rn2_neg {α : Type} {x lo hi : Int32} {A B : α} (h : ¬ (lo ≤ x ∧ x ≤ hi)) : (if x < lo then A else if x ≤ hi then B else A) = A := by
  by_cases h1 : x < lo
  · rw [if_pos h1]
  · rw [if_neg h1, if_neg (fun q => h ⟨Int32.not_lt.mp h1, q⟩)]
theorem rn2_pos {α : Type} {x lo hi : Int32} {A B : α} (h : lo ≤ x ∧ x ≤ hi) : (if x < lo then A else if x ≤ hi then B else A) = B := by
  rw [if_neg (Int32.not_lt.mpr h.1), if_pos h.2]
theorem eq_full {a N : Nat} {x : Int32} (hx : x = nI N) (ha : a ≤ N) (hN : N < 2 ^ 31) : nI a = x ↔ N ≤ a := by
  rw [hx, nI_eq (by omega) hN]
  omega
/-- Inv where the land has grown: both forget -/
theorem IV_land {n a c b f s a' c' b' : Nat} {l : List RU} {σ τ : PS} (h : IV n a c b f s l σ) (hL : IL a' c' b' τ) (hb : bkO τ = bkO σ) (hd : drO τ = drO σ) (g : ∀ k j, ¬ (3 ≤ k ∧ k ≤ 24) → k ≠ 41 → (k = 132 → j ≠ 38 ∧ j ≠ 44 ∧ j ≠ 52 ∧ j ≠ 58) → ¬ (156 ≤ k ∧ k ≤ 168) → gi τ k j = gi σ k j) (g1 : gi τ 41 13 = -1) (g2 : gi τ 132 58 = -1) : IV n a' c' b' f s l τ := by
  obtain ⟨h1, h2, h3, h4, h5, h6, h7⟩ := h
  have hbk := bk_or h5.1
  exact ⟨IA_fr h1 (g _ _ (by decide) (by decide) (by decide) (by decide)) (fun j => g _ _ (by decide) (by decide) (by omega) (by decide)) (g _ _ (by decide) (by decide) (by decide) (by decide)) (fun j => g _ _ (by decide) (by decide) (by omega) (by decide)), IP_fr h2 (g _ _ (by decide) (by decide) (by decide) (by decide)) (g _ _ (by decide) (by decide) (by decide) (by decide)), hL, IF_fr h4 (fun k j _ _ => g k j (by omega) (by omega) (by omega) (by omega)) (fun k j _ _ => g k j (by omega) (by omega) (by omega) (by omega)) (g _ _ (by decide) (by decide) (by decide) (by decide)), IB_fr h5 hb hd (fun i hi j => g _ j (by omega) (by omega) (by omega) (by omega)) (fun k j _ _ => g k j (by omega) (by omega) (by omega) (by omega)) (g _ _ (by decide) (by decide) (by decide) (by decide)), Or.inl g1, Or.inl g2⟩
theorem op_inn (x1 x2 x3 : Int32) : OPS (fX8_inn x1 x2 x3) (fX9_inn x1 x2 x3) := by
  rintro σ ⟨n, a, c, b, f, s, l, h⟩
  have h0 := h
  have hI : Inv σ := ⟨n, a, c, b, f, s, l, h⟩
  obtain ⟨-, -, ⟨⟨L1, L2, L3, L4, L5, L6⟩, ⟨⟨X1, X2⟩, X3, X4⟩, ⟨B1, B2, B3, B4, B5⟩, Z1, Z2⟩, -⟩ := h
  rw [L3] at X1
  have neg : ∀ (P : hO (fX9_inn x1 x2 x3 σ) (fun q => (-1 : Int32) = q.1 ∧ Inv q.2)), hO (some ((-1 : Int32), σ)) (fun q => hO (fX9_inn x1 x2 x3 q.2) (fun r => q.1 = r.1 ∧ Inv r.2)) := fun P => hO_pr rfl P
  unfold fX8_inn
  by_cases q1 : 8 ≤ a
  · rw [L3, if_pos (l_le (k := 8) (by rfl) q1 (by omega))]
    refine neg ?_
    unfold fX9_inn
    rw [X1, if_pos ((eq_full (x := 8) (N := 8) rfl L1 (by decide)).mpr q1)]
    exact ⟨_, rfl, rfl, hI⟩
  have r1 : ¬ nI a = 8 := fun q => q1 ((eq_full (x := 8) (N := 8) rfl L1 (by decide)).mp q)
  rw [L3, if_neg (l_nle (k := 8) (by rfl) (by omega) (by decide)), isLord_eq]
  simp only [Option.bind_some]
  rw [ite_tv]
  by_cases q2 : 0 ≤ x1 ∧ x1 ≤ 4
  rotate_left
  · rw [if_neg q2]
    refine neg ?_
    unfold fX9_inn
    rw [X1, if_neg r1, rng_neg q2]
    exact ⟨_, rfl, rfl, hI⟩
  rw [if_pos q2, isWithin_eq]
  simp only [Option.bind_some]
  rw [ite_tv]
  by_cases q3 : 0 ≤ x2 ∧ x2 ≤ 60
  rotate_left
  · rw [if_neg q3]
    refine neg ?_
    unfold fX9_inn
    rw [X1, if_neg r1, rng_pos q2, rng_neg q3]
    exact ⟨_, rfl, rfl, hI⟩
  rw [if_pos q3, isWithin_eq]
  simp only [Option.bind_some]
  rw [ite_tv]
  by_cases q4 : 0 ≤ x3 ∧ x3 ≤ 60
  rotate_left
  · rw [if_neg q4]
    refine neg ?_
    unfold fX9_inn
    rw [X1, if_neg r1, rng_pos q2, rng_pos q3, rn2_neg q4]
    exact ⟨_, rfl, rfl, hI⟩
  rw [if_pos q4]
  simp only [gd_t (inb_nI (show a < 8 by omega) (show 8 < 2 ^ 31 by decide)), forget_eq, Option.bind_some, nI_clamp (n := a) (show a < 2 ^ 31 by omega), nI_1]
  refine hO_pr rfl ?_
  generalize hσ1 : sI (sI (sI (sI (sI σ 4 a x1) 5 a x2) 6 a x3) 3 0 (nI (a + 1))) 41 13 (-1) = σ1
  have s132 : gi σ1 132 38 = nI a := by
    rw [← hσ1]
    simp (disch := decide) only [gi_ne]
    exact X1
  unfold fX9_inn
  rw [if_neg (by rw [s132]; exact r1), rng_pos q2, rng_pos q3, rn2_pos q4]
  simp (disch := decide) only [gi_ne]
  rw [s132]
  simp only [gd_t (inb_nI (show a < 8 by omega) (show 8 < 2 ^ 31 by decide)), nI_clamp (n := a) (show a < 2 ^ 31 by omega), nI_1]
  rw [gi_nj (by decide), gi_eq, nI_pred]
  refine ⟨_, rfl, rfl, n, a + 1, c, b, f, s, l, ?_⟩
  subst hσ1
  simp only
  generalize hτ : sI (sI (sI (sI (sI (sI (sI (sI (sI (sI (sI σ 4 a x1) 5 a x2) 6 a x3) 3 0 (nI (a + 1))) 41 13 (-1)) 156 a x1) 157 a x2) 158 a x3) 159 a 0) 132 38 (nI (a + 1))) 132 58 (-1) = τ
  have t4 : ∀ j, gi τ 4 j = if j = a then x1 else gi σ 4 j := fun j => by rw [← hτ]; simp (disch := decide) only [gi_ne, gi_k]
  have t5 : ∀ j, gi τ 5 j = if j = a then x2 else gi σ 5 j := fun j => by rw [← hτ]; simp (disch := decide) only [gi_ne, gi_k]
  have t6 : ∀ j, gi τ 6 j = if j = a then x3 else gi σ 6 j := fun j => by rw [← hτ]; simp (disch := decide) only [gi_ne, gi_k]
  have t156 : ∀ j, gi τ 156 j = if j = a then x1 else gi σ 156 j := fun j => by rw [← hτ]; simp (disch := decide) only [gi_ne, gi_k]
  have t157 : ∀ j, gi τ 157 j = if j = a then x2 else gi σ 157 j := fun j => by rw [← hτ]; simp (disch := decide) only [gi_ne, gi_k]
  have t158 : ∀ j, gi τ 158 j = if j = a then x3 else gi σ 158 j := fun j => by rw [← hτ]; simp (disch := decide) only [gi_ne, gi_k]
  have t159 : ∀ j, gi τ 159 j = if j = a then 0 else gi σ 159 j := fun j => by rw [← hτ]; simp (disch := decide) only [gi_ne, gi_k]
  have t30 : gi τ 3 0 = nI (a + 1) := by rw [← hτ]; simp (disch := decide) only [gi_ne, gi_eq]
  have t3j : ∀ j, j ≠ 0 → gi τ 3 j = gi σ 3 j := fun j hj => by rw [← hτ]; simp (disch := first | decide | exact hj) only [gi_ne, gi_nj]
  have t13238 : gi τ 132 38 = nI (a + 1) := by rw [← hτ, gi_nj (by decide), gi_eq]
  have t132j : ∀ j, j ≠ 38 → j ≠ 58 → gi τ 132 j = gi σ 132 j := fun j h1 h2 => by
    rw [← hτ, gi_nj h2, gi_nj h1]
    simp (disch := decide) only [gi_ne]
  have to : ∀ k j, k ≠ 3 → k ≠ 4 → k ≠ 5 → k ≠ 6 → k ≠ 41 → k ≠ 132 → k ≠ 156 → k ≠ 157 → k ≠ 158 → k ≠ 159 → gi τ k j = gi σ k j := fun k j a1 a2 a3 a4 a5 a6 a7 a8 a9 a10 => by
    rw [← hτ]
    simp (disch := assumption) only [gi_ne]
  have t41 : gi τ 41 13 = -1 := by rw [← hτ]; simp (disch := decide) only [gi_ne, gi_eq]
  have t58 : gi τ 132 58 = -1 := by rw [← hτ, gi_eq]
  have to' : ∀ k j, 7 ≤ k → k ≤ 24 → gi τ k j = gi σ k j := fun k j _ _ => to k j (by omega) (by omega) (by omega) (by omega) (by omega) (by omega) (by omega) (by omega) (by omega) (by omega)
  have to2 : ∀ k j, 160 ≤ k → gi τ k j = gi σ k j := fun k j _ => to k j (by omega) (by omega) (by omega) (by omega) (by omega) (by omega) (by omega) (by omega) (by omega) (by omega)
  have i1 := (isN_of (l := 0) (h := 4) (lo := 0) (hi := 4) rfl rfl (by decide) (by decide)).mp q2
  have i2 := (isN_of (l := 0) (h := 60) (lo := 0) (hi := 60) rfl rfl (by decide) (by decide)).mp q3
  have i3 := (isN_of (l := 0) (h := 60) (lo := 0) (hi := 60) rfl rfl (by decide) (by decide)).mp q4
  refine IV_land h0 ⟨⟨by omega, L2, t30, by rw [t3j _ (by decide)]; exact L4, fun i hi => ?_, fun c' hc' => ?_⟩, ⟨⟨by rw [t13238, t30], by rw [t132j _ (by decide) (by decide), t3j _ (by decide)]; exact X2⟩, fun j => ?_, fun i hi r hr => by rw [to2 _ _ (by decide), to' _ _ (by omega) (by omega)]; exact X4 i hi r hr⟩, ⟨B1, by rw [t3j _ (by decide)]; exact B2, by rw [t132j _ (by decide) (by decide)]; exact B3, fun j => by rw [to2 _ _ (by decide), to' _ _ (by decide) (by decide)]; exact B4 j, fun j hj => by rw [to' _ _ (by decide) (by decide)]; exact B5 j hj⟩, fun j hj => by rw [to' _ _ (by decide) (by decide)]; exact Z1 j hj, fun i hi => by rw [to' _ _ (by decide) (by decide)]; exact Z2 i (by omega)⟩ (by rw [← hτ]; rfl) (by rw [← hτ]; rfl) (fun k j g1 g2 g3 g4 => ?_) t41 t58
  · rw [t4, t5, t6, to' 7 i (by decide) (by decide)]
    by_cases hia : i = a
    · rw [if_pos hia, if_pos hia, if_pos hia]
      rw [hia, Z2 a (Nat.le_refl _)]
      refine ⟨i1, i2, i3, ⟨0, rfl, by omega, by omega⟩, fun r hr => ?_⟩
      exact absurd hr (by decide +revert)
    · rw [if_neg hia, if_neg hia, if_neg hia]
      obtain ⟨w1, w2, w3, w4, w5⟩ := L5 i (by omega)
      exact ⟨w1, w2, w3, w4, fun r hr => by rw [to' _ _ (by omega) (by omega)]; exact w5 r hr⟩
  · rw [to' _ _ (by decide) (by decide), to' _ _ (by decide) (by decide), to' _ _ (by decide) (by decide), to' _ _ (by decide) (by decide), to' _ _ (by decide) (by decide), to' _ _ (by decide) (by decide)]
    obtain ⟨w1, w2, w3, ⟨ff, tt, w4, w5, w6, w7, w8⟩, w9⟩ := L6 c' hc'
    exact ⟨w1, w2, w3, ⟨ff, tt, w4, w5, by omega, by omega, w8⟩, w9⟩
  · rw [t156, t157, t158, t159, t4, t5, t6, to' 7 _ (by decide) (by decide), to2 161 _ (by decide), to2 162 _ (by decide), to2 163 _ (by decide), to2 164 _ (by decide), to2 165 _ (by decide), to2 166 _ (by decide), to2 167 _ (by decide), to' 17 _ (by decide) (by decide), to' 18 _ (by decide) (by decide), to' 19 _ (by decide) (by decide), to' 20 _ (by decide) (by decide), to' 21 _ (by decide) (by decide), to' 22 _ (by decide) (by decide), to' 23 _ (by decide) (by decide)]
    obtain ⟨w1, w2, w3, w4, w5⟩ := X3 j
    rw [w1, w2, w3, w4]
    refine ⟨rfl, rfl, rfl, ?_, w5⟩
    by_cases hja : j = a
    · rw [if_pos hja, hja, Z2 a (Nat.le_refl _)]
    · rw [if_neg hja]
  · by_cases hk : k = 132
    · subst hk
      have := g3 rfl
      exact t132j j this.1 this.2.2.2
    · exact to k j (by omega) (by omega) (by omega) (by omega) g2 hk (by omega) (by omega) (by omega) (by omega)
theorem op_room (x1 x2 : Int32) : OPS (fX8_room x1 x2) (fX9_room x1 x2) := by
  rintro σ ⟨n, a, c, b, f, s, l, h⟩
  have h0 := h
  have hI : Inv σ := ⟨n, a, c, b, f, s, l, h⟩
  obtain ⟨-, -, ⟨⟨L1, L2, L3, L4, L5, L6⟩, ⟨⟨X1, X2⟩, X3, X4⟩, ⟨B1, B2, B3, B4, B5⟩, Z1, Z2⟩, -⟩ := h
  rw [L3] at X1
  unfold fX8_room
  rw [hasInn_eq, L3]
  simp only [Option.bind_some]
  rw [ite_tv]
  have mi : ∀ τ : PS, gi τ 132 38 = nI a → fX9_isInn x1 τ = some (tv (0 ≤ x1 ∧ x1 ≤ nI a - 1), τ) := fun τ ht => by rw [mInn_eq x1 τ ht (by omega), ht]
  by_cases q1 : 0 ≤ x1 ∧ x1 ≤ nI a - 1
  rotate_left
  · rw [if_neg q1]
    refine hO_pr rfl ?_
    unfold fX9_room
    rw [mi σ X1]
    simp only [Option.bind_some]
    rw [ite_tv, if_neg q1]
    exact ⟨_, rfl, rfl, hI⟩
  rw [if_pos q1]
  obtain ⟨i, rfl, hi⟩ := (isN_lt (by omega)).mp q1
  obtain ⟨R, hR, -, hR3⟩ := (L5 i hi).2.2.2.1
  have hM : gi σ 159 i = nI R := by rw [(X3 i).2.2.2.1, hR]
  have g8 : inb (nI i) 8 = true := inb_nI (by omega) (by decide)
  have ci : (nI i).toNatClampNeg = i := nI_clamp (by omega)
  have cR : (nI R).toNatClampNeg = R := nI_clamp (by omega)
  rw [isWithin_eq]
  simp only [Option.bind_some]
  rw [ite_tv]
  by_cases q2 : 1 ≤ x2 ∧ x2 ≤ 20
  rotate_left
  · rw [if_neg q2]
    refine hO_pr rfl ?_
    unfold fX9_room
    rw [mi σ X1]
    simp only [Option.bind_some]
    rw [ite_tv, if_pos q1, gd_t g8, ci, hM]
    by_cases q3 : nI R = 3
    · rw [if_pos q3]
      exact ⟨_, rfl, rfl, hI⟩
    · rw [if_neg q3, rn2_neg q2]
      exact ⟨_, rfl, rfl, hI⟩
  rw [if_pos q2]
  simp only [gd_t g8]
  rw [ci, hR]
  by_cases q3 : 3 ≤ R
  · rw [if_neg (r_nlt (k := 3) (by rfl) q3 (by omega))]
    refine hO_pr rfl ?_
    unfold fX9_room
    rw [mi σ X1]
    simp only [Option.bind_some]
    rw [ite_tv, if_pos q1, gd_t g8, ci, hM, if_pos ((eq_full (x := 3) (N := 3) rfl hR3 (by decide)).mpr q3)]
    exact ⟨_, rfl, rfl, hI⟩
  have r3 : ¬ nI R = 3 := fun q => q3 ((eq_full (x := 3) (N := 3) rfl hR3 (by decide)).mp q)
  rw [if_pos (r_lt (k := 3) (by rfl) (by omega) (by decide)), gd_t (inb_nI (show R < 3 by omega) (by decide)), r8 (by omega), cR, nI_1, forget_eq]
  simp only [Option.bind_some]
  refine hO_pr rfl ?_
  generalize hσ1 : sI (sI (sI σ (9 + i) R x2) 7 i (nI (R + 1))) 41 13 (-1) = σ1
  have s1 : ∀ k j, k ≠ 41 → k ≠ 7 → k ≠ 9 + i → gi σ1 k j = gi σ k j := fun k j a1 a2 a3 => by rw [← hσ1, gi_ne a1, gi_ne a2, gi_ne a3]
  have s132 : gi σ1 132 38 = nI a := by rw [s1 _ _ (by decide) (by decide) (by omega)]; exact X1
  have s159 : gi σ1 159 i = nI R := by rw [s1 _ _ (by decide) (by decide) (by omega)]; exact hM
  unfold fX9_room
  rw [mi σ1 s132]
  simp only [Option.bind_some]
  rw [ite_tv, if_pos q1]
  simp only [gd_t g8]
  rw [ci, s159, if_neg r3, rn2_pos q2, nI3, gd_t (inb_nI (show 3 * i + R < 24 by omega) (by decide)), nI_clamp (show 3 * i + R < 2 ^ 31 by omega)]
  simp (disch := decide) only [gi_ne]
  rw [s159, nI_1, gi_eq, nI_pred]
  refine ⟨_, rfl, rfl, n, a, c, b, f, s, l, ?_⟩
  simp only
  generalize hτ : sI (sI (sI σ1 160 (3 * i + R) x2) 159 i (nI (R + 1))) 132 58 (-1) = τ
  have t1 : ∀ k j, k ≠ 160 → k ≠ 159 → k ≠ 132 → gi τ k j = gi σ1 k j := fun k j a1 a2 a3 => by rw [← hτ, gi_ne a3, gi_ne a2, gi_ne a1]
  have to : ∀ k j, k ≠ 160 → k ≠ 159 → k ≠ 132 → k ≠ 41 → k ≠ 7 → k ≠ 9 + i → gi τ k j = gi σ k j := fun k j a1 a2 a3 a4 a5 a6 => by rw [t1 k j a1 a2 a3, s1 k j a4 a5 a6]
  have t132 : ∀ j, j ≠ 58 → gi τ 132 j = gi σ 132 j := fun j hj => by rw [← hτ, gi_nj hj, gi_ne (by decide), gi_ne (by decide), s1 _ _ (by decide) (by decide) (by omega)]
  have t58 : gi τ 132 58 = -1 := by rw [← hτ, gi_eq]
  have t41 : gi τ 41 13 = -1 := by rw [t1 _ _ (by decide) (by decide) (by decide), ← hσ1, gi_eq]
  have t7 : ∀ j, gi τ 7 j = if j = i then nI (R + 1) else gi σ 7 j := fun j => by rw [t1 _ _ (by decide) (by decide) (by decide), ← hσ1, gi_ne (by decide), gi_k, gi_ne (by omega)]
  have t159 : ∀ j, gi τ 159 j = if j = i then nI (R + 1) else gi σ 159 j := fun j => by rw [← hτ, gi_ne (by decide), gi_k, gi_ne (by decide), s1 _ _ (by decide) (by decide) (by omega)]
  have t160 : ∀ j, gi τ 160 j = if j = 3 * i + R then x2 else gi σ 160 j := fun j => by rw [← hτ, gi_ne (by decide), gi_ne (by decide), gi_k, s1 _ _ (by decide) (by decide) (by omega)]
  have t9 : ∀ j, gi τ (9 + i) j = if j = R then x2 else gi σ (9 + i) j := fun j => by rw [t1 _ _ (by omega) (by omega) (by omega), ← hσ1, gi_ne (by omega), gi_ne (by omega), gi_k]
  have i2 := (isN_of (l := 1) (h := 20) (lo := 1) (hi := 20) rfl rfl (by decide) (by decide)).mp q2
  have to' : ∀ k j, (3 ≤ k ∧ k ≤ 6) ∨ k = 8 ∨ (17 ≤ k ∧ k ≤ 24) → gi τ k j = gi σ k j := fun k j _ => to k j (by omega) (by omega) (by omega) (by omega) (by omega) (by omega)
  have to2 : ∀ k j, 156 ≤ k → k ≠ 159 → k ≠ 160 → gi τ k j = gi σ k j := fun k j _ _ _ => to k j (by omega) (by omega) (by omega) (by omega) (by omega) (by omega)
  refine IV_land h0 ⟨⟨L1, L2, by rw [to' _ _ (by omega)]; exact L3, by rw [to' _ _ (by omega)]; exact L4, fun i' hi' => ?_, fun c' hc' => ?_⟩, ⟨⟨by rw [t132 _ (by decide), to' _ _ (by omega), X1, L3], by rw [t132 _ (by decide), to' _ _ (by omega)]; exact X2⟩, fun j => ?_, fun i' hi' r hr => ?_⟩, ⟨B1, by rw [to' _ _ (by omega)]; exact B2, by rw [t132 _ (by decide)]; exact B3, fun j => by rw [to2 _ _ (by decide) (by decide) (by decide), to' _ _ (by omega)]; exact B4 j, fun j hj => by rw [to' _ _ (by omega)]; exact B5 j hj⟩, fun j hj => by rw [to' _ _ (by omega)]; exact Z1 j hj, fun i' hi' => by rw [t7, if_neg (by omega)]; exact Z2 i' hi'⟩ (by rw [← hτ, ← hσ1]; rfl) (by rw [← hτ, ← hσ1]; rfl) (fun k j g1 g2 g3 g4 => ?_) t41 t58
  · obtain ⟨w1, w2, w3, w4, w5⟩ := L5 i' hi'
    rw [to' 4 _ (by omega), to' 5 _ (by omega), to' 6 _ (by omega), t7]
    refine ⟨w1, w2, w3, ?_, fun r hr => ?_⟩
    · by_cases hii : i' = i
      · rw [if_pos hii]; exact ⟨R + 1, rfl, by omega, by omega⟩
      · rw [if_neg hii]; exact w4
    · by_cases hii : i' = i
      · subst hii
        rw [if_pos rfl, nI_clamp (by omega)] at hr
        rw [t9]
        by_cases hrR : r = R
        · rw [if_pos hrR]; exact i2
        · rw [if_neg hrR]
          exact w5 r (by rw [hR, cR]; omega)
      · rw [if_neg hii] at hr
        rw [to _ _ (by omega) (by omega) (by omega) (by omega) (by omega) (by omega)]
        exact w5 r hr
  · rw [to' _ _ (by omega), to' _ _ (by omega), to' _ _ (by omega), to' _ _ (by omega), to' _ _ (by omega), to' _ _ (by omega)]
    exact L6 c' hc'
  · rw [to2 156 _ (by decide) (by decide) (by decide), to2 157 _ (by decide) (by decide) (by decide), to2 158 _ (by decide) (by decide) (by decide), t159, to2 161 _ (by decide) (by decide) (by decide), to2 162 _ (by decide) (by decide) (by decide), to2 163 _ (by decide) (by decide) (by decide), to2 164 _ (by decide) (by decide) (by decide), to2 165 _ (by decide) (by decide) (by decide), to2 166 _ (by decide) (by decide) (by decide), to2 167 _ (by decide) (by decide) (by decide), to' 4 _ (by omega), to' 5 _ (by omega), to' 6 _ (by omega), t7, to' 17 _ (by omega), to' 18 _ (by omega), to' 19 _ (by omega), to' 20 _ (by omega), to' 21 _ (by omega), to' 22 _ (by omega), to' 23 _ (by omega)]
    obtain ⟨w1, w2, w3, w4, w5⟩ := X3 j
    rw [w4]
    exact ⟨w1, w2, w3, rfl, w5⟩
  · rw [t160]
    by_cases hii : i' = i
    · subst hii
      rw [t9]
      by_cases hrR : r = R
      · rw [if_pos hrR, if_pos (by omega)]
      · rw [if_neg hrR, if_neg (by omega)]
        exact X4 i' hi' r hr
    · rw [if_neg (by omega), to _ _ (by omega) (by omega) (by omega) (by omega) (by omega) (by omega)]
      exact X4 i' hi' r hr
  · by_cases hk : k = 132
    · subst hk
      exact t132 j (g3 rfl).2.2.2
    · exact to k j (by omega) (by omega) hk g2 (by omega) (by omega)
theorem op_bale (x : Int32) : OPS (fX8_bale x) (fX9_bale x) := by
  rintro σ ⟨n, a, c, b, f, s, l, h⟩
  have h0 := h
  have hI : Inv σ := ⟨n, a, c, b, f, s, l, h⟩
  obtain ⟨-, -, ⟨⟨L1, L2, L3, L4, L5, L6⟩, ⟨⟨X1, X2⟩, X3, X4⟩, ⟨B1, B2, B3, B4, B5⟩, Z1, Z2⟩, -⟩ := h
  rw [L4] at X2
  unfold fX8_bale
  rw [B2]
  by_cases q1 : 60 ≤ b
  · rw [if_pos (l_le (k := 60) (by rfl) q1 (by omega))]
    refine hO_pr rfl ?_
    unfold fX9_bale
    rw [B3, if_pos ((eq_full (x := 60) (N := 60) rfl B1 (by decide)).mpr q1)]
    exact ⟨_, rfl, rfl, hI⟩
  have r1 : ¬ nI b = 60 := fun q => q1 ((eq_full (x := 60) (N := 60) rfl B1 (by decide)).mp q)
  have mc : ∀ τ : PS, gi τ 132 44 = nI c → fX9_isCaravan x τ = some (tv (0 ≤ x ∧ x ≤ nI c - 1), τ) := fun τ ht => by rw [mCar_eq x τ ht (by omega), ht]
  rw [if_neg (l_nle (k := 60) (by rfl) (by omega) (by decide)), hasCaravan_eq, L4]
  simp only [Option.bind_some]
  rw [ite_tv]
  by_cases q2 : 0 ≤ x ∧ x ≤ nI c - 1
  rotate_left
  · rw [if_neg q2]
    refine hO_pr rfl ?_
    unfold fX9_bale
    rw [B3, if_neg r1, mc σ X2]
    simp only [Option.bind_some]
    rw [ite_tv, if_neg q2]
    exact ⟨_, rfl, rfl, hI⟩
  rw [if_pos q2]
  obtain ⟨i, rfl, hi⟩ := (isN_lt (by omega)).mp q2
  have g6 : inb (nI i) 6 = true := inb_nI (by omega) (by decide)
  have ci : (nI i).toNatClampNeg = i := nI_clamp (by omega)
  have cb : (nI b).toNatClampNeg = b := nI_clamp (by omega)
  simp only [gd_t g6, gd_t (inb_nI (show b < 60 by omega) (show 60 < 2 ^ 31 by decide)), ci, cb]
  rw [gi_ne (show (23 : Nat) ≠ 24 by decide), nI_1, forget_eq]
  simp only [Option.bind_some]
  refine hO_pr rfl ?_
  generalize hσ1 : sI (sI (sI (sI σ 24 b (nI i)) 23 i (gi σ 23 i + 1)) 3 14 (nI (b + 1))) 41 13 (-1) = σ1
  have s1 : ∀ k j, k ≠ 41 → k ≠ 3 → k ≠ 23 → k ≠ 24 → gi σ1 k j = gi σ k j := fun k j a1 a2 a3 a4 => by rw [← hσ1, gi_ne a1, gi_ne a2, gi_ne a3, gi_ne a4]
  have s52 : gi σ1 132 52 = nI b := by rw [s1 _ _ (by decide) (by decide) (by decide) (by decide)]; exact B3
  unfold fX9_bale
  rw [s52, if_neg r1, mc σ1 (by rw [s1 _ _ (by decide) (by decide) (by decide) (by decide)]; exact X2)]
  simp only [Option.bind_some]
  rw [ite_tv, if_pos q2, s52]
  simp only [gd_t g6, gd_t (inb_nI (show b < 60 by omega) (show 60 < 2 ^ 31 by decide)), ci, cb]
  rw [gi_nj (by decide), gi_eq]
  simp (disch := decide) only [gi_ne]
  rw [s52, nI_1, nI_pred]
  refine ⟨_, rfl, rfl, n, a, c, b + 1, f, s, l, ?_⟩
  simp only
  generalize hτ : sI (sI (sI (sI σ1 168 b (nI i)) 167 i (gi σ1 167 i + 1)) 132 52 (nI (b + 1))) 132 58 (-1) = τ
  have t1 : ∀ k j, k ≠ 168 → k ≠ 167 → k ≠ 132 → gi τ k j = gi σ1 k j := fun k j a1 a2 a3 => by rw [← hτ, gi_ne a3, gi_ne a3, gi_ne a2, gi_ne a1]
  have to : ∀ k j, k ≠ 168 → k ≠ 167 → k ≠ 132 → k ≠ 41 → k ≠ 3 → k ≠ 23 → k ≠ 24 → gi τ k j = gi σ k j := fun k j a1 a2 a3 a4 a5 a6 a7 => by rw [t1 k j a1 a2 a3, s1 k j a4 a5 a6 a7]
  have t132 : ∀ j, j ≠ 58 → j ≠ 52 → gi τ 132 j = gi σ 132 j := fun j hj hj2 => by rw [← hτ, gi_nj hj, gi_nj hj2, gi_ne (by decide), gi_ne (by decide), s1 _ _ (by decide) (by decide) (by decide) (by decide)]
  have t58 : gi τ 132 58 = -1 := by rw [← hτ, gi_eq]
  have t52 : gi τ 132 52 = nI (b + 1) := by rw [← hτ, gi_nj (by decide), gi_eq]
  have t41 : gi τ 41 13 = -1 := by rw [t1 _ _ (by decide) (by decide) (by decide), ← hσ1, gi_eq]
  have t314 : gi τ 3 14 = nI (b + 1) := by rw [t1 _ _ (by decide) (by decide) (by decide), ← hσ1, gi_ne (by decide), gi_eq]
  have t3 : ∀ j, j ≠ 14 → gi τ 3 j = gi σ 3 j := fun j hj => by rw [t1 _ _ (by decide) (by decide) (by decide), ← hσ1, gi_ne (by decide), gi_nj hj, gi_ne (by decide), gi_ne (by decide)]
  have t24 : ∀ j, gi τ 24 j = if j = b then nI i else gi σ 24 j := fun j => by rw [t1 _ _ (by decide) (by decide) (by decide), ← hσ1, gi_ne (by decide), gi_ne (by decide), gi_ne (by decide), gi_k]
  have t23 : ∀ j, gi τ 23 j = if j = i then gi σ 23 i + 1 else gi σ 23 j := fun j => by rw [t1 _ _ (by decide) (by decide) (by decide), ← hσ1, gi_ne (by decide), gi_ne (by decide), gi_k, gi_ne (by decide)]
  have t168 : ∀ j, gi τ 168 j = if j = b then nI i else gi σ 168 j := fun j => by rw [← hτ, gi_ne (by decide), gi_ne (by decide), gi_ne (by decide), gi_k, s1 _ _ (by decide) (by decide) (by decide) (by decide)]
  have t167 : ∀ j, gi τ 167 j = if j = i then gi σ 167 i + 1 else gi σ 167 j := fun j => by rw [← hτ, gi_ne (by decide), gi_ne (by decide), gi_k, gi_ne (by decide), s1 _ _ (by decide) (by decide) (by decide) (by decide), s1 _ _ (by decide) (by decide) (by decide) (by decide)]
  have to' : ∀ k j, 4 ≤ k → k ≤ 22 → gi τ k j = gi σ k j := fun k j _ _ => to k j (by omega) (by omega) (by omega) (by omega) (by omega) (by omega) (by omega)
  have to2 : ∀ k j, 156 ≤ k → k ≤ 166 → gi τ k j = gi σ k j := fun k j _ _ => to k j (by omega) (by omega) (by omega) (by omega) (by omega) (by omega) (by omega)
  refine IV_land h0 ⟨⟨L1, L2, by rw [t3 _ (by decide)]; exact L3, by rw [t3 _ (by decide)]; exact L4, fun i' hi' => ?_, fun c' hc' => ?_⟩, ⟨⟨by rw [t132 _ (by decide) (by decide), t3 _ (by decide)]; exact X1, by rw [t132 _ (by decide) (by decide), t3 _ (by decide), X2, L4]⟩, fun j => ?_, fun i' hi' r hr => by rw [to2 _ _ (by decide) (by decide), to' _ _ (by omega) (by omega)]; exact X4 i' hi' r hr⟩, ⟨by omega, t314, t52, fun j => by rw [t168, t24, B4], fun j hj => ?_⟩, fun j hj => by rw [t23, if_neg (by omega)]; exact Z1 j hj, fun i' hi' => by rw [to' _ _ (by decide) (by decide)]; exact Z2 i' hi'⟩ (by rw [← hτ, ← hσ1]; rfl) (by rw [← hτ, ← hσ1]; rfl) (fun k j g1 g2 g3 g4 => ?_) t41 t58
  · rw [to' 4 _ (by decide) (by decide), to' 5 _ (by decide) (by decide), to' 6 _ (by decide) (by decide), to' 7 _ (by decide) (by decide)]
    obtain ⟨w1, w2, w3, w4, w5⟩ := L5 i' hi'
    exact ⟨w1, w2, w3, w4, fun r hr => by rw [to' _ _ (by omega) (by omega)]; exact w5 r hr⟩
  · rw [to' _ _ (by decide) (by decide), to' _ _ (by decide) (by decide), to' _ _ (by decide) (by decide), to' _ _ (by decide) (by decide), to' _ _ (by decide) (by decide), to' _ _ (by decide) (by decide)]
    exact L6 c' hc'
  · rw [to2 156 _ (by decide) (by decide), to2 157 _ (by decide) (by decide), to2 158 _ (by decide) (by decide), to2 159 _ (by decide) (by decide), to2 161 _ (by decide) (by decide), to2 162 _ (by decide) (by decide), to2 163 _ (by decide) (by decide), to2 164 _ (by decide) (by decide), to2 165 _ (by decide) (by decide), to2 166 _ (by decide) (by decide), t167, to' 4 _ (by decide) (by decide), to' 5 _ (by decide) (by decide), to' 6 _ (by decide) (by decide), to' 7 _ (by decide) (by decide), to' 17 _ (by decide) (by decide), to' 18 _ (by decide) (by decide), to' 19 _ (by decide) (by decide), to' 20 _ (by decide) (by decide), to' 21 _ (by decide) (by decide), to' 22 _ (by decide) (by decide), t23]
    obtain ⟨w1, w2, w3, w4, w5, w6, w7, w8, w9, w10, w11⟩ := X3 j
    refine ⟨w1, w2, w3, w4, w5, w6, w7, w8, w9, w10, ?_⟩
    rw [w11, (X3 i).2.2.2.2.2.2.2.2.2.2]
  · rw [t24]
    by_cases hjb : j = b
    · rw [if_pos hjb]; exact ⟨i, hi, rfl⟩
    · rw [if_neg hjb]; exact B5 j (by omega)
  · by_cases hk : k = 132
    · subst hk
      exact t132 j (g3 rfl).2.2.2 (g3 rfl).2.2.1
    · exact to k j (by omega) (by omega) hk g2 (by omega) (by omega) (by omega)
