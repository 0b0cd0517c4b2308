/-! feed, back, place, count -/
theorem app_ex2 (x : Int32) (σ : PS) (n : Nat) (hn : n + 4 ≤ 2000) (hl : gi σ 1 1 = nI n) : ∃ σ', fX7_append x σ = some σ' ∧ gi σ' 1 1 = nI (n + 4) ∧ (∀ j, gi σ' 2 j = by4 (byM x) n (gi σ 2) j) ∧ (∀ k j, k ≠ 1 → k ≠ 2 → gi σ' k j = gi σ k j) ∧ bkO σ' = bkO σ ∧ drO σ' = drO σ := by
  obtain ⟨σ', e, h1, h2⟩ := app_ex x σ n hn hl
  have hf := frX7_append _ _ _ e
  exact ⟨σ', e, h1, h2, fun k j a b => hf.1 k (by unfold SX7_append inS; simp; omega) j, hf.2.2.1, hf.2.2.2⟩
theorem put_ex2 (x : Int32) (σ : PS) (n : Nat) (hn : n + 4 ≤ 2000) (hl : gi σ 132 2 = nI n) : ∃ σ', fX9_put x σ = some σ' ∧ gi σ' 132 2 = nI (n + 4) ∧ (∀ j, gi σ' 133 j = by4 (byM x) n (gi σ 133) j) ∧ (∀ k j, (k = 132 → j ≠ 2) → k ≠ 133 → gi σ' k j = gi σ k j) ∧ bkO σ' = bkO σ ∧ drO σ' = drO σ := by
  obtain ⟨σ', e, h1, h2⟩ := put_ex x σ n hn hl
  have hf := frX9_put _ _ _ e
  refine ⟨σ', e, h1, h2, fun k j a b => ?_, hf.2.2.1, hf.2.2.2⟩
  by_cases hk : k = 132
  · subst hk
    have hj := a rfl
    clear h1 h2 hf
    unfold fX9_put at e
    obtain ⟨m, hm⟩ := FU_k 5 (by decide)
    rw [hm, show m + 5 = m + 1 + 1 + 1 + 1 + 1 from rfl, put_step _ n x 24 σ (by decide) (by omega) hl] at e
    rw [show (24 : Int32) + (-8) = 16 by decide, put_step _ (n + 1) x 16 _ (by decide) (by omega) gi_eq] at e
    rw [show (16 : Int32) + (-8) = 8 by decide, put_step _ (n + 2) x 8 _ (by decide) (by omega) (by rw [gi_eq])] at e
    rw [show (8 : Int32) + (-8) = 0 by decide, put_step _ (n + 3) x 0 _ (by decide) (by omega) (by rw [gi_eq])] at e
    rw [show (0 : Int32) + (-8) = -8 by decide, fX9_put_3, if_pos (by decide)] at e
    cases e
    rw [gi_nj hj, gi_ne (by decide), gi_nj hj, gi_ne (by decide), gi_nj hj, gi_ne (by decide), gi_nj hj, gi_ne (by decide)]
  · exact hf.1 k (by unfold SX9_put inS; simp; omega) j
theorem by4_congr {f : Int32 → Int32} {n : Nat} {h h' : Nat → Int32} (hh : ∀ j, j < n → h j = h' j) : ∀ j, j < n + 4 → by4 f n h j = by4 f n h' j := by
  intro j hj
  unfold by4
  by_cases h0 : j = n
  · rw [if_pos h0, if_pos h0]
  · rw [if_neg h0, if_neg h0]
    by_cases h1 : j = n + 1
    · rw [if_pos h1, if_pos h1]
    · rw [if_neg h1, if_neg h1]
      by_cases h2 : j = n + 2
      · rw [if_pos h2, if_pos h2]
      · rw [if_neg h2, if_neg h2]
        by_cases h3 : j = n + 3
        · rw [if_pos h3, if_pos h3]
        · rw [if_neg h3, if_neg h3, hh j (by omega)]
/-- Inv where only the tape has changed -/
theorem IV_tape {n n' a c b f s : Nat} {l : List RU} {σ τ : PS} (h : IV n a c b f s l σ) (hA : IA n' τ) (hb : bkO τ = bkO σ) (hd : drO τ = drO σ) (g : ∀ k j, k ≠ 1 → k ≠ 2 → (k = 132 → j ≠ 2) → k ≠ 133 → gi τ k j = gi σ k j) : IV n' a c b f s l τ := by
  obtain ⟨h1, h2, h3, h4, h5, h6, h7⟩ := h
  have hbk := bk_or h5.1
  refine ⟨hA, IP_fr h2 (g _ _ (by decide) (by decide) (by decide) (by decide)) (g _ _ (by decide) (by decide) (by decide) (by decide)), IL_fr h3 (fun k j _ _ => g k j (by omega) (by omega) (by omega) (by omega)) (fun k j _ _ => g k j (by omega) (by omega) (by omega) (by omega)) (g _ _ (by decide) (by decide) (by decide) (by decide)) (g _ _ (by decide) (by decide) (by decide) (by decide)) (g _ _ (by decide) (by decide) (by decide) (by decide)), IF_fr h4 (fun k j _ _ => g k j (by omega) (by omega) (by omega) (by omega)) (fun k j _ _ => g k j (by omega) (by omega) (by omega) (by omega)) (g _ _ (by decide) (by decide) (by decide) (by decide)), IB_fr h5 hb hd (fun i hi j => g _ j (by omega) (by omega) (by omega) (by omega)) (fun k j _ _ => g k j (by omega) (by omega) (by omega) (by omega)) (g _ _ (by decide) (by decide) (by decide) (by decide)), IC_fr h3.1.1 h3.1.2.1 h6 (g _ _ (by decide) (by decide) (by decide) (by decide)) (fun k j _ _ => g k j (by omega) (by omega) (by omega) (by omega)) (fun k j _ _ => g k j (by omega) (by omega) (by omega) (by omega)) (fun k j _ _ _ => g k j (by omega) (by omega) (by omega) (by omega)), IR_fr h7 (g _ _ (by decide) (by decide) (by decide) (by decide)) (fun k j _ _ => g k j (by omega) (by omega) (by omega) (by omega)) (fun k j _ _ => g k j (by omega) (by omega) (by omega) (by omega)) (fun k j _ _ _ => g k j (by omega) (by omega) (by omega) (by omega))⟩
/-- class and reference answer alike, and Inv is kept -/
def OPS (F G : PS → Option (Int32 × PS)) : Prop := ∀ σ, Inv σ → hO (F σ) (fun q => hO (G q.2) (fun r => q.1 = r.1 ∧ Inv r.2))
theorem hO_pr {F : Option (Int32 × PS)} {G : PS → Option (Int32 × PS)} {r : Int32} {τ : PS} (e : F = some (r, τ)) (h : hO (G τ) (fun q => r = q.1 ∧ Inv q.2)) : hO F (fun q => hO (G q.2) (fun q' => q.1 = q'.1 ∧ Inv q'.2)) := ⟨_, e, h⟩
theorem op_feed (x1 x2 x3 x4 x5 : Int32) : OPS (fX8_feed x1 x2 x3 x4 x5) (fX9_feed x1 x2 x3 x4 x5) := by
  rintro σ ⟨n, a, c, b, f, s, l, h⟩
  have h0 := h
  obtain ⟨⟨hn, hl1, hl2, hby⟩, -⟩ := h
  have hc : gi σ 1 1 ≤ 1980 ↔ n ≤ 1980 := by rw [hl1]; exact nI_leI (b := 1980) (by omega) (by decide)
  have hm : gi σ 132 2 + 20 ≤ 2000 ↔ n ≤ 1980 := by
    rw [hl2, show (20 : Int32) = nI 20 from rfl, nI_add, show (2000 : Int32) = nI 2000 from rfl, nI_leI (by omega) (by decide)]
    omega
  unfold fX8_feed
  by_cases hq : n ≤ 1980
  · rw [if_pos (hc.mpr hq)]
    obtain ⟨σ1, e1, l1, b1, f1, k1, d1⟩ := app_ex2 x1 σ n (by omega) hl1
    obtain ⟨σ2, e2, l2, b2, f2, k2, d2⟩ := app_ex2 x2 σ1 (n + 4) (by omega) l1
    obtain ⟨σ3, e3, l3, b3, f3, k3, d3⟩ := app_ex2 x3 σ2 (n + 4 + 4) (by omega) l2
    obtain ⟨σ4, e4, l4, b4, f4, k4, d4⟩ := app_ex2 x4 σ3 (n + 4 + 4 + 4) (by omega) l3
    obtain ⟨σ5, e5, l5, b5, f5, k5, d5⟩ := app_ex2 x5 σ4 (n + 4 + 4 + 4 + 4) (by omega) l4
    simp only [e1, e2, e3, e4, e5, Option.bind_some]
    refine hO_pr rfl ?_
    have g5 : ∀ k j, k ≠ 1 → k ≠ 2 → gi σ5 k j = gi σ k j := fun k j p q => by rw [f5 k j p q, f4 k j p q, f3 k j p q, f2 k j p q, f1 k j p q]
    unfold fX9_feed
    have hl2' : gi σ5 132 2 = nI n := by rw [g5 _ _ (by decide) (by decide)]; exact hl2
    rw [if_pos (by rw [g5 _ _ (by decide) (by decide)]; exact hm.mpr hq)]
    obtain ⟨τ1, p1, m1, c1, u1, v1, w1⟩ := put_ex2 x1 σ5 n (by omega) hl2'
    obtain ⟨τ2, p2, m2, c2, u2', v2, w2⟩ := put_ex2 x2 τ1 (n + 4) (by omega) m1
    obtain ⟨τ3, p3, m3, c3, u3, v3, w3⟩ := put_ex2 x3 τ2 (n + 4 + 4) (by omega) m2
    obtain ⟨τ4, p4, m4, c4, u4, v4, w4⟩ := put_ex2 x4 τ3 (n + 4 + 4 + 4) (by omega) m3
    obtain ⟨τ5, p5, m5, c5, u5, v5, w5⟩ := put_ex2 x5 τ4 (n + 4 + 4 + 4 + 4) (by omega) m4
    simp only [p1, p2, p3, p4, p5, Option.bind_some]
    have gt : ∀ k j, (k = 132 → j ≠ 2) → k ≠ 133 → gi τ5 k j = gi σ5 k j := fun k j p q => by rw [u5 k j p q, u4 k j p q, u3 k j p q, u2' k j p q, u1 k j p q]
    refine ⟨_, rfl, ?_, n + 4 + 4 + 4 + 4 + 4, a, c, b, f, s, l, ?_⟩
    · show gi σ5 1 1 = gi τ5 132 2
      rw [l5, m5]
    refine IV_tape h0 ⟨by omega, ?_, m5, fun j hj => ?_⟩ (by rw [v5, v4, v3, v2, v1, k5, k4, k3, k2, k1]) (by rw [w5, w4, w3, w2, w1, d5, d4, d3, d2, d1]) (fun k j a b c d => by rw [gt k j c d, g5 k j a b])
    · rw [gt _ _ (by decide) (by decide)]; exact l5
    · have z0 : ∀ j, j < n → gi σ5 133 j = gi σ 2 j := fun j hj => by rw [g5 _ _ (by decide) (by decide)]; exact hby j hj
      have z1 : ∀ j, j < n + 4 → gi τ1 133 j = gi σ1 2 j := fun j hj => by rw [c1, b1]; exact by4_congr z0 j hj
      have z2 : ∀ j, j < n + 4 + 4 → gi τ2 133 j = gi σ2 2 j := fun j hj => by rw [c2, b2]; exact by4_congr z1 j hj
      have z3 : ∀ j, j < n + 4 + 4 + 4 → gi τ3 133 j = gi σ3 2 j := fun j hj => by rw [c3, b3]; exact by4_congr z2 j hj
      have z4 : ∀ j, j < n + 4 + 4 + 4 + 4 → gi τ4 133 j = gi σ4 2 j := fun j hj => by rw [c4, b4]; exact by4_congr z3 j hj
      have z5 : gi τ5 133 j = gi σ5 2 j := by rw [c5, b5]; exact by4_congr z4 j hj
      rw [z5, gt 2 j (by omega) (by decide)]
  · rw [if_neg (fun q => hq (hc.mp q))]
    refine hO_pr rfl ?_
    unfold fX9_feed
    rw [if_neg (fun q => hq (hm.mp q))]
    exact ⟨_, rfl, rfl, n, a, c, b, f, s, l, h0⟩
theorem op_back (x : Int32) : OPS (fX8_back x) (fX9_back x) := by
  rintro σ ⟨n, a, c, b, f, s, l, h⟩
  have h0 := h
  obtain ⟨⟨hn, hl1, hl2, hby⟩, -⟩ := h
  unfold fX8_back
  rw [isWithin_eq]
  simp only [Option.bind_some]
  rw [ite_tv, hl1]
  by_cases hq : 0 ≤ x ∧ x ≤ nI n
  · rw [if_pos hq]
    obtain ⟨k, rfl, -, hk⟩ := (isN_of (l := 0) (lo := 0) (hi := n) rfl rfl (by decide) (by omega)).mp hq
    rw [nI_sub hk, gi_eq]
    refine hO_pr rfl ?_
    unfold fX9_back
    rw [if_neg (nI_pos (by omega)), gi_ne (by decide), hl2, if_pos (nI_le hk (by omega)), nI_sub hk, gi_eq]
    refine ⟨_, rfl, rfl, n - k, a, c, b, f, s, l, ?_⟩
    refine IV_tape h0 ⟨by omega, ?_, gi_eq, fun j hj => ?_⟩ rfl rfl (fun k' j p q r t => ?_)
    · show gi (sI (sI σ 1 1 (nI (n - k))) 132 2 (nI (n - k))) 1 1 = _
      rw [gi_ne (by decide), gi_eq]
    · show gi (sI (sI σ 1 1 (nI (n - k))) 132 2 (nI (n - k))) 133 j = gi (sI (sI σ 1 1 (nI (n - k))) 132 2 (nI (n - k))) 2 j
      rw [gi_ne (by decide), gi_ne (by decide), gi_ne (by decide), gi_ne (by decide)]
      exact hby j (by omega)
    · show gi (sI (sI σ 1 1 (nI (n - k))) 132 2 (nI (n - k))) k' j = _
      rw [gi_sI]
      by_cases hk' : k' = 132
      · rw [if_pos hk', if_neg (r hk'), gi_ne p]
      · rw [if_neg hk', gi_ne p]
  · rw [if_neg hq]
    refine hO_pr rfl ?_
    unfold fX9_back
    rw [hl2]
    by_cases hx : x < 0
    · rw [if_pos hx]
      exact ⟨_, rfl, rfl, n, a, c, b, f, s, l, h0⟩
    · rw [if_neg hx, if_neg (fun q => hq ⟨Int32.not_lt.mp hx, q⟩)]
      exact ⟨_, rfl, rfl, n, a, c, b, f, s, l, h0⟩
theorem op_place : OPS fX8_place fX9_place := by
  rintro σ ⟨n, a, c, b, f, s, l, h⟩
  refine ⟨_, rfl, _, rfl, h.2.1, n, a, c, b, f, s, l, h⟩
theorem op_count (x : Int32) : OPS (fX8_count x) (fX9_count x) := by
  rintro σ ⟨n, a, c, b, f, s, l, h⟩
  have h0 := h
  obtain ⟨h1, h2, h3, h4, h5, h6, h7⟩ := h
  have hI : Inv σ := ⟨n, a, c, b, f, s, l, h0⟩
  unfold fX8_count fX9_count
  by_cases q0 : x = 0
  · simp only [if_pos q0]
    exact ⟨_, rfl, _, rfl, h3.2.1.1.1.symm, hI⟩
  by_cases q1 : x = 1
  · simp only [if_neg q0, if_pos q1]
    exact ⟨_, rfl, _, rfl, h3.2.1.1.2.symm, hI⟩
  by_cases q2 : x = 2
  · simp only [if_neg q0, if_neg q1, if_pos q2]
    exact ⟨_, rfl, _, rfl, h3.2.2.1.2.1.trans h3.2.2.1.2.2.1.symm, hI⟩
  by_cases q3 : x = 3
  · simp only [if_neg q0, if_neg q1, if_neg q2, if_pos q3]
    exact ⟨_, rfl, _, rfl, h4.2.1.trans h4.2.2.1.symm, hI⟩
  by_cases q4 : x = 4
  · simp only [if_neg q0, if_neg q1, if_neg q2, if_neg q3, if_pos q4]
    rw [gd_t h5.1]
    refine ⟨_, rfl, ?_⟩
    show hO (gd (inb (gi σ 132 18) 2) _) _
    obtain ⟨m1, m2, m3, m4, m5, m6⟩ := h5.2.2.2.2.1
    rw [m3, gd_t (inb_nI (by omega) (by decide)), nI_clamp (by omega)]
    exact ⟨_, rfl, h5.2.2.2.1.2.1.trans m4.symm, hI⟩
  by_cases q5 : x = 5
  · simp only [if_neg q0, if_neg q1, if_neg q2, if_neg q3, if_neg q4, if_pos q5]
    exact ⟨_, rfl, _, rfl, h1.2.1.trans h1.2.2.1.symm, hI⟩
  · simp only [if_neg q0, if_neg q1, if_neg q2, if_neg q3, if_neg q4, if_neg q5]
    exact ⟨_, rfl, _, rfl, rfl, hI⟩
