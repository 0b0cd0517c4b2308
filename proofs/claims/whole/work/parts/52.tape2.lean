theorem gi_k {σ : PS} {k j : Nat} {x : Int32} {b : Nat} : gi (sI σ k j x) k b = if b = j then x else gi σ k b := by rw [gi_sI, if_pos rfl]
def by4 (f : Int32 → Int32) (n : Nat) (h : Nat → Int32) (j : Nat) : Int32 := if j = n then f 24 else if j = n + 1 then f 16 else if j = n + 2 then f 8 else if j = n + 3 then f 0 else h j
theorem FU_k (k : Nat) (h : k ≤ 100000) : ∃ m, FU = m + k := ⟨100000 - k, by unfold FU; omega⟩
theorem app_ex (x : Int32) (σ : PS) (n : Nat) (hn : n + 4 ≤ 2000) (hl : gi σ 1 1 = nI n) : ∃ σ', fX7_append x σ = some σ' ∧ gi σ' 1 1 = nI (n + 4) ∧ ∀ j, gi σ' 2 j = by4 (byM x) n (gi σ 2) j := by
  unfold fX7_append
  obtain ⟨m, hm⟩ := FU_k 5 (by decide)
  rw [hm, show m + 5 = m + 1 + 1 + 1 + 1 + 1 from rfl, app_step _ n x 24 σ (by decide) (by omega) hl]
  rw [show (24 : Int32) + (-8) = 16 by decide, app_step _ (n + 1) x 16 _ (by decide) (by omega) gi_eq]
  rw [show (16 : Int32) + (-8) = 8 by decide, app_step _ (n + 2) x 8 _ (by decide) (by omega) (by rw [gi_eq])]
  rw [show (8 : Int32) + (-8) = 0 by decide, app_step _ (n + 3) x 0 _ (by decide) (by omega) (by rw [gi_eq])]
  rw [show (0 : Int32) + (-8) = -8 by decide, fX7_append_3, if_pos (by decide)]
  refine ⟨_, rfl, ?_, fun j => ?_⟩
  · rw [gi_eq]
  rw [gi_ne (by decide), gi_k, gi_ne (by decide), gi_k, gi_ne (by decide), gi_k, gi_ne (by decide), gi_k, byCM24, byCM16, byCM8, byCM0]
  unfold by4
  by_cases h3 : j = n + 3
  · rw [if_pos h3, if_neg (by omega), if_neg (by omega), if_neg (by omega), if_pos h3]
  · rw [if_neg h3]
    by_cases h2 : j = n + 2
    · rw [if_pos h2, if_neg (by omega), if_neg (by omega), if_pos h2]
    · rw [if_neg h2]
      by_cases h1 : j = n + 1
      · rw [if_pos h1, if_neg (by omega), if_pos h1]
      · rw [if_neg h1]
        by_cases h0 : j = n
        · rw [if_pos h0, if_pos h0]
        · rw [if_neg h0, if_neg h0, if_neg h1, if_neg h2, if_neg h3]
theorem put_ex (x : Int32) (σ : PS) (n : Nat) (hn : n + 4 ≤ 2000) (hl : gi σ 132 2 = nI n) : ∃ σ', fX9_put x σ = some σ' ∧ gi σ' 132 2 = nI (n + 4) ∧ ∀ j, gi σ' 133 j = by4 (byM x) n (gi σ 133) j := by
  unfold fX9_put
  obtain ⟨m, hm⟩ := FU_k 5 (by decide)
  rw [hm, show m + 5 = m + 1 + 1 + 1 + 1 + 1 from rfl, put_step _ n x 24 σ (by decide) (by omega) hl]
  rw [show (24 : Int32) + (-8) = 16 by decide, put_step _ (n + 1) x 16 _ (by decide) (by omega) gi_eq]
  rw [show (16 : Int32) + (-8) = 8 by decide, put_step _ (n + 2) x 8 _ (by decide) (by omega) (by rw [gi_eq])]
  rw [show (8 : Int32) + (-8) = 0 by decide, put_step _ (n + 3) x 0 _ (by decide) (by omega) (by rw [gi_eq])]
  rw [show (0 : Int32) + (-8) = -8 by decide, fX9_put_3, if_pos (by decide)]
  refine ⟨_, rfl, ?_, fun j => ?_⟩
  · rw [gi_eq]
  rw [gi_ne (by decide), gi_k, gi_ne (by decide), gi_k, gi_ne (by decide), gi_k, gi_ne (by decide), gi_k]
  unfold by4
  by_cases h3 : j = n + 3
  · rw [if_pos h3, if_neg (by omega), if_neg (by omega), if_neg (by omega), if_pos h3]
  · rw [if_neg h3]
    by_cases h2 : j = n + 2
    · rw [if_pos h2, if_neg (by omega), if_neg (by omega), if_pos h2]
    · rw [if_neg h2]
      by_cases h1 : j = n + 1
      · rw [if_pos h1, if_neg (by omega), if_pos h1]
      · rw [if_neg h1]
        by_cases h0 : j = n
        · rw [if_pos h0, if_pos h0]
        · rw [if_neg h0, if_neg h0, if_neg h1, if_neg h2, if_neg h3]
