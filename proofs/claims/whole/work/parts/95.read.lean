/-! reading, as both do it: a walk over the tokens -/
def rkW (k : Nat) : Nat := if k = 20 then 2 else 1
def rlE (r : Nat) : List Nat → List IT
  | [] => []
  | k :: w => if k = 25 then [] else if rkW k < r then [] else (k - 16, 0) :: rlE r w
def rlR (r : Nat) : List Nat → List Nat
  | [] => []
  | k :: w => if k = 25 then k :: w else if rkW k < r then k :: w else rlR r w
def opnW : List Nat → Nat
  | [] => 0
  | k :: w => if k = 25 then opnW w + 1 else opnW w
def opsW : List Nat → Nat
  | [] => 0
  | k :: w => if k = 25 then opsW w else opsW w + 1
def okW : Nat → List Nat → Prop
  | _, [] => True
  | r, k :: w => if k = 25 then okW 3 w else (18 ≤ k ∧ k ≤ 20) ∧ rkW k < r ∧ okW (rkW k) w
theorem rkW_2 (k : Nat) : 1 ≤ rkW k ∧ rkW k ≤ 2 := by unfold rkW; split <;> omega
theorem okW_mono {w : List Nat} {r s : Nat} (h : okW r w) (hr : r ≤ s) : okW s w := by
  cases w with
  | nil => trivial
  | cons k w =>
    simp only [okW] at h ⊢
    by_cases hk : k = 25
    · rw [if_pos hk] at h ⊢; exact h
    · rw [if_neg hk] at h ⊢; exact ⟨h.1, by omega, h.2.2⟩
theorem okW_bd : ∀ {w : List Nat} {r : Nat}, 1 ≤ r → okW r w → opsW w + 1 ≤ r + 2 * opnW w := by
  intro w
  induction w with
  | nil => intro r hr _; simp only [opsW, opnW]; omega
  | cons k w ih =>
    intro r hr h
    simp only [okW, opsW, opnW] at h ⊢
    by_cases hk : k = 25
    · rw [if_pos hk] at h; rw [if_pos hk, if_pos hk]
      have := ih (by omega) h
      omega
    · rw [if_neg hk] at h; rw [if_neg hk, if_neg hk]
      have h2 := ih (rkW_2 k).1 h.2.2
      omega
theorem len_W : ∀ w : List Nat, w.length = opsW w + opnW w := by
  intro w
  induction w with
  | nil => rfl
  | cons k w ih =>
    simp only [List.length_cons, opsW, opnW]
    by_cases hk : k = 25
    · rw [if_pos hk, if_pos hk]; omega
    · rw [if_neg hk, if_neg hk]; omega
/-- letting out: what stays, and what comes -/
theorem rl_ok : ∀ {w : List Nat} {r s : Nat}, okW s w → 1 ≤ r → okW r (rlR r w) ∧ opnW (rlR r w) = opnW w ∧ opsW (rlR r w) + (rlE r w).length = opsW w := by
  intro w
  induction w with
  | nil => intro r s _ _; exact ⟨trivial, rfl, rfl⟩
  | cons k w ih =>
    intro r s h hr
    simp only [okW] at h
    by_cases hk : k = 25
    · rw [if_pos hk] at h
      simp only [rlR, rlE]
      rw [if_pos hk, if_pos hk]
      refine ⟨?_, rfl, by simp⟩
      simp only [okW]
      rw [if_pos hk]
      exact h
    · rw [if_neg hk] at h
      simp only [rlR, rlE]
      rw [if_neg hk, if_neg hk]
      by_cases hr2 : rkW k < r
      · rw [if_pos hr2, if_pos hr2]
        refine ⟨?_, rfl, by simp⟩
        simp only [okW]
        rw [if_neg hk]
        exact ⟨h.1, hr2, h.2.2⟩
      · rw [if_neg hr2, if_neg hr2]
        obtain ⟨a, b, c⟩ := ih h.2.2 hr
        refine ⟨a, ?_, ?_⟩
        · rw [b]; simp only [opnW]; rw [if_neg hk]
        · simp only [opsW, List.length_cons]; rw [if_neg hk]; omega
/-- with rank 1 all of the level comes -/
theorem rl_1 : ∀ {w : List Nat}, rlR 1 w = [] ∨ ∃ v, rlR 1 w = 25 :: v := by
  intro w
  induction w with
  | nil => exact Or.inl rfl
  | cons k w ih =>
    simp only [rlR]
    by_cases hk : k = 25
    · rw [if_pos hk, hk]; exact Or.inr ⟨w, rfl⟩
    · rw [if_neg hk, if_neg (by have := (rkW_2 k).1; omega)]; exact ih
theorem rl_0 {w : List Nat} (h : opnW w = 0) : rlR 1 w = [] := by
  induction w with
  | nil => rfl
  | cons k w ih =>
    simp only [opnW] at h
    simp only [rlR]
    by_cases hk : k = 25
    · rw [if_pos hk] at h; omega
    · rw [if_neg hk] at h; rw [if_neg hk, if_neg (by have := (rkW_2 k).1; omega)]; exact ih h
theorem rl_dp {M : Nat} : ∀ {w : List Nat} {r d : Nat}, opsW w < d → okW 3 w ∨ okW r w ∨ (∃ s, okW s w) → dpI M d (rlE r w) (d - (rlE r w).length) := by
  intro w
  induction w with
  | nil => intro r d _ _; simp [rlE, dpI]
  | cons k w ih =>
    intro r d hd h
    have h' : ∃ s, okW s (k :: w) := by
      rcases h with h | h | h
      · exact ⟨3, h⟩
      · exact ⟨r, h⟩
      · exact h
    obtain ⟨s, hs⟩ := h'
    simp only [okW] at hs
    simp only [opsW] at hd
    simp only [rlE]
    by_cases hk : k = 25
    · rw [if_pos hk]; simp [dpI]
    · rw [if_neg hk] at hs hd
      rw [if_neg hk]
      by_cases hr : rkW k < r
      · rw [if_pos hr]; simp [dpI]
      · rw [if_neg hr]
        have e := ih (r := r) (d := d - 1) (by omega) (Or.inr (Or.inr ⟨_, hs.2.2⟩))
        simp only [dpI, List.length_cons]
        rw [if_neg (by omega)]
        refine ⟨by omega, ?_⟩
        rw [show d - ((rlE r w).length + 1) = d - 1 - (rlE r w).length by omega]
        exact e
theorem rl_wf : ∀ {w : List Nat} {r s : Nat}, okW s w → ∀ q ∈ rlE r w, wfI q := by
  intro w
  induction w with
  | nil => intro r s _ q hq; cases hq
  | cons k w ih =>
    intro r s h q hq
    simp only [okW] at h
    simp only [rlE] at hq
    by_cases hk : k = 25
    · rw [if_pos hk] at hq; cases hq
    · rw [if_neg hk] at h hq
      by_cases hr : rkW k < r
      · rw [if_pos hr] at hq; cases hq
      · rw [if_neg hr] at hq
        rcases List.mem_cons.mp hq with rfl | hq
        · exact Or.inr (Or.inr (by simp only; omega))
        · exact ih h.2.2 q hq
