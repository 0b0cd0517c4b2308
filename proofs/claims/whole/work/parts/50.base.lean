/-! THE PURE PART: reads over writes, and the small functions -/
theorem gi_sI (σ : PS) (k j : Nat) (x : Int32) (a b : Nat) : gi (sI σ k j x) a b = if a = k then (if b = j then x else gi σ a b) else gi σ a b := rfl
theorem gi_ne {σ : PS} {k j : Nat} {x : Int32} {a b : Nat} (h : a ≠ k) : gi (sI σ k j x) a b = gi σ a b := by rw [gi_sI, if_neg h]
theorem gi_eq {σ : PS} {k j : Nat} {x : Int32} : gi (sI σ k j x) k j = x := by rw [gi_sI, if_pos rfl, if_pos rfl]
theorem gi_nj {σ : PS} {k j : Nat} {x : Int32} {b : Nat} (h : b ≠ j) : gi (sI σ k j x) k b = gi σ k b := by rw [gi_sI, if_pos rfl, if_neg h]
theorem gl_sI (σ : PS) (k j : Nat) (x : Int32) (a b : Nat) : gl (sI σ k j x) a b = gl σ a b := rfl
theorem bk_sI (σ : PS) (k j : Nat) (x : Int32) : bkO (sI σ k j x) = bkO σ := rfl
theorem dr_sI (σ : PS) (k j : Nat) (x : Int32) : drO (sI σ k j x) = drO σ := rfl
theorem gi_sJ (σ : PS) (k j : Nat) (x : Int64) (a b : Nat) : gi (sJ σ k j x) a b = gi σ a b := rfl
theorem bk_sJ (σ : PS) (k j : Nat) (x : Int64) : bkO (sJ σ k j x) = bkO σ := rfl
theorem dr_sJ (σ : PS) (k j : Nat) (x : Int64) : drO (sJ σ k j x) = drO σ := rfl
theorem gd_t {α : Type} {c : Bool} {o : Option α} (h : c = true) : gd c o = o := by subst h; rfl
theorem inb_nI {i n : Nat} (h : i < n) (hn : n < 2 ^ 31) : inb (nI i) n = true := by
  unfold inb
  rw [nI_clamp (by omega), Bool.and_eq_true, decide_eq_true_eq, decide_eq_true_eq]
  exact ⟨nI_pos' (by omega), h⟩
/-- an answer of truth -/
def tv (c : Prop) [Decidable c] : Int32 := if c then 1 else 0
theorem is01_tv {c : Prop} [Decidable c] : is01 (tv c) = true := by
  unfold tv
  split <;> rfl
theorem tv_0 {c : Prop} [Decidable c] : tv c = 0 ↔ ¬ c := by
  unfold tv
  split
  · simp [*]
  · simp [*]
theorem isWithin_eq (a lo hi : Int32) (σ : PS) : fX8_isWithin a lo hi σ = some (tv (lo ≤ a ∧ a ≤ hi), σ) := by
  unfold fX8_isWithin tv
  by_cases h1 : a < lo
  · rw [if_pos h1, if_neg (fun q => absurd q.1 (Int32.not_le.mpr h1))]
  · rw [if_neg h1]
    by_cases h2 : hi < a
    · rw [if_pos h2, if_neg (fun q => absurd q.2 (Int32.not_le.mpr h2))]
    · rw [if_neg h2, if_pos ⟨Int32.not_lt.mp h1, Int32.not_lt.mp h2⟩]
theorem isDay_eq (a : Int32) (σ : PS) : fX8_isDay a σ = some (tv (0 ≤ a ∧ a ≤ 59), σ) := by
  unfold fX8_isDay
  rw [isWithin_eq]
  show gd (is01 (tv (0 ≤ a ∧ a ≤ 59))) _ = _
  rw [gd_t is01_tv]
theorem isLord_eq (a : Int32) (σ : PS) : fX8_isLord a σ = some (tv (0 ≤ a ∧ a ≤ 4), σ) := by
  unfold fX8_isLord
  rw [isWithin_eq]
  show gd (is01 (tv (0 ≤ a ∧ a ≤ 4))) _ = _
  rw [gd_t is01_tv]
theorem forget_eq (σ : PS) : fX1_forget σ = some (sI σ 41 13 (-1)) := by
  unfold fX1_forget
  rfl
