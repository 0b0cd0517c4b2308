/-! the text, cut into tokens -/
def txS (f : Nat → Int32) (n p : Nat) : Int32 := if p < n then f p &&& 255 else 0
def inR (lo hi : Nat) (x : Int32) : Bool := decide (nI lo ≤ x ∧ x ≤ nI hi)
def blK (x : Int32) : Bool := decide (x = 9) || (decide (x = 10) || (decide (x = 13) || decide (x = 32)))
/-- the end of a run, r bytes at most -/
def runS (P : Int32 → Bool) (T : Nat → Int32) : Nat → Nat → Nat
  | 0, p => p
  | r + 1, p => if P (T p) = true then runS P T r (p + 1) else p
theorem runS_le {P : Int32 → Bool} {T : Nat → Int32} : ∀ {r p : Nat}, p ≤ runS P T r p ∧ runS P T r p ≤ p + r := by
  intro r
  induction r with
  | zero => intro p; exact ⟨Nat.le_refl _, Nat.le_refl _⟩
  | succ r ih =>
    intro p
    rw [runS]
    split
    · have := ih (p := p + 1); omega
    · omega
theorem runS_all {P : Int32 → Bool} {T : Nat → Int32} : ∀ {r p j : Nat}, p ≤ j → j < runS P T r p → P (T j) = true := by
  intro r
  induction r with
  | zero => intro p j h1 h2; simp only [runS] at h2; omega
  | succ r ih =>
    intro p j h1 h2
    rw [runS] at h2
    by_cases h : P (T p) = true
    · rw [if_pos h] at h2
      by_cases hj : j = p
      · rw [hj]; exact h
      · exact ih (by omega) h2
    · rw [if_neg h] at h2; omega
/-- the class's byte at a place -/
theorem at_eq {n p : Nat} {σ : PS} (hn : n ≤ 2000) (h1 : gi σ 1 1 = nI n) (hp : p < 10000) : fX7_at (nI p) σ = some (if p < n then txS (gi σ 2) n p else -1, σ) := by
  unfold fX7_at txS
  rw [if_neg (nI_pos (by omega)), h1]
  by_cases h : p < n
  · rw [if_neg (nI_ge h (by omega)), if_neg (l_nle (k := 2000) (by rfl) (by omega) (by decide)), gd_t (inb_nI (by omega) (by decide)), nI_clamp (by omega), if_pos h, if_pos h]
  · rw [if_pos (nI_le (by omega) (by omega)), if_neg h]
theorem isBlank_eq (x : Int32) (σ : PS) : fX6_isBlank x σ = some (tb (blK x), σ) := by
  unfold fX6_isBlank blK
  by_cases h1 : x = 9
  · rw [if_pos h1, decide_eq_true h1]; rfl
  · rw [if_neg h1, decide_eq_false h1]
    by_cases h2 : x = 10
    · rw [if_pos h2, decide_eq_true h2]; rfl
    · rw [if_neg h2, decide_eq_false h2]
      by_cases h3 : x = 13
      · rw [if_pos h3, decide_eq_true h3]; rfl
      · rw [if_neg h3, decide_eq_false h3]
        by_cases h4 : x = 32
        · rw [if_pos h4, decide_eq_true h4]; rfl
        · rw [if_neg h4, decide_eq_false h4]; rfl
theorem within_tb (x : Int32) (lo hi : Nat) (σ : PS) : fX8_isWithin x (nI lo) (nI hi) σ = some (tb (inR lo hi x), σ) := by
  rw [isWithin_eq]
  unfold inR tv
  by_cases h : nI lo ≤ x ∧ x ≤ nI hi
  · rw [if_pos h, decide_eq_true h]; rfl
  · rw [if_neg h, decide_eq_false h]; rfl
/-- letters -/
def scE (n : Nat) (σ : PS) : Prop := n ≤ 2000 ∧ gi σ 1 1 = nI n
theorem scE_40 {n : Nat} {σ : PS} {j : Nat} {x : Int32} (h : scE n σ) : scE n (sI σ 40 j x) := ⟨h.1, by rw [gi_ne (by decide)]; exact h.2⟩
theorem word_ok {n : Nat} {Q : PS → Prop} : ∀ (r m p : Nat) (σ : PS), p + r = n → scE n σ → gi σ 40 1 = nI p → (∀ τ : PS, (∀ k j, (k = 40 → j ≠ 1) → gi τ k j = gi σ k j) → bkO τ = bkO σ → drO τ = drO σ → gi τ 40 1 = nI (runS (inR 97 122) (txS (gi σ 2) n) r p) → hO (fX6_takeWord_48 τ) Q) → hO (fX6_takeWord_0 (m + r + 1) σ) Q := by
  intro r
  induction r with
  | zero =>
    intro m p σ hp hE h1 hk
    rw [fX6_takeWord_0, hE.2, h1, if_pos (nI_le (by omega) (by have := hE.1; omega))]
    exact hk σ (fun _ _ _ => rfl) rfl rfl h1
  | succ r ih =>
    intro m p σ hp hE h1 hk
    have hn := hE.1
    rw [show m + (r + 1) + 1 = (m + r + 1) + 1 by omega, fX6_takeWord_0, hE.2, h1, if_neg (nI_ge (by omega) (by omega)), at_eq hn hE.2 (by omega), if_pos (by omega)]
    simp only [Option.bind_some]
    rw [show (97 : Int32) = nI 97 from rfl, show (122 : Int32) = nI 122 from rfl, within_tb]
    simp only [Option.bind_some]
    rw [ite_tb, h1, nI_1]
    rw [runS] at hk
    by_cases hl : inR 97 122 (txS (gi σ 2) n p) = true
    · rw [if_pos hl]
      rw [if_pos hl] at hk
      refine ih m (p + 1) _ (by omega) (scE_40 hE) gi_eq (fun τ t1 t2 t3 t4 => hk τ (fun k j h => ?_) t2 t3 ?_)
      · rw [t1 k j h]
        by_cases hk : k = 40
        · subst hk; rw [gi_nj (h rfl)]
        · rw [gi_ne hk]
      · rw [t4, show gi (sI σ 40 1 (nI (p + 1))) 2 = gi σ 2 from rfl]
    · rw [if_neg hl]
      rw [if_neg hl] at hk
      exact hk σ (fun _ _ _ => rfl) rfl rfl h1
/-- digits, and their number -/
def vlS (T : Nat → Int32) : Nat → Nat → Int32 → Int32
  | 0, _, v => v
  | r + 1, p, v => if inR 48 57 (T p) = true then vlS T r (p + 1) (v * 10 + T p - 48) else v
theorem int_ok {n : Nat} {Q : PS → Prop} : ∀ (r m p : Nat) (v : Int32) (σ : PS), p + r = n → scE n σ → gi σ 40 1 = nI p → gi σ 40 4 = v → (∀ τ : PS, (∀ k j, (k = 40 → j ≠ 1 ∧ j ≠ 4) → gi τ k j = gi σ k j) → bkO τ = bkO σ → drO τ = drO σ → gi τ 40 1 = nI (runS (inR 48 57) (txS (gi σ 2) n) r p) → gi τ 40 4 = vlS (txS (gi σ 2) n) r p v → hO (fX6_takeInt_79 τ) Q) → hO (fX6_takeInt_5 (m + r + 1) σ) Q := by
  intro r
  induction r with
  | zero =>
    intro m p v σ hp hE h1 h4 hk
    rw [fX6_takeInt_5, hE.2, h1, if_pos (nI_le (by omega) (by have := hE.1; omega))]
    exact hk σ (fun _ _ _ => rfl) rfl rfl h1 h4
  | succ r ih =>
    intro m p v σ hp hE h1 h4 hk
    have hn := hE.1
    rw [show m + (r + 1) + 1 = (m + r + 1) + 1 by omega, fX6_takeInt_5, hE.2, h1, if_neg (nI_ge (by omega) (by omega)), at_eq hn hE.2 (by omega), if_pos (by omega)]
    simp only [Option.bind_some]
    rw [show (48 : Int32) = nI 48 from rfl, show (57 : Int32) = nI 57 from rfl, within_tb]
    simp only [Option.bind_some]
    rw [ite_tb, h1, at_eq hn hE.2 (by omega), if_pos (show p < n by omega)]
    simp only [Option.bind_some]
    rw [h4, gi_nj (show (1 : Nat) ≠ 4 by decide), h1, nI_1]
    rw [runS, vlS] at hk
    by_cases hl : inR 48 57 (txS (gi σ 2) n p) = true
    · rw [if_pos hl]
      rw [if_pos hl, if_pos hl] at hk
      refine ih m (p + 1) (v * 10 + txS (gi σ 2) n p - 48) _ (by omega) (scE_40 (scE_40 hE)) gi_eq (by rw [gi_nj (by decide), gi_eq]; rfl) (fun τ t1 t2 t3 t4 t5 => hk τ (fun k j h => ?_) t2 t3 t4 t5)
      rw [t1 k j h]
      by_cases hk : k = 40
      · subst hk; rw [gi_nj (h rfl).1, gi_nj (h rfl).2]
      · rw [gi_ne hk, gi_ne hk]
    · rw [if_neg hl]
      rw [if_neg hl, if_neg hl] at hk
      exact hk σ (fun _ _ _ => rfl) rfl rfl h1 h4
