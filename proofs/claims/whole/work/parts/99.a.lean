/-! read: both sides -/
def CRB (σ : PS) : Prop := ∀ s, s ≤ 1 → ∃ n g, CRn s n g σ
def Inv3 (σ : PS) : Prop := Inv σ ∧ (∀ j, gl σ 139 j = gl σ0 139 j) ∧ CRB σ
def OPS3 (F G : PS → Option (Int32 × PS)) : Prop := ∀ σ, Inv3 σ → hO (F σ) (fun q => hO (G q.2) (fun r => q.1 = r.1 ∧ Inv3 r.2))
theorem isN_in {x : Int32} {p a b : Nat} (h : isN x a b) (hx : x = nI p) (hp : p < 2 ^ 31) (hb : b < 2 ^ 31) : a ≤ p ∧ p ≤ b := by
  obtain ⟨k, h1, h2, h3⟩ := h
  rw [hx] at h1
  have := nIeq_lit h1 hp (by omega)
  omega
theorem rlM_half {σ τ : PS} {s n g : Nat} (hs : s ≤ 1) (hc : CRn s n g σ) (h2 : ∀ a f, 148 ≤ a → a ≤ 152 → f < 200 → gi τ a (200 * s + f) = gi σ a (200 * s + f)) (h3 : ∀ j, 500 * s ≤ j → j < 500 * s + 500 → gi τ 153 j = gi σ 153 j ∧ gi τ 154 j = gi σ 154 j) : ∀ {l : List RE} {f : Nat}, f + l.length ≤ g → rlM σ s f l → rlM τ s f l := by
  intro l
  induction l with
  | nil => intro f _ _; trivial
  | cons r l ih =>
    intro f hf h
    simp only [List.length_cons] at hf
    have hg := hc.1.2.1
    obtain ⟨⟨a1, a2, p, a3, a4, a5, a6, a7, a8⟩, h⟩ := h
    obtain ⟨q1, q2, q3⟩ := hc.2.2 f (by omega)
    have r1 := isN_in q1 a3 (by omega) (by omega)
    have r2 := isN_in q3 a5 (by omega) (by omega)
    refine ⟨⟨by rw [h2 _ _ (by decide) (by decide) (by omega)]; exact a1, by rw [h2 _ _ (by decide) (by decide) (by omega)]; exact a2, p, by rw [h2 _ _ (by decide) (by decide) (by omega)]; exact a3, by rw [h2 _ _ (by decide) (by decide) (by omega)]; exact a4, by rw [h2 _ _ (by decide) (by decide) (by omega)]; exact a5, a6, sgM_congr (fun j j1 j2 => h3 j (by omega) (by omega)) a7, sgM_congr (fun j j1 j2 => h3 j (by omega) (by omega)) a8⟩, ih (by omega) h⟩
theorem bmR_half {σ τ : PS} {s n g : Nat} (hs : s ≤ 1) (hc : CRn s n g σ) (h1 : ∀ a i, 141 ≤ a → a ≤ 146 → i < 20 → gi τ a (20 * s + i) = gi σ a (20 * s + i)) (h2 : ∀ a f, 148 ≤ a → a ≤ 152 → f < 200 → gi τ a (200 * s + f) = gi σ a (200 * s + f)) (h3 : ∀ j, 500 * s ≤ j → j < 500 * s + 500 → gi τ 153 j = gi σ 153 j ∧ gi τ 154 j = gi σ 154 j) : ∀ {l : List RU} {k : Nat}, k + l.length ≤ n → bmR σ s k l → bmR τ s k l := by
  intro l
  induction l with
  | nil => intro k _ _; trivial
  | cons r l ih =>
    intro k hk h
    simp only [List.length_cons] at hk
    have hn := hc.1.1
    obtain ⟨⟨a1, a2, ⟨p, a3, a4, a5, a6⟩, f, b1, b2, b3, b4⟩, h⟩ := h
    obtain ⟨q1, q2, q3⟩ := hc.2.1 k (by omega)
    have hg := hc.1.2.1
    have r1 := isN_in q1 a3 (by omega) (by omega)
    have r2 := isN_in q2 a4 (by omega) (by omega)
    have r3 := isN_in q3 b2 (by omega) (by omega)
    refine ⟨⟨by rw [h1 _ _ (by decide) (by decide) (by omega)]; exact a1, by rw [h1 _ _ (by decide) (by decide) (by omega)]; exact a2, ⟨p, by rw [h1 _ _ (by decide) (by decide) (by omega)]; exact a3, by rw [h1 _ _ (by decide) (by decide) (by omega)]; exact a4, a5, sgM_congr (fun j j1 j2 => h3 j (by omega) (by omega)) a6⟩, f, by rw [h1 _ _ (by decide) (by decide) (by omega)]; exact b1, by rw [h1 _ _ (by decide) (by decide) (by omega)]; exact b2, b3, rlM_half hs hc h2 h3 r3.2 b4⟩, ih (by omega) h⟩
theorem nokg_1 {s k i : Nat} (hs : s ≤ 1) (h1 : 141 ≤ k) (h2 : k ≤ 146) (hi : i < 20) : ¬ okg (1 - s) k (20 * s + i) := by
  rintro (((h | h | h | h | h | h) | h | h) | h) <;> omega
theorem nokg_2 {s k i : Nat} (hs : s ≤ 1) (h1 : 148 ≤ k) (h2 : k ≤ 152) (hi : i < 200) : ¬ okg (1 - s) k (200 * s + i) := by
  rintro (((h | h | h | h | h | h) | h | h) | h) <;> omega
theorem nokg_3 {s k i : Nat} (hs : s ≤ 1) (h1 : k = 153 ∨ k = 154) (hi : 500 * s ≤ i) (hi2 : i < 500 * s + 500) : ¬ okg (1 - s) k i := by
  rintro (((h | h | h | h | h | h) | h | h) | h) <;> omega
theorem nokg_0 {s k : Nat} (hs : s ≤ 1) (h1 : k = 140 ∨ k = 147) : ¬ okg (1 - s) k s := by
  rintro (((h | h | h | h | h | h) | h | h) | h) <;> omega
theorem nokg_x {s k j : Nat} (h1 : k < 132 ∨ k = 133 ∨ 156 ≤ k) : ¬ okg s k j := by
  rintro (((h | h | h | h | h | h) | h | h) | h) <;> omega
theorem nokf_y {s j : Nat} (h1 : j = 18 ∨ j = 58 ∨ 38 ≤ j) : ¬ okf s 132 j := by
  rintro ((h | h | h | h | h | h) | h | h) <;> omega
theorem nokg_y {s j : Nat} (h1 : 38 ≤ j) (h2 : j ≠ 58) : ¬ okg s 132 j := by
  rintro (((h | h | h | h | h | h) | h | h) | h) <;> omega
theorem finQ_le {K P : Nat → Nat} {V : Nat → Int32} : ∀ (q t : Nat) {A : QS}, (finQ K P V q t A).1 ≤ 2 := by
  intro q
  induction q with
  | zero => intro t A; show 2 ≤ 2; exact Nat.le_refl _
  | succ q ih =>
    intro t A
    rw [finQ]
    split
    · split
      · show 0 ≤ 2; omega
      · split
        · show 2 ≤ 2; omega
        · exact ih _
    · show 1 ≤ 2; omega
