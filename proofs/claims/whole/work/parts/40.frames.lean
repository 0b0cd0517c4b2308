/-! FRAMES: what a function leaves as it was -/
def inS (S : List (Nat × Nat)) (k : Nat) : Bool := S.any (fun p => decide (p.1 ≤ k) && decide (k ≤ p.2))
def FRM (S : List (Nat × Nat)) (σ τ : PS) : Prop := (∀ k, inS S k = false → ∀ j, gi τ k j = gi σ k j) ∧ (∀ k, inS S k = false → ∀ j, gl τ k j = gl σ k j) ∧ bkO τ = bkO σ ∧ drO τ = drO σ
theorem FRM.rf {S : List (Nat × Nat)} {σ : PS} : FRM S σ σ := ⟨fun _ _ _ => rfl, fun _ _ _ => rfl, rfl, rfl⟩
theorem FRM.tr {S : List (Nat × Nat)} {σ τ υ : PS} (a : FRM S σ τ) (b : FRM S τ υ) : FRM S σ υ := ⟨fun k h j => (b.1 k h j).trans (a.1 k h j), fun k h j => (b.2.1 k h j).trans (a.2.1 k h j), b.2.2.1.trans a.2.2.1, b.2.2.2.trans a.2.2.2⟩
theorem FRM.i {S : List (Nat × Nat)} {σ τ : PS} {k j : Nat} {x : Int32} (a : FRM S σ τ) (hk : inS S k = true) : FRM S σ (sI τ k j x) := by
  refine ⟨fun c h b => ?_, a.2.1, a.2.2.1, a.2.2.2⟩
  show u2 τ.1 k j x c b = _
  unfold u2
  rw [if_neg (fun e => by rw [e, hk] at h; cases h)]
  exact a.1 c h b
theorem FRM.j {S : List (Nat × Nat)} {σ τ : PS} {k j : Nat} {x : Int64} (a : FRM S σ τ) (hk : inS S k = true) : FRM S σ (sJ τ k j x) := by
  refine ⟨a.1, fun c h b => ?_, a.2.2.1, a.2.2.2⟩
  show u2 τ.2.1 k j x c b = _
  unfold u2
  rw [if_neg (fun e => by rw [e, hk] at h; cases h)]
  exact a.2.1 c h b
/-- every range of S lies in one of S' -/
def subS (S S' : List (Nat × Nat)) : Bool := S.all (fun p => S'.any (fun q => decide (q.1 ≤ p.1) && decide (p.2 ≤ q.2)))
theorem subS_in {S S' : List (Nat × Nat)} (h : subS S S' = true) {k : Nat} (hk : inS S k = true) : inS S' k = true := by
  unfold inS at hk ⊢
  obtain ⟨p, hp, h1⟩ := List.any_eq_true.mp hk
  have h2 := List.all_eq_true.mp h p hp
  obtain ⟨q, hq, h3⟩ := List.any_eq_true.mp h2
  refine List.any_eq_true.mpr ⟨q, hq, ?_⟩
  simp only [Bool.and_eq_true, decide_eq_true_eq] at h1 h3 ⊢
  omega
theorem FRM.mono {S S' : List (Nat × Nat)} {σ τ : PS} (a : FRM S σ τ) (h : subS S S' = true) : FRM S' σ τ := by
  have e : ∀ k, inS S' k = false → inS S k = false := fun k hk => by
    cases q : inS S k with
    | false => rfl
    | true => rw [subS_in h q] at hk; cases hk
  exact ⟨fun k hk => a.1 k (e k hk), fun k hk => a.2.1 k (e k hk), a.2.2⟩
theorem inS_row {S : List (Nat × Nat)} {q n : Nat} {i : Int32} (h : subS [(q + 1, q + n)] S = true) (hi : inb i n = true) : inS S (rw_ q i) = true := by
  have := inb_lt hi
  refine subS_in h ?_
  unfold inS rw_
  simp
  omega
theorem inS_bk {S : List (Nat × Nat)} {b : Nat} (j : Nat) (hb : isBk b = true) (h1 : inS S (116 + j) = true) (h2 : inS S (124 + j) = true) : inS S (b + j) = true := by
  rcases bk_of hb with rfl | rfl
  · exact h1
  · exact h2
theorem inS_bk0 {S : List (Nat × Nat)} {b : Nat} (hb : isBk b = true) (h1 : inS S 116 = true) (h2 : inS S 124 = true) : inS S b = true := inS_bk 0 hb h1 h2
theorem gd_some {α : Type} {c : Bool} {o : Option α} {r : α} (h : gd c o = some r) : c = true ∧ o = some r := by
  cases c
  · cases h
  · exact ⟨rfl, h⟩
theorem ite_some {α : Type} {c : Prop} {i : Decidable c} {A B : Option α} {r : α} (h : @ite _ c i A B = some r) : (c ∧ A = some r) ∨ (¬ c ∧ B = some r) := by
  by_cases hc : c
  · rw [if_pos hc] at h
    exact Or.inl ⟨hc, h⟩
  · rw [if_neg hc] at h
    exact Or.inr ⟨hc, h⟩
theorem bind_some {α β : Type} {o : Option α} {k : α → Option β} {r : β} (h : o.bind k = some r) : ∃ q, o = some q ∧ k q = some r := by
  cases o with
  | none => cases h
  | some q => exact ⟨q, rfl, h⟩
