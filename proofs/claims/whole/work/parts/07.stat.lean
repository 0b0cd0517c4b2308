/-! THE HEAP BEHIND THE CONSTRUCTORS: 193 cells whose kinds and references stay, but for the two books of the road -/
abbrev PS : Type := (Nat → Nat → Int32) × (Nat → Nat → Int64) × Nat × Nat
def KD0 : List (Nat × Nat) := [(8, 7), (7, 2), (11, 2000), (2, 16), (10, 8), (10, 8), (10, 8), (10, 8), (14, 8), (10, 3), (10, 3), (10, 3), (10, 3), (10, 3), (10, 3), (10, 3), (10, 3), (10, 6), (10, 6), (10, 6), (10, 6), (10, 6), (10, 6), (10, 6), (10, 60), (0, 5), (10, 300), (10, 300), (12, 300), (14, 8), (10, 60), (10, 60), (10, 60), (10, 60), (10, 60), (10, 60), (10, 60), (10, 60), (4, 9), (10, 32), (6, 5), (1, 14), (10, 8), (14, 6), (10, 60), (10, 60), (10, 60), (10, 60), (10, 60), (10, 60), (14, 6), (10, 60), (10, 60), (10, 60), (10, 60), (10, 60), (10, 60), (14, 6), (10, 60), (10, 60), (10, 60), (10, 60), (10, 60), (10, 60), (14, 6), (10, 60), (10, 60), (10, 60), (10, 60), (10, 60), (10, 60), (14, 6), (10, 60), (10, 60), (10, 60), (10, 60), (10, 60), (10, 60), (14, 6), (10, 60), (10, 60), (10, 60), (10, 60), (10, 60), (10, 60), (14, 6), (10, 60), (10, 60), (10, 60), (10, 60), (10, 60), (10, 60), (14, 8), (10, 60), (10, 60), (10, 60), (10, 60), (10, 60), (10, 60), (10, 60), (10, 60), (14, 5), (10, 60), (10, 60), (10, 60), (10, 60), (10, 60), (3, 12), (10, 6), (10, 6), (10, 6), (10, 6), (10, 6), (10, 3), (10, 3), (10, 3), (5, 9), (10, 20), (10, 20), (10, 20), (10, 20), (10, 20), (10, 400), (10, 32), (5, 9), (10, 20), (10, 20), (10, 20), (10, 20), (10, 20), (10, 400), (10, 32), (9, 80), (11, 2000), (11, 2000), (10, 403), (10, 403), (10, 403), (13, 403), (13, 14), (10, 2), (10, 40), (10, 40), (10, 40), (10, 40), (10, 40), (10, 40), (10, 2), (10, 400), (10, 400), (10, 400), (10, 400), (12, 400), (10, 1000), (10, 1000), (10, 48), (10, 8), (10, 8), (10, 8), (10, 8), (10, 24), (10, 6), (10, 6), (10, 6), (10, 6), (10, 6), (10, 6), (10, 6), (10, 60), (10, 300), (10, 300), (10, 300), (10, 360), (10, 360), (10, 360), (10, 360), (10, 360), (10, 360), (10, 360), (10, 480), (10, 300), (12, 480), (10, 6), (10, 6), (10, 6), (10, 6), (10, 5), (10, 8), (10, 500), (10, 6), (10, 6), (10, 6), (10, 6)]
def RF0 : List (List (Option Nat)) := [[some 1, some 38, some 3, some 25, some 41, some 116, some 124], [some 2, none], [], [none, some 4, some 5, some 6, some 7, some 8, none, some 17, some 18, some 19, some 20, some 21, some 22, some 23, none, some 24], [], [], [], [], [some 9, some 10, some 11, some 12, some 13, some 14, some 15, some 16], [], [], [], [], [], [], [], [], [], [], [], [], [], [], [], [], [none, some 26, some 27, some 28, some 29], [], [], [], [some 30, some 31, some 32, some 33, some 34, some 35, some 36, some 37], [], [], [], [], [], [], [], [], [some 40, some 39, none, none, none, none, none, none, none], [], [some 1, none, none, none, none], [some 3, some 25, some 107, some 42, some 43, some 50, some 57, some 64, some 71, some 78, some 85, some 92, some 101, none], [], [some 44, some 45, some 46, some 47, some 48, some 49], [], [], [], [], [], [], [some 51, some 52, some 53, some 54, some 55, some 56], [], [], [], [], [], [], [some 58, some 59, some 60, some 61, some 62, some 63], [], [], [], [], [], [], [some 65, some 66, some 67, some 68, some 69, some 70], [], [], [], [], [], [], [some 72, some 73, some 74, some 75, some 76, some 77], [], [], [], [], [], [], [some 79, some 80, some 81, some 82, some 83, some 84], [], [], [], [], [], [], [some 86, some 87, some 88, some 89, some 90, some 91], [], [], [], [], [], [], [some 93, some 94, some 95, some 96, some 97, some 98, some 99, some 100], [], [], [], [], [], [], [], [], [some 102, some 103, some 104, some 105, some 106], [], [], [], [], [], [some 3, none, none, some 108, some 109, some 110, none, some 111, some 112, some 113, some 114, some 115], [], [], [], [], [], [], [], [], [some 117, some 118, some 119, some 120, some 121, some 122, some 123, none, none], [], [], [], [], [], [], [], [some 125, some 126, some 127, some 128, some 129, some 130, some 131, none, none], [], [], [], [], [], [], [], [none, some 133, none, some 134, none, some 135, some 136, some 137, some 138, some 139, none, none, none, none, none, none, none, none, none, none, some 140, some 141, some 142, some 143, some 144, some 145, some 146, some 147, some 148, some 149, some 150, some 151, some 152, none, some 153, some 154, some 155, none, none, some 156, some 157, some 158, some 159, some 160, none, some 161, some 162, some 163, some 164, some 165, some 166, some 167, none, some 168, none, some 169, some 170, some 171, none, some 172, some 173, some 174, some 175, some 176, some 177, some 178, some 179, some 180, some 181, some 182, some 183, some 184, some 185, some 186, some 187, some 188, some 189, some 190, some 191, some 192], [], [], [], [], [], [], [], [], [], [], [], [], [], [], [], [], [], [], [], [], [], [], [], [], [], [], [], [], [], [], [], [], [], [], [], [], [], [], [], [], [], [], [], [], [], [], [], [], [], [], [], [], [], [], [], [], [], [], [], []]
def SH0 : Nat × (Nat → Nat × Nat) := (193, fun k => KD0.getD k (99, 0))
def RFs (bk dr : Nat) (k j : Nat) : Option Nat := if k = 0 then (if j = 5 then some bk else if j = 6 then some dr else (RF0.getD k []).getD j none) else (RF0.getD k []).getD j none
def HP (σ : PS) : PH := (SH0, σ.1, σ.2.1, RFs σ.2.2.1 σ.2.2.2)
def gi (σ : PS) (k j : Nat) : Int32 := σ.1 k j
def gl (σ : PS) (k j : Nat) : Int64 := σ.2.1 k j
def sI (σ : PS) (k j : Nat) (x : Int32) : PS := (u2 σ.1 k j x, σ.2)
def sJ (σ : PS) (k j : Nat) (x : Int64) : PS := (σ.1, u2 σ.2.1 k j x, σ.2.2)
def bkO (σ : PS) : Nat := σ.2.2.1
def drO (σ : PS) : Nat := σ.2.2.2
def sB (σ : PS) (q : Nat) : PS := (σ.1, σ.2.1, q, σ.2.2.2)
def sD (σ : PS) (q : Nat) : PS := (σ.1, σ.2.1, σ.2.2.1, q)
def isBk (b : Nat) : Bool := b == 116 || b == 124
def rw_ (q : Nat) (i : Int32) : Nat := q + 1 + i.toNatClampNeg
def inb (i : Int32) (n : Nat) : Bool := decide (0 ≤ i) && decide (i.toNatClampNeg < n)
def is01 (x : Int32) : Bool := x == 0 || x == 1
def gd {α : Type} (c : Bool) (o : Option α) : Option α := match c with
  | true => o
  | false => none
def hO {α : Type} (o : Option α) (P : α → Prop) : Prop := ∃ a, o = some a ∧ P a
theorem hO_some {α : Type} {a : α} {P : α → Prop} (h : hO (some a) P) : P a := by
  obtain ⟨b, e, p⟩ := h
  cases e
  exact p
theorem hO_none {α : Type} {P : α → Prop} (h : hO none P) : False := by
  obtain ⟨b, e, p⟩ := h
  cases e
theorem hO_gd {α : Type} {c : Bool} {o : Option α} {P : α → Prop} (h : hO (gd c o) P) : c = true ∧ hO o P := by
  cases c
  · exact (hO_none h).elim
  · exact ⟨rfl, h⟩
theorem hO_t {α : Type} {c : Prop} {i : Decidable c} {A B : Option α} {P : α → Prop} (hc : c) (h : hO (@ite _ c i A B) P) : hO A P := by
  rw [if_pos hc] at h
  exact h
theorem hO_f {α : Type} {c : Prop} {i : Decidable c} {A B : Option α} {P : α → Prop} (hc : ¬ c) (h : hO (@ite _ c i A B) P) : hO B P := by
  rw [if_neg hc] at h
  exact h
theorem inb_in {i : Int32} {n : Nat} (h : inb i n = true) : vp_in i n := by
  unfold inb at h
  rw [Bool.and_eq_true, decide_eq_true_eq, decide_eq_true_eq] at h
  intro q
  rcases q with q | q
  · exact absurd h.1 (by rw [Int32.not_le]; exact q)
  · omega
theorem inb_lt {i : Int32} {n : Nat} (h : inb i n = true) : i.toNatClampNeg < n := by
  unfold inb at h
  rw [Bool.and_eq_true, decide_eq_true_eq, decide_eq_true_eq] at h
  exact h.2
theorem is01_n {x : Int32} (h : is01 x = true) : narrow .boolean (.int x) = .int x := by
  apply vp_nar_bool_01
  simpa [is01] using h
theorem bk_of {b : Nat} (h : isBk b = true) : b = 116 ∨ b = 124 := by
  simpa [isBk] using h
theorem bk_lt {b : Nat} (h : isBk b = true) : b < SH0.1 := by
  rcases bk_of h with rfl | rfl <;> decide
theorem bk_ob {b : Nat} (h : isBk b = true) : SH0.2 b = (5, 9) := by
  rcases bk_of h with rfl | rfl <;> rfl
theorem bk_rf {b : Nat} (h : isBk b = true) (bk dr j : Nat) (hj : j < 7) : RFs bk dr b j = some (b + 1 + j) := by
  rcases bk_of h with rfl | rfl <;> (rcases (show j = 0 ∨ j = 1 ∨ j = 2 ∨ j = 3 ∨ j = 4 ∨ j = 5 ∨ j = 6 by omega) with rfl | rfl | rfl | rfl | rfl | rfl | rfl) <;> rfl
theorem bka_lt {b : Nat} (h : isBk b = true) (j : Nat) (hj : j < 8) : b + j < SH0.1 := by
  rcases bk_of h with rfl | rfl <;> (show _ < 193; omega)
theorem bka_ob {b : Nat} (h : isBk b = true) (j : Nat) (n : Nat) (hj : SH0.2 (116 + j) = (10, n)) (h2 : SH0.2 (124 + j) = (10, n)) : SH0.2 (b + j) = (10, n) := by
  rcases bk_of h with rfl | rfl
  · exact hj
  · exact h2
theorem hp_sB (σ : PS) (q : Nat) : wR (HP σ) 0 5 (some q) = HP (sB σ q) := by
  unfold wR HP sB
  simp only [Prod.mk.injEq, true_and]
  funext a b
  unfold u2 RFs
  by_cases ha : a = 0
  · subst ha
    by_cases hb : b = 5 <;> simp [hb]
  · simp [ha]
theorem hp_sD (σ : PS) (q : Nat) : wR (HP σ) 0 6 (some q) = HP (sD σ q) := by
  unfold wR HP sD
  simp only [Prod.mk.injEq, true_and]
  funext a b
  unfold u2 RFs
  by_cases ha : a = 0
  · subst ha
    by_cases hb : b = 5
    · simp [hb]
    · by_cases h6 : b = 6 <;> simp [hb, h6]
  · simp [ha]
theorem gr8_lt {i : Int32} (h : inb i 8 = true) : rw_ 8 i < SH0.1 := by
  have := inb_lt h
  show 8 + 1 + i.toNatClampNeg < 193
  omega
theorem gr8_ob {i : Int32} (h : inb i 8 = true) : SH0.2 (rw_ 8 i) = (10, 3) := by
  have := inb_lt h
  unfold rw_
  generalize i.toNatClampNeg = j at this
  have : ∀ j, j < 8 → SH0.2 (8 + 1 + j) = (10, 3) := by decide
  exact this j (by assumption)
theorem gr8_rf {i : Int32} (bk dr : Nat) (h : inb i 8 = true) : RFs bk dr 8 i.toNatClampNeg = some (rw_ 8 i) := by
  have := inb_lt h
  unfold rw_
  generalize i.toNatClampNeg = j at this
  have : ∀ j, j < 8 → (RF0.getD 8 []).getD j none = some (8 + 1 + j) := by decide
  exact this j (by assumption)
theorem gr29_lt {i : Int32} (h : inb i 8 = true) : rw_ 29 i < SH0.1 := by
  have := inb_lt h
  show 29 + 1 + i.toNatClampNeg < 193
  omega
theorem gr29_ob {i : Int32} (h : inb i 8 = true) : SH0.2 (rw_ 29 i) = (10, 60) := by
  have := inb_lt h
  unfold rw_
  generalize i.toNatClampNeg = j at this
  have : ∀ j, j < 8 → SH0.2 (29 + 1 + j) = (10, 60) := by decide
  exact this j (by assumption)
theorem gr29_rf {i : Int32} (bk dr : Nat) (h : inb i 8 = true) : RFs bk dr 29 i.toNatClampNeg = some (rw_ 29 i) := by
  have := inb_lt h
  unfold rw_
  generalize i.toNatClampNeg = j at this
  have : ∀ j, j < 8 → (RF0.getD 29 []).getD j none = some (29 + 1 + j) := by decide
  exact this j (by assumption)
theorem gr43_lt {i : Int32} (h : inb i 6 = true) : rw_ 43 i < SH0.1 := by
  have := inb_lt h
  show 43 + 1 + i.toNatClampNeg < 193
  omega
theorem gr43_ob {i : Int32} (h : inb i 6 = true) : SH0.2 (rw_ 43 i) = (10, 60) := by
  have := inb_lt h
  unfold rw_
  generalize i.toNatClampNeg = j at this
  have : ∀ j, j < 6 → SH0.2 (43 + 1 + j) = (10, 60) := by decide
  exact this j (by assumption)
theorem gr43_rf {i : Int32} (bk dr : Nat) (h : inb i 6 = true) : RFs bk dr 43 i.toNatClampNeg = some (rw_ 43 i) := by
  have := inb_lt h
  unfold rw_
  generalize i.toNatClampNeg = j at this
  have : ∀ j, j < 6 → (RF0.getD 43 []).getD j none = some (43 + 1 + j) := by decide
  exact this j (by assumption)
theorem gr50_lt {i : Int32} (h : inb i 6 = true) : rw_ 50 i < SH0.1 := by
  have := inb_lt h
  show 50 + 1 + i.toNatClampNeg < 193
  omega
theorem gr50_ob {i : Int32} (h : inb i 6 = true) : SH0.2 (rw_ 50 i) = (10, 60) := by
  have := inb_lt h
  unfold rw_
  generalize i.toNatClampNeg = j at this
  have : ∀ j, j < 6 → SH0.2 (50 + 1 + j) = (10, 60) := by decide
  exact this j (by assumption)
theorem gr50_rf {i : Int32} (bk dr : Nat) (h : inb i 6 = true) : RFs bk dr 50 i.toNatClampNeg = some (rw_ 50 i) := by
  have := inb_lt h
  unfold rw_
  generalize i.toNatClampNeg = j at this
  have : ∀ j, j < 6 → (RF0.getD 50 []).getD j none = some (50 + 1 + j) := by decide
  exact this j (by assumption)
theorem gr57_lt {i : Int32} (h : inb i 6 = true) : rw_ 57 i < SH0.1 := by
  have := inb_lt h
  show 57 + 1 + i.toNatClampNeg < 193
  omega
theorem gr57_ob {i : Int32} (h : inb i 6 = true) : SH0.2 (rw_ 57 i) = (10, 60) := by
  have := inb_lt h
  unfold rw_
  generalize i.toNatClampNeg = j at this
  have : ∀ j, j < 6 → SH0.2 (57 + 1 + j) = (10, 60) := by decide
  exact this j (by assumption)
theorem gr57_rf {i : Int32} (bk dr : Nat) (h : inb i 6 = true) : RFs bk dr 57 i.toNatClampNeg = some (rw_ 57 i) := by
  have := inb_lt h
  unfold rw_
  generalize i.toNatClampNeg = j at this
  have : ∀ j, j < 6 → (RF0.getD 57 []).getD j none = some (57 + 1 + j) := by decide
  exact this j (by assumption)
theorem gr64_lt {i : Int32} (h : inb i 6 = true) : rw_ 64 i < SH0.1 := by
  have := inb_lt h
  show 64 + 1 + i.toNatClampNeg < 193
  omega
theorem gr64_ob {i : Int32} (h : inb i 6 = true) : SH0.2 (rw_ 64 i) = (10, 60) := by
  have := inb_lt h
  unfold rw_
  generalize i.toNatClampNeg = j at this
  have : ∀ j, j < 6 → SH0.2 (64 + 1 + j) = (10, 60) := by decide
  exact this j (by assumption)
theorem gr64_rf {i : Int32} (bk dr : Nat) (h : inb i 6 = true) : RFs bk dr 64 i.toNatClampNeg = some (rw_ 64 i) := by
  have := inb_lt h
  unfold rw_
  generalize i.toNatClampNeg = j at this
  have : ∀ j, j < 6 → (RF0.getD 64 []).getD j none = some (64 + 1 + j) := by decide
  exact this j (by assumption)
theorem gr71_lt {i : Int32} (h : inb i 6 = true) : rw_ 71 i < SH0.1 := by
  have := inb_lt h
  show 71 + 1 + i.toNatClampNeg < 193
  omega
theorem gr71_ob {i : Int32} (h : inb i 6 = true) : SH0.2 (rw_ 71 i) = (10, 60) := by
  have := inb_lt h
  unfold rw_
  generalize i.toNatClampNeg = j at this
  have : ∀ j, j < 6 → SH0.2 (71 + 1 + j) = (10, 60) := by decide
  exact this j (by assumption)
theorem gr71_rf {i : Int32} (bk dr : Nat) (h : inb i 6 = true) : RFs bk dr 71 i.toNatClampNeg = some (rw_ 71 i) := by
  have := inb_lt h
  unfold rw_
  generalize i.toNatClampNeg = j at this
  have : ∀ j, j < 6 → (RF0.getD 71 []).getD j none = some (71 + 1 + j) := by decide
  exact this j (by assumption)
theorem gr78_lt {i : Int32} (h : inb i 6 = true) : rw_ 78 i < SH0.1 := by
  have := inb_lt h
  show 78 + 1 + i.toNatClampNeg < 193
  omega
theorem gr78_ob {i : Int32} (h : inb i 6 = true) : SH0.2 (rw_ 78 i) = (10, 60) := by
  have := inb_lt h
  unfold rw_
  generalize i.toNatClampNeg = j at this
  have : ∀ j, j < 6 → SH0.2 (78 + 1 + j) = (10, 60) := by decide
  exact this j (by assumption)
theorem gr78_rf {i : Int32} (bk dr : Nat) (h : inb i 6 = true) : RFs bk dr 78 i.toNatClampNeg = some (rw_ 78 i) := by
  have := inb_lt h
  unfold rw_
  generalize i.toNatClampNeg = j at this
  have : ∀ j, j < 6 → (RF0.getD 78 []).getD j none = some (78 + 1 + j) := by decide
  exact this j (by assumption)
theorem gr85_lt {i : Int32} (h : inb i 6 = true) : rw_ 85 i < SH0.1 := by
  have := inb_lt h
  show 85 + 1 + i.toNatClampNeg < 193
  omega
theorem gr85_ob {i : Int32} (h : inb i 6 = true) : SH0.2 (rw_ 85 i) = (10, 60) := by
  have := inb_lt h
  unfold rw_
  generalize i.toNatClampNeg = j at this
  have : ∀ j, j < 6 → SH0.2 (85 + 1 + j) = (10, 60) := by decide
  exact this j (by assumption)
theorem gr85_rf {i : Int32} (bk dr : Nat) (h : inb i 6 = true) : RFs bk dr 85 i.toNatClampNeg = some (rw_ 85 i) := by
  have := inb_lt h
  unfold rw_
  generalize i.toNatClampNeg = j at this
  have : ∀ j, j < 6 → (RF0.getD 85 []).getD j none = some (85 + 1 + j) := by decide
  exact this j (by assumption)
theorem gr92_lt {i : Int32} (h : inb i 8 = true) : rw_ 92 i < SH0.1 := by
  have := inb_lt h
  show 92 + 1 + i.toNatClampNeg < 193
  omega
theorem gr92_ob {i : Int32} (h : inb i 8 = true) : SH0.2 (rw_ 92 i) = (10, 60) := by
  have := inb_lt h
  unfold rw_
  generalize i.toNatClampNeg = j at this
  have : ∀ j, j < 8 → SH0.2 (92 + 1 + j) = (10, 60) := by decide
  exact this j (by assumption)
theorem gr92_rf {i : Int32} (bk dr : Nat) (h : inb i 8 = true) : RFs bk dr 92 i.toNatClampNeg = some (rw_ 92 i) := by
  have := inb_lt h
  unfold rw_
  generalize i.toNatClampNeg = j at this
  have : ∀ j, j < 8 → (RF0.getD 92 []).getD j none = some (92 + 1 + j) := by decide
  exact this j (by assumption)
theorem gr101_lt {i : Int32} (h : inb i 5 = true) : rw_ 101 i < SH0.1 := by
  have := inb_lt h
  show 101 + 1 + i.toNatClampNeg < 193
  omega
theorem gr101_ob {i : Int32} (h : inb i 5 = true) : SH0.2 (rw_ 101 i) = (10, 60) := by
  have := inb_lt h
  unfold rw_
  generalize i.toNatClampNeg = j at this
  have : ∀ j, j < 5 → SH0.2 (101 + 1 + j) = (10, 60) := by decide
  exact this j (by assumption)
theorem gr101_rf {i : Int32} (bk dr : Nat) (h : inb i 5 = true) : RFs bk dr 101 i.toNatClampNeg = some (rw_ 101 i) := by
  have := inb_lt h
  unfold rw_
  generalize i.toNatClampNeg = j at this
  have : ∀ j, j < 5 → (RF0.getD 101 []).getD j none = some (101 + 1 + j) := by decide
  exact this j (by assumption)
/-- what a method's end says: its answer and its heap, as its function has them -/
def pI (P : Int32 × PS → Prop) : Option Value → PH → Prop := fun v h => ∃ (x : Int32) (σ : PS), v = some (.int x) ∧ h = HP σ ∧ P (x, σ)
def pL (P : Int64 × PS → Prop) : Option Value → PH → Prop := fun v h => ∃ (x : Int64) (σ : PS), v = some (.long x) ∧ h = HP σ ∧ P (x, σ)
def pV (P : PS → Prop) : Option Value → PH → Prop := fun v h => ∃ σ : PS, v = none ∧ h = HP σ ∧ P σ
theorem dk {cc : ByteArray} {l : List (Nat × Instr × Nat)} (h : ∀ q ∈ l, decode cc q.1 = .ok q.2) (i : Nat) {pc n : Nat} {ins : Instr} (hi : l[i]? = some (pc, ins, n)) : decode cc pc = .ok (ins, n) := h (pc, ins, n) (List.mem_of_getElem? hi)
def FI (own : String) (idx ci j N : Nat) (C : String) (T : u_T) : Prop := CLok ci C T N ∧ j < N ∧ tyX ci j = .int ∧ Cond.fieldLink own idx (T j).1 (T j).2.1 (T j).2.2.1 ∈ TBL
def FR (own : String) (idx ci j N : Nat) (C : String) (T : u_T) : Prop := CLok ci C T N ∧ j < N ∧ isR ci j = true ∧ Cond.fieldLink own idx (T j).1 (T j).2.1 (T j).2.2.1 ∈ TBL
theorem FI.nr {own : String} {idx ci j N : Nat} {C : String} {T : u_T} (f : FI own idx ci j N C T) : isR ci j = false := by
  unfold isR
  rw [f.2.2.1]
  rfl
def VC (own : String) (idx : Nat) (M' : Mth) (n ci N : Nat) (T : u_T) : Prop := CB M' n ∧ Cond.methodLink own idx M'.1 ∈ TBL ∧ Cond.instanceMethod M'.1 ∈ TBL ∧ Cond.selects M'.1.cls M'.1 M'.1 ∈ TBL ∧ CLok ci M'.1.cls T N
def SC (own : String) (idx : Nat) (M' : Mth) (n : Nat) : Prop := CB M' n ∧ Cond.methodLink own idx M'.1 ∈ TBL ∧ Cond.static M'.1 ∈ TBL
def NC (own : String) (idx : Nat) (M' : Mth) (n : Nat) (host : String) : Prop := CB M' n ∧ Cond.methodLinkNest own idx M'.1 host ∈ NST ∧ Cond.static M'.1 ∈ TBL
section YR
variable {g : GP} {M M' : Mth} {d dc n : Nat} {post : Option Value → PH → Prop} {pc : Nat} {L : List (Nat × Value)} {st stk av : List Value} {σ : PS} {ci N k j index : Nat} {C host : String} {T : u_T} {α : Type} {P : α → Prop} {o : Option α}
theorem Y_getI (f : FI M.1.cls index ci j N C T) (hk : k < SH0.1) (ho : SH0.2 k = (ci, N)) (hd : decode M.2.1 pc = .ok (.getfield index, 3)) (kk : X g M d 0 0 post (pc + 3) L (.int (gi σ k j) :: st) (HP σ)) : X g M d 0 0 post pc L (.ref k :: st) (HP σ) := X_getI (h := HP σ) f.1 hk ho f.2.1 f.nr f.2.2.2 hd kk
theorem Y_getR (q : Nat) (f : FR M.1.cls index ci j N C T) (hk : k < SH0.1) (ho : SH0.2 k = (ci, N)) (hq : RFs (bkO σ) (drO σ) k j = some q) (hd : decode M.2.1 pc = .ok (.getfield index, 3)) (kk : X g M d 0 0 post (pc + 3) L (.ref q :: st) (HP σ)) : X g M d 0 0 post pc L (.ref k :: st) (HP σ) := X_getR (h := HP σ) f.1 hk ho f.2.1 f.2.2.1 hq f.2.2.2 hd kk
theorem Y_putI {x : Int32} (f : FI M.1.cls index ci j N C T) (hf : (T j).2.2.2 = false) (hk : k < SH0.1) (ho : SH0.2 k = (ci, N)) (hd : decode M.2.1 pc = .ok (.putfield index, 3)) (kk : X g M d 0 0 post (pc + 3) L st (HP (sI σ k j x))) : X g M d 0 0 post pc L (.int x :: .ref k :: st) (HP σ) := X_putI (h := HP σ) f.1 hk ho f.2.1 f.2.2.1 hf f.2.2.2 hd kk
theorem Y_putB {q : Nat} (f : FR M.1.cls index 8 5 7 RX8 TX8) (hd : decode M.2.1 pc = .ok (.putfield index, 3)) (kk : X g M d 0 0 post (pc + 3) L st (HP (sB σ q))) : X g M d 0 0 post pc L (.ref q :: .ref 0 :: st) (HP σ) := X_putR (h := HP σ) f.1 (show 0 < SH0.1 by decide) rfl f.2.1 f.2.2.1 (fun _ => ⟨rfl, rfl⟩) rfl f.2.2.2 hd (by rw [hp_sB]; exact kk)
theorem Y_putD {q : Nat} (f : FR M.1.cls index 8 6 7 RX8 TX8) (hd : decode M.2.1 pc = .ok (.putfield index, 3)) (kk : X g M d 0 0 post (pc + 3) L st (HP (sD σ q))) : X g M d 0 0 post pc L (.ref q :: .ref 0 :: st) (HP σ) := X_putR (h := HP σ) f.1 (show 0 < SH0.1 by decide) rfl f.2.1 f.2.2.1 (fun _ => ⟨rfl, rfl⟩) rfl f.2.2.2 hd (by rw [hp_sD]; exact kk)
theorem Y_iald {i : Int32} (hk : k < SH0.1) (ho : SH0.2 k = (10, N)) (hd : decode M.2.1 pc = .ok (.iaload, 1)) (h : hO (gd (inb i N) o) P) (kk : inb i N = true → hO o P → X g M d 0 0 post (pc + 1) L (.int (gi σ k i.toNatClampNeg) :: st) (HP σ)) : X g M d 0 0 post pc L (.int i :: .ref k :: st) (HP σ) := X_iald (h := HP σ) hk ho (inb_in (hO_gd h).1) hd (kk (hO_gd h).1 (hO_gd h).2)
theorem Y_bald {i : Int32} (hk : k < SH0.1) (ho : SH0.2 k = (11, N)) (hd : decode M.2.1 pc = .ok (.baload, 1)) (h : hO (gd (inb i N) o) P) (kk : inb i N = true → hO o P → X g M d 0 0 post (pc + 1) L (.int (gi σ k i.toNatClampNeg) :: st) (HP σ)) : X g M d 0 0 post pc L (.int i :: .ref k :: st) (HP σ) := X_bald (h := HP σ) hk ho (inb_in (hO_gd h).1) hd (kk (hO_gd h).1 (hO_gd h).2)
theorem Y_zald {i : Int32} (hk : k < SH0.1) (ho : SH0.2 k = (12, N)) (hd : decode M.2.1 pc = .ok (.baload, 1)) (h : hO (gd (inb i N) o) P) (kk : inb i N = true → hO o P → X g M d 0 0 post (pc + 1) L (.int (gi σ k i.toNatClampNeg) :: st) (HP σ)) : X g M d 0 0 post pc L (.int i :: .ref k :: st) (HP σ) := X_zald (h := HP σ) hk ho (inb_in (hO_gd h).1) hd (kk (hO_gd h).1 (hO_gd h).2)
theorem Y_lald {i : Int32} (hk : k < SH0.1) (ho : SH0.2 k = (13, N)) (hd : decode M.2.1 pc = .ok (.laload, 1)) (h : hO (gd (inb i N) o) P) (kk : inb i N = true → hO o P → X g M d 0 0 post (pc + 1) L (.long (gl σ k i.toNatClampNeg) :: st) (HP σ)) : X g M d 0 0 post pc L (.int i :: .ref k :: st) (HP σ) := X_lald (h := HP σ) hk ho (inb_in (hO_gd h).1) hd (kk (hO_gd h).1 (hO_gd h).2)
theorem Y_aald {i : Int32} (q : Nat) (hk : k < SH0.1) (ho : SH0.2 k = (14, N)) (hq : inb i N = true → RFs (bkO σ) (drO σ) k i.toNatClampNeg = some q) (hd : decode M.2.1 pc = .ok (.aaload, 1)) (h : hO (gd (inb i N) o) P) (kk : inb i N = true → hO o P → X g M d 0 0 post (pc + 1) L (.ref q :: st) (HP σ)) : X g M d 0 0 post pc L (.int i :: .ref k :: st) (HP σ) := X_aald (h := HP σ) hk ho (inb_in (hO_gd h).1) (hq (hO_gd h).1) hd (kk (hO_gd h).1 (hO_gd h).2)
theorem Y_iast {i x : Int32} (hk : k < SH0.1) (ho : SH0.2 k = (10, N)) (hd : decode M.2.1 pc = .ok (.iastore, 1)) (h : hO (gd (inb i N) o) P) (kk : inb i N = true → hO o P → X g M d 0 0 post (pc + 1) L st (HP (sI σ k i.toNatClampNeg x))) : X g M d 0 0 post pc L (.int x :: .int i :: .ref k :: st) (HP σ) := X_iast (h := HP σ) hk ho (inb_in (hO_gd h).1) hd (kk (hO_gd h).1 (hO_gd h).2)
theorem Y_bast {i x : Int32} (hk : k < SH0.1) (ho : SH0.2 k = (11, N)) (hd : decode M.2.1 pc = .ok (.bastore, 1)) (h : hO (gd (inb i N) o) P) (kk : inb i N = true → hO o P → X g M d 0 0 post (pc + 1) L st (HP (sI σ k i.toNatClampNeg (vp_nar .byte x)))) : X g M d 0 0 post pc L (.int x :: .int i :: .ref k :: st) (HP σ) := X_bast (h := HP σ) hk ho (inb_in (hO_gd h).1) hd (kk (hO_gd h).1 (hO_gd h).2)
theorem Y_zast {i x : Int32} (hk : k < SH0.1) (ho : SH0.2 k = (12, N)) (hd : decode M.2.1 pc = .ok (.bastore, 1)) (h : hO (gd (inb i N) o) P) (kk : inb i N = true → hO o P → X g M d 0 0 post (pc + 1) L st (HP (sI σ k i.toNatClampNeg (vp_nar .boolean x)))) : X g M d 0 0 post pc L (.int x :: .int i :: .ref k :: st) (HP σ) := X_zast (h := HP σ) hk ho (inb_in (hO_gd h).1) hd (kk (hO_gd h).1 (hO_gd h).2)
theorem Y_last {i : Int32} {x : Int64} (hk : k < SH0.1) (ho : SH0.2 k = (13, N)) (hd : decode M.2.1 pc = .ok (.lastore, 1)) (h : hO (gd (inb i N) o) P) (kk : inb i N = true → hO o P → X g M d 0 0 post (pc + 1) L st (HP (sJ σ k i.toNatClampNeg x))) : X g M d 0 0 post pc L (.long x :: .int i :: .ref k :: st) (HP σ) := X_last (h := HP σ) hk ho (inb_in (hO_gd h).1) hd (kk (hO_gd h).1 (hO_gd h).2)
theorem Y_guard {b : Bool} (h : hO (gd b o) P) (kk : b = true → hO o P → X g M d 0 0 post pc L stk (HP σ)) : X g M d 0 0 post pc L stk (HP σ) := kk (hO_gd h).1 (hO_gd h).2
theorem Y_tab {x : Int32} {dflt lo hi off : Int} {offs : Array Int} {len : Nat} (c : Int32) (hx : x = c) (tgt : Nat) (hd : decode M.2.1 pc = .ok (.tableswitch dflt lo hi offs, len)) (h1 : ¬ c.toInt < lo) (h2 : ¬ hi < c.toInt) (ho : offs[(c.toInt - lo).toNat]? = some off) (ht : (pc : Int) + off = (tgt : Int)) (kk : X g M d 0 0 post tgt L st (HP σ)) : X g M d 0 0 post pc L (.int x :: st) (HP σ) := by
  subst hx
  exact X_tableIn tgt hd h1 h2 ho ht kk
theorem Y_iret {P : Int32 × PS → Prop} {x : Int32} (hd : decode M.2.1 pc = .ok (.ireturn, 1)) (hr : M.2.2.2 = some .int) (h : hO (some (x, σ)) P) : X g M d 0 0 (pI P) pc L [.int x] (HP σ) := X_ireturn hd hr rfl ⟨x, σ, rfl, rfl, hO_some h⟩
theorem Y_zret {P : Int32 × PS → Prop} {x : Int32} (hd : decode M.2.1 pc = .ok (.ireturn, 1)) (hr : M.2.2.2 = some .boolean) (hx : is01 x = true) (h : hO (some (x, σ)) P) : X g M d 0 0 (pI P) pc L [.int x] (HP σ) := X_ireturn hd hr (is01_n hx) ⟨x, σ, rfl, rfl, hO_some h⟩
theorem Y_lret {P : Int64 × PS → Prop} {x : Int64} (hd : decode M.2.1 pc = .ok (.lreturn, 1)) (hr : M.2.2.2 = some .long) (h : hO (some (x, σ)) P) : X g M d 0 0 (pL P) pc L [.long x] (HP σ) := X_lreturn hd hr ⟨x, σ, rfl, rfl, hO_some h⟩
theorem Y_vret {P : PS → Prop} (hd : decode M.2.1 pc = .ok (.return_, 1)) (hr : M.2.2.2 = none) (h : hO (some σ) P) : X g M d 0 0 (pV P) pc L [] (HP σ) := X_return hd hr ⟨σ, rfl, rfl, hO_some h⟩
theorem Y_ldcw {v : Int32} (hw : Cond.constant M.1.cls index v ∈ TBL) (hd : decode M.2.1 pc = .ok (.ldc_w index, 3)) (k : X g M d 0 0 post (pc + 3) L (.int v :: st) (HP σ)) : X g M d 0 0 post pc L st (HP σ) := by
  intro p e R s m args below meth c D dA A Q ad H locs cells slots ls hM hW hc hs hl ret
  exact lv_ldcw hM.1.1 hM.1.2.1 hM.1.2.2.2.1 (hM.1.2.2.2.2 _ hw) hd (k p e R s m args below meth c D dA A Q ad H locs cells slots ls hM hW hc hs hl ret)
theorem Y_callVI {f0 : Option (Int32 × PS)} {kf : Int32 × PS → Option α} {b : Nat} (f : VC M.1.cls index M' n ci N T) (hb : b < SH0.1) (ho : SH0.2 b = (ci, N)) (av st : List Value) (hstk : stk = av.reverse ++ .ref b :: st) (hav : av.length = n) (hdd : dc + 1 ≤ d) (hsum : (st.map fun v => v.category).sum ≤ 8) (hd : decode M.2.1 pc = .ok (.invokevirtual index, 3))
    (hC : ∀ Pc : Int32 × PS → Prop, hO f0 Pc → CON g M' dc 0 0 (.ref b :: av) (HP σ) (pI Pc)) (h : hO (f0.bind kf) P) (kk : ∀ (x : Int32) (σ' : PS), f0 = some (x, σ') → hO (kf (x, σ')) P → X g M d 0 0 post (pc + 3) L (.int x :: st) (HP σ')) : X g M d 0 0 post pc L stk (HP σ) := by
  subst hstk
  cases hf : f0 with
  | none =>
    rw [hf] at h
    exact (hO_none h).elim
  | some r =>
    have hC' := hC (fun q => q = r) ⟨r, hf, rfl⟩
    rw [hf] at h
    refine X_callV f.1 f.2.1 f.2.2.1 f.2.2.2.1 f.2.2.2.2 hb ho hav hdd hsum hd hC' (fun v h' hp => ?_) (fun v h' hp => ?_)
    · obtain ⟨x, σ', rfl, rfl, hq⟩ := hp
      rfl
    · obtain ⟨x, σ', rfl, rfl, hq⟩ := hp
      subst hq
      exact kk x σ' hf h
theorem Y_callSI {f0 : Option (Int32 × PS)} {kf : Int32 × PS → Option α} (f : SC M.1.cls index M' n) (av st : List Value) (hstk : stk = av.reverse ++ st) (hav : av.length = n) (hdd : dc + 1 ≤ d) (hsum : (st.map fun v => v.category).sum ≤ 8) (hd : decode M.2.1 pc = .ok (.invokestatic index, 3))
    (hC : ∀ Pc : Int32 × PS → Prop, hO f0 Pc → CON g M' dc 0 0 av (HP σ) (pI Pc)) (h : hO (f0.bind kf) P) (kk : ∀ (x : Int32) (σ' : PS), f0 = some (x, σ') → hO (kf (x, σ')) P → X g M d 0 0 post (pc + 3) L (.int x :: st) (HP σ')) : X g M d 0 0 post pc L stk (HP σ) := by
  subst hstk
  cases hf : f0 with
  | none =>
    rw [hf] at h
    exact (hO_none h).elim
  | some r =>
    have hC' := hC (fun q => q = r) ⟨r, hf, rfl⟩
    rw [hf] at h
    refine X_callS f.1 f.2.1 f.2.2 hav hdd hsum hd hC' (fun v h' hp => ?_) (fun v h' hp => ?_)
    · obtain ⟨x, σ', rfl, rfl, hq⟩ := hp
      rfl
    · obtain ⟨x, σ', rfl, rfl, hq⟩ := hp
      subst hq
      exact kk x σ' hf h
theorem Y_callNI {f0 : Option (Int32 × PS)} {kf : Int32 × PS → Option α} (f : NC M.1.cls index M' n host) (av st : List Value) (hstk : stk = av.reverse ++ st) (hav : av.length = n) (hdd : dc + 1 ≤ d) (hsum : (st.map fun v => v.category).sum ≤ 8) (hd : decode M.2.1 pc = .ok (.invokestatic index, 3))
    (hC : ∀ Pc : Int32 × PS → Prop, hO f0 Pc → CON g M' dc 0 0 av (HP σ) (pI Pc)) (h : hO (f0.bind kf) P) (kk : ∀ (x : Int32) (σ' : PS), f0 = some (x, σ') → hO (kf (x, σ')) P → X g M d 0 0 post (pc + 3) L (.int x :: st) (HP σ')) : X g M d 0 0 post pc L stk (HP σ) := by
  subst hstk
  cases hf : f0 with
  | none =>
    rw [hf] at h
    exact (hO_none h).elim
  | some r =>
    have hC' := hC (fun q => q = r) ⟨r, hf, rfl⟩
    rw [hf] at h
    refine X_callN f.1 f.2.1 f.2.2 hav hdd hsum hd hC' (fun v h' hp => ?_) (fun v h' hp => ?_)
    · obtain ⟨x, σ', rfl, rfl, hq⟩ := hp
      rfl
    · obtain ⟨x, σ', rfl, rfl, hq⟩ := hp
      subst hq
      exact kk x σ' hf h
theorem Y_callVL {f0 : Option (Int64 × PS)} {kf : Int64 × PS → Option α} {b : Nat} (f : VC M.1.cls index M' n ci N T) (hb : b < SH0.1) (ho : SH0.2 b = (ci, N)) (av st : List Value) (hstk : stk = av.reverse ++ .ref b :: st) (hav : av.length = n) (hdd : dc + 1 ≤ d) (hsum : (st.map fun v => v.category).sum ≤ 8) (hd : decode M.2.1 pc = .ok (.invokevirtual index, 3))
    (hC : ∀ Pc : Int64 × PS → Prop, hO f0 Pc → CON g M' dc 0 0 (.ref b :: av) (HP σ) (pL Pc)) (h : hO (f0.bind kf) P) (kk : ∀ (x : Int64) (σ' : PS), f0 = some (x, σ') → hO (kf (x, σ')) P → X g M d 0 0 post (pc + 3) L (.long x :: st) (HP σ')) : X g M d 0 0 post pc L stk (HP σ) := by
  subst hstk
  cases hf : f0 with
  | none =>
    rw [hf] at h
    exact (hO_none h).elim
  | some r =>
    have hC' := hC (fun q => q = r) ⟨r, hf, rfl⟩
    rw [hf] at h
    refine X_callV f.1 f.2.1 f.2.2.1 f.2.2.2.1 f.2.2.2.2 hb ho hav hdd hsum hd hC' (fun v h' hp => ?_) (fun v h' hp => ?_)
    · obtain ⟨x, σ', rfl, rfl, hq⟩ := hp
      rfl
    · obtain ⟨x, σ', rfl, rfl, hq⟩ := hp
      subst hq
      exact kk x σ' hf h
theorem Y_callSL {f0 : Option (Int64 × PS)} {kf : Int64 × PS → Option α} (f : SC M.1.cls index M' n) (av st : List Value) (hstk : stk = av.reverse ++ st) (hav : av.length = n) (hdd : dc + 1 ≤ d) (hsum : (st.map fun v => v.category).sum ≤ 8) (hd : decode M.2.1 pc = .ok (.invokestatic index, 3))
    (hC : ∀ Pc : Int64 × PS → Prop, hO f0 Pc → CON g M' dc 0 0 av (HP σ) (pL Pc)) (h : hO (f0.bind kf) P) (kk : ∀ (x : Int64) (σ' : PS), f0 = some (x, σ') → hO (kf (x, σ')) P → X g M d 0 0 post (pc + 3) L (.long x :: st) (HP σ')) : X g M d 0 0 post pc L stk (HP σ) := by
  subst hstk
  cases hf : f0 with
  | none =>
    rw [hf] at h
    exact (hO_none h).elim
  | some r =>
    have hC' := hC (fun q => q = r) ⟨r, hf, rfl⟩
    rw [hf] at h
    refine X_callS f.1 f.2.1 f.2.2 hav hdd hsum hd hC' (fun v h' hp => ?_) (fun v h' hp => ?_)
    · obtain ⟨x, σ', rfl, rfl, hq⟩ := hp
      rfl
    · obtain ⟨x, σ', rfl, rfl, hq⟩ := hp
      subst hq
      exact kk x σ' hf h
theorem Y_callNL {f0 : Option (Int64 × PS)} {kf : Int64 × PS → Option α} (f : NC M.1.cls index M' n host) (av st : List Value) (hstk : stk = av.reverse ++ st) (hav : av.length = n) (hdd : dc + 1 ≤ d) (hsum : (st.map fun v => v.category).sum ≤ 8) (hd : decode M.2.1 pc = .ok (.invokestatic index, 3))
    (hC : ∀ Pc : Int64 × PS → Prop, hO f0 Pc → CON g M' dc 0 0 av (HP σ) (pL Pc)) (h : hO (f0.bind kf) P) (kk : ∀ (x : Int64) (σ' : PS), f0 = some (x, σ') → hO (kf (x, σ')) P → X g M d 0 0 post (pc + 3) L (.long x :: st) (HP σ')) : X g M d 0 0 post pc L stk (HP σ) := by
  subst hstk
  cases hf : f0 with
  | none =>
    rw [hf] at h
    exact (hO_none h).elim
  | some r =>
    have hC' := hC (fun q => q = r) ⟨r, hf, rfl⟩
    rw [hf] at h
    refine X_callN f.1 f.2.1 f.2.2 hav hdd hsum hd hC' (fun v h' hp => ?_) (fun v h' hp => ?_)
    · obtain ⟨x, σ', rfl, rfl, hq⟩ := hp
      rfl
    · obtain ⟨x, σ', rfl, rfl, hq⟩ := hp
      subst hq
      exact kk x σ' hf h
theorem Y_callVV {f0 : Option (PS)} {kf : PS → Option α} {b : Nat} (f : VC M.1.cls index M' n ci N T) (hb : b < SH0.1) (ho : SH0.2 b = (ci, N)) (av st : List Value) (hstk : stk = av.reverse ++ .ref b :: st) (hav : av.length = n) (hdd : dc + 1 ≤ d) (hsum : (st.map fun v => v.category).sum ≤ 8) (hd : decode M.2.1 pc = .ok (.invokevirtual index, 3))
    (hC : ∀ Pc : PS → Prop, hO f0 Pc → CON g M' dc 0 0 (.ref b :: av) (HP σ) (pV Pc)) (h : hO (f0.bind kf) P) (kk : ∀ (σ' : PS), f0 = some σ' → hO (kf σ') P → X g M d 0 0 post (pc + 3) L st (HP σ')) : X g M d 0 0 post pc L stk (HP σ) := by
  subst hstk
  cases hf : f0 with
  | none =>
    rw [hf] at h
    exact (hO_none h).elim
  | some r =>
    have hC' := hC (fun q => q = r) ⟨r, hf, rfl⟩
    rw [hf] at h
    refine X_callV f.1 f.2.1 f.2.2.1 f.2.2.2.1 f.2.2.2.2 hb ho hav hdd hsum hd hC' (fun v h' hp => ?_) (fun v h' hp => ?_)
    · obtain ⟨σ', rfl, rfl, hq⟩ := hp
      rfl
    · obtain ⟨σ', rfl, rfl, hq⟩ := hp
      subst hq
      exact kk σ' hf h
theorem Y_callSV {f0 : Option (PS)} {kf : PS → Option α} (f : SC M.1.cls index M' n) (av st : List Value) (hstk : stk = av.reverse ++ st) (hav : av.length = n) (hdd : dc + 1 ≤ d) (hsum : (st.map fun v => v.category).sum ≤ 8) (hd : decode M.2.1 pc = .ok (.invokestatic index, 3))
    (hC : ∀ Pc : PS → Prop, hO f0 Pc → CON g M' dc 0 0 av (HP σ) (pV Pc)) (h : hO (f0.bind kf) P) (kk : ∀ (σ' : PS), f0 = some σ' → hO (kf σ') P → X g M d 0 0 post (pc + 3) L st (HP σ')) : X g M d 0 0 post pc L stk (HP σ) := by
  subst hstk
  cases hf : f0 with
  | none =>
    rw [hf] at h
    exact (hO_none h).elim
  | some r =>
    have hC' := hC (fun q => q = r) ⟨r, hf, rfl⟩
    rw [hf] at h
    refine X_callS f.1 f.2.1 f.2.2 hav hdd hsum hd hC' (fun v h' hp => ?_) (fun v h' hp => ?_)
    · obtain ⟨σ', rfl, rfl, hq⟩ := hp
      rfl
    · obtain ⟨σ', rfl, rfl, hq⟩ := hp
      subst hq
      exact kk σ' hf h
theorem Y_callNV {f0 : Option (PS)} {kf : PS → Option α} (f : NC M.1.cls index M' n host) (av st : List Value) (hstk : stk = av.reverse ++ st) (hav : av.length = n) (hdd : dc + 1 ≤ d) (hsum : (st.map fun v => v.category).sum ≤ 8) (hd : decode M.2.1 pc = .ok (.invokestatic index, 3))
    (hC : ∀ Pc : PS → Prop, hO f0 Pc → CON g M' dc 0 0 av (HP σ) (pV Pc)) (h : hO (f0.bind kf) P) (kk : ∀ (σ' : PS), f0 = some σ' → hO (kf σ') P → X g M d 0 0 post (pc + 3) L st (HP σ')) : X g M d 0 0 post pc L stk (HP σ) := by
  subst hstk
  cases hf : f0 with
  | none =>
    rw [hf] at h
    exact (hO_none h).elim
  | some r =>
    have hC' := hC (fun q => q = r) ⟨r, hf, rfl⟩
    rw [hf] at h
    refine X_callN f.1 f.2.1 f.2.2 hav hdd hsum hd hC' (fun v h' hp => ?_) (fun v h' hp => ?_)
    · obtain ⟨σ', rfl, rfl, hq⟩ := hp
      rfl
    · obtain ⟨σ', rfl, rfl, hq⟩ := hp
      subst hq
      exact kk σ' hf h
end YR
