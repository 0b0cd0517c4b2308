/-! weakest preconditions of the pure functions, Int32 by numbers -/
theorem wO_some {α : Type} {a : α} {P : α → Prop} : hO (some a) P ↔ P a := ⟨fun ⟨b, e, h⟩ => (by cases e; exact h), fun h => ⟨a, rfl, h⟩⟩
theorem wO_gd {α : Type} {c : Bool} {o : Option α} {P : α → Prop} : hO (gd c o) P ↔ c = true ∧ hO o P := by
  cases c
  · exact ⟨fun ⟨b, e, h⟩ => (by cases e), fun h => (by cases h.1)⟩
  · exact ⟨fun h => ⟨rfl, h⟩, fun h => h.2⟩
theorem wO_ite {α : Type} {c : Prop} {i : Decidable c} {A B : Option α} {P : α → Prop} : hO (@ite _ c i A B) P ↔ (c → hO A P) ∧ (¬ c → hO B P) := by
  by_cases h : c
  · rw [if_pos h]; exact ⟨fun q => ⟨fun _ => q, fun n => absurd h n⟩, fun q => q.1 h⟩
  · rw [if_neg h]; exact ⟨fun q => ⟨fun n => absurd n h, fun _ => q⟩, fun q => q.2 h⟩
theorem wO_bind {α β : Type} {o : Option α} {k : α → Option β} {P : β → Prop} : hO (o.bind k) P ↔ hO o (fun q => hO (k q) P) := by
  cases o with
  | none => exact ⟨fun ⟨b, e, h⟩ => (by cases e), fun ⟨b, e, h⟩ => (by cases e)⟩
  | some a => exact ⟨fun h => ⟨a, rfl, h⟩, fun ⟨b, e, h⟩ => (by cases e; exact h)⟩
theorem hO.mono {α : Type} {o : Option α} {P Q : α → Prop} (h : hO o P) (i : ∀ a, P a → Q a) : hO o Q := by
  obtain ⟨a, e, p⟩ := h
  exact ⟨a, e, i a p⟩
theorem hO.and {α : Type} {o : Option α} {P Q : α → Prop} (h : hO o P) (i : ∀ a, o = some a → Q a) : hO o (fun a => P a ∧ Q a) := by
  obtain ⟨a, e, p⟩ := h
  exact ⟨a, e, p, i a e⟩
theorem hO.then {α β : Type} {o : Option α} {k : α → Option β} {P : α → Prop} {Q : β → Prop} (h : hO o P) (i : ∀ a, P a → hO (k a) Q) : hO (o.bind k) Q := wO_bind.mpr (h.mono i)
theorem ite_tv {α : Type} {c : Prop} [i : Decidable c] {A B : α} : (if tv c = 0 then A else B) = if c then B else A := by
  by_cases h : c
  · rw [if_neg (by rw [tv_0]; exact fun q => q h), if_pos h]
  · rw [if_pos (by rw [tv_0]; exact h), if_neg h]
def tb (b : Bool) : Int32 := match b with
  | true => 1
  | false => 0
theorem is01_tb {b : Bool} : is01 (tb b) = true := by cases b <;> rfl
theorem ite_tb {α : Type} {c : Bool} {A B : α} : (if tb c = 0 then A else B) = if c = true then B else A := by
  cases c
  · rfl
  · rfl
theorem ite_or {α : Type} {a b : Prop} [Decidable a] [Decidable b] {x y : α} : (if a then x else if b then x else y) = if a ∨ b then x else y := by
  by_cases ha : a
  · rw [if_pos ha, if_pos (Or.inl ha)]
  · rw [if_neg ha]
    by_cases hb : b
    · rw [if_pos hb, if_pos (Or.inr hb)]
    · rw [if_neg hb, if_neg (fun h => h.elim ha hb)]
theorem ite_nd {α : Type} {a : Prop} [Decidable a] {x y : α} : (if a then x else y) = if ¬ a then y else x := by
  by_cases ha : a
  · rw [if_pos ha, if_neg (fun h => h ha)]
  · rw [if_neg ha, if_pos ha]
/-- a number between two -/
def isN (x : Int32) (lo hi : Nat) : Prop := ∃ k, x = nI k ∧ lo ≤ k ∧ k ≤ hi
theorem isN_of {x l h : Int32} {lo hi : Nat} (hl : l = nI lo) (hh : h = nI hi) (h1 : lo < 2 ^ 31) (h2 : hi < 2 ^ 31) : (l ≤ x ∧ x ≤ h) ↔ isN x lo hi := by
  subst hl hh
  constructor
  · rintro ⟨a, b⟩
    have h0 : ¬ x < 0 := by
      rw [Int32.lt_iff_toInt_lt, Int32.toInt_zero]
      rw [Int32.le_iff_toInt_le, nI_toInt h1] at a
      omega
    obtain ⟨j, hj, rfl⟩ := nI_of h0
    exact ⟨j, rfl, (nI_leI h1 hj).mp a, (nI_leI hj h2).mp b⟩
  · rintro ⟨k, rfl, a, b⟩
    exact ⟨nI_le a (by omega), nI_le b h2⟩
theorem isN_lt {x : Int32} {n : Nat} (hn : n < 2 ^ 31) : (0 ≤ x ∧ x ≤ nI n - 1) ↔ ∃ k, x = nI k ∧ k < n := by
  cases n with
  | zero =>
    constructor
    · rintro ⟨a, b⟩
      rw [show nI 0 - 1 = (-1 : Int32) by decide] at b
      exact absurd (Int32.le_trans a b) (by decide)
    · rintro ⟨k, _, h⟩
      omega
  | succ m =>
    rw [nI_pred, isN_of (l := 0) (lo := 0) (hi := m) rfl rfl (by omega) (by omega)]
    exact ⟨fun ⟨k, e, _, h⟩ => ⟨k, e, by omega⟩, fun ⟨k, e, h⟩ => ⟨k, e, by omega, by omega⟩⟩
theorem nIeq_lit {a b : Nat} (h : nI a = nI b) (ha : a < 2 ^ 31) (hb : b < 2 ^ 31) : a = b := (nI_eq ha hb).mp h
theorem nI_m1 {a : Nat} (ha : a < 2 ^ 31) : nI a ≠ -1 := by
  intro h
  have := nI_toInt ha
  rw [h] at this
  have e : ((-1 : Int32)).toInt = -1 := by decide
  omega
theorem nI_sub {a b : Nat} (h : b ≤ a) : nI a - nI b = nI (a - b) := by
  obtain ⟨c, rfl⟩ := Nat.exists_eq_add_of_le h
  rw [Nat.add_sub_cancel_left, ← nI_add, Int32.add_comm, Int32.add_sub_cancel]
theorem nI_s1 {a : Nat} (h : 1 ≤ a) : nI a - 1 = nI (a - 1) := nI_sub h
theorem nI_a1 {a : Nat} (h : 1 ≤ a) : nI a + (-1) = nI (a - 1) := by
  obtain ⟨c, rfl⟩ := Nat.exists_eq_add_of_le h
  rw [Nat.add_comm 1 c, ← nI_1, Int32.add_assoc, show (1 : Int32) + (-1) = 0 from rfl, Int32.add_zero]
  rfl
theorem nI_mul (a b : Nat) : nI a * nI b = nI (a * b) := (Int32.ofNat_mul a b).symm
theorem nI60 (a b : Nat) : (60 : Int32) * nI a + nI b = nI (60 * a + b) := by
  rw [show (60 : Int32) = nI 60 from rfl, nI_mul, nI_add]
theorem nI3 (a b : Nat) : (3 : Int32) * nI a + nI b = nI (3 * a + b) := by
  rw [show (3 : Int32) = nI 3 from rfl, nI_mul, nI_add]
theorem nI20 (a b : Nat) : (20 : Int32) * nI a + nI b = nI (20 * a + b) := by
  rw [show (20 : Int32) = nI 20 from rfl, nI_mul, nI_add]
theorem nI200 (a b : Nat) : (200 : Int32) * nI a + nI b = nI (200 * a + b) := by
  rw [show (200 : Int32) = nI 200 from rfl, nI_mul, nI_add]
theorem rw_nI {q i : Nat} (h : i < 2 ^ 31) : rw_ q (nI i) = q + 1 + i := by
  unfold rw_
  rw [nI_clamp h]
theorem hasInn_eq (x : Int32) (σ : PS) : fX2_hasInn x σ = some (tv (0 ≤ x ∧ x ≤ gi σ 3 0 - 1), σ) := by
  unfold fX2_hasInn
  rw [isWithin_eq]
  exact gd_t is01_tv
theorem hasCaravan_eq (x : Int32) (σ : PS) : fX2_hasCaravan x σ = some (tv (0 ≤ x ∧ x ≤ gi σ 3 6 - 1), σ) := by
  unfold fX2_hasCaravan
  rw [isWithin_eq]
  exact gd_t is01_tv
theorem hasBale_eq (x : Int32) (σ : PS) : fX2_hasBale x σ = some (tv (0 ≤ x ∧ x ≤ gi σ 3 14 - 1), σ) := by
  unfold fX2_hasBale
  rw [isWithin_eq]
  exact gd_t is01_tv
theorem isKnown_eq (x : Int32) (σ : PS) : fX0_isKnown x σ = some (tv (0 ≤ x ∧ x ≤ gi σ 25 0), σ) := by
  unfold fX0_isKnown
  rw [isWithin_eq]
  exact gd_t is01_tv
theorem tv_ite {c : Prop} [Decidable c] {a b : Prop} [Decidable a] [Decidable b] {σ : PS} (h : c ↔ ¬ a ∧ ¬ b) : (if a then some ((0 : Int32), σ) else (if b then some (0, σ) else some (1, σ))) = some (tv c, σ) := by
  unfold tv
  by_cases ha : a
  · rw [if_pos ha, if_neg (fun q => (h.mp q).1 ha)]
  · rw [if_neg ha]
    by_cases hb : b
    · rw [if_pos hb, if_neg (fun q => (h.mp q).2 hb)]
    · rw [if_neg hb, if_pos (h.mpr ⟨ha, hb⟩)]
theorem mDay_eq (x : Int32) (σ : PS) : fX9_isDay x σ = some (tv (0 ≤ x ∧ x ≤ 59), σ) := by
  unfold fX9_isDay
  refine tv_ite ?_
  rw [Int32.not_lt, Int32.not_le, Int32.le_iff_toInt_le, Int32.le_iff_toInt_le, Int32.lt_iff_toInt_lt, show (59 : Int32).toInt = 59 by decide, show (60 : Int32).toInt = 60 by decide]
  omega
theorem mKnown_eq (x : Int32) (σ : PS) : fX9_isKnown x σ = some (tv (0 ≤ x ∧ x ≤ gi σ 132 54), σ) := by
  unfold fX9_isKnown
  refine tv_ite ?_
  rw [Int32.not_lt, Int32.not_lt]
theorem le_pred {x y : Int32} {n : Nat} (h : y = nI n) (hn : n < 2 ^ 31) : (0 ≤ x ∧ x ≤ y - 1) ↔ ¬ x < 0 ∧ ¬ y ≤ x := by
  subst h
  rw [isN_lt hn]
  constructor
  · rintro ⟨k, rfl, hk⟩
    exact ⟨nI_pos (by omega), nI_ge hk hn⟩
  · rintro ⟨h0, h1⟩
    obtain ⟨j, hj, rfl⟩ := nI_of h0
    refine ⟨j, rfl, ?_⟩
    rw [nI_leI hn hj] at h1
    omega
theorem mInn_eq (x : Int32) (σ : PS) {n : Nat} (h : gi σ 132 38 = nI n) (hn : n < 2 ^ 31) : fX9_isInn x σ = some (tv (0 ≤ x ∧ x ≤ gi σ 132 38 - 1), σ) := by
  unfold fX9_isInn
  exact tv_ite (le_pred h hn)
theorem mCar_eq (x : Int32) (σ : PS) {n : Nat} (h : gi σ 132 44 = nI n) (hn : n < 2 ^ 31) : fX9_isCaravan x σ = some (tv (0 ≤ x ∧ x ≤ gi σ 132 44 - 1), σ) := by
  unfold fX9_isCaravan
  exact tv_ite (le_pred h hn)
theorem l_le {x : Int32} {k n : Nat} (hx : x = nI k) (h : k ≤ n) (hn : n < 2 ^ 31) : x ≤ nI n := by subst hx; exact nI_le h hn
theorem l_nle {x : Int32} {k n : Nat} (hx : x = nI k) (h : n < k) (hk : k < 2 ^ 31) : ¬ x ≤ nI n := by subst hx; exact nI_ge h hk
theorem r_le {x : Int32} {k n : Nat} (hx : x = nI k) (h : n ≤ k) (hk : k < 2 ^ 31) : nI n ≤ x := by subst hx; exact nI_le h hk
theorem r_nle {x : Int32} {k n : Nat} (hx : x = nI k) (h : k < n) (hn : n < 2 ^ 31) : ¬ nI n ≤ x := by subst hx; exact nI_ge h hn
theorem l_lt {x : Int32} {k n : Nat} (hx : x = nI k) (h : k < n) (hn : n < 2 ^ 31) : x < nI n := by subst hx; exact nI_lt h hn
theorem l_nlt {x : Int32} {k n : Nat} (hx : x = nI k) (h : n ≤ k) (hk : k < 2 ^ 31) : ¬ x < nI n := by subst hx; exact nI_nlt h hk
theorem r_lt {x : Int32} {k n : Nat} (hx : x = nI k) (h : n < k) (hk : k < 2 ^ 31) : nI n < x := by subst hx; exact nI_lt h hk
theorem r_nlt {x : Int32} {k n : Nat} (hx : x = nI k) (h : k ≤ n) (hn : n < 2 ^ 31) : ¬ nI n < x := by subst hx; exact nI_nlt h hn
theorem e_lit {x : Int32} {k n : Nat} (hx : x = nI k) (h : n ≠ k) (hn : n < 2 ^ 31) (hk : k < 2 ^ 31) : ¬ nI n = x := by subst hx; rw [nI_eq hn hk]; exact h
