/-! names by their letters -/
def nmN (T : Nat → Int32) (s : Nat) : Nat → Nat
  | 0 => 0
  | L + 1 => 27 * nmN T s L + ((T (s + L)).toNatClampNeg - 96)
def ltr (x : Int32) : Prop := ∃ c, 97 ≤ c ∧ c ≤ 122 ∧ x = nI c
theorem ltr_of {x : Int32} (h : inR 97 122 x = true) : ltr x := by
  unfold inR at h
  obtain ⟨c, h1, h2, h3⟩ := (isN_of (lo := 97) (hi := 122) rfl rfl (by decide) (by decide)).mp (of_decide_eq_true h)
  exact ⟨c, h2, h3, h1⟩
theorem nm_inj {T U : Nat → Int32} {s k : Nat} : ∀ {L q : Nat}, (∀ i, i < L → ltr (T (s + i))) → (∀ i, i < q → ltr (U (k + i))) → (nmN T s L = nmN U k q ↔ (L = q ∧ ∀ i, i < q → T (s + i) = U (k + i))) := by
  have hd : ∀ x : Int32, ltr x → ∃ c, 1 ≤ c ∧ c ≤ 26 ∧ x.toNatClampNeg - 96 = c ∧ x = nI (c + 96) := by
    rintro _ ⟨c, h1, h2, rfl⟩
    exact ⟨c - 96, by omega, by omega, by rw [nI_clamp (by omega)], by rw [show c - 96 + 96 = c by omega]⟩
  intro L
  induction L with
  | zero =>
    intro q h1 h2
    cases q with
    | zero => exact ⟨fun _ => ⟨rfl, fun i hi => by omega⟩, fun _ => rfl⟩
    | succ q =>
      obtain ⟨c, a1, a2, a3, -⟩ := hd _ (h2 q (by omega))
      simp only [nmN]
      constructor
      · intro h; omega
      · rintro ⟨h, -⟩; omega
  | succ L ih =>
    intro q h1 h2
    obtain ⟨c, a1, a2, a3, a4⟩ := hd _ (h1 L (by omega))
    cases q with
    | zero =>
      simp only [nmN]
      constructor
      · intro h; omega
      · rintro ⟨h, -⟩; omega
    | succ q =>
      obtain ⟨d, b1, b2, b3, b4⟩ := hd _ (h2 q (by omega))
      simp only [nmN]
      rw [a3, b3]
      have ih' := ih (q := q) (fun i hi => h1 i (by omega)) (fun i hi => h2 i (by omega))
      constructor
      · intro h
        obtain ⟨e1, e2⟩ := ih'.mp (by omega)
        have ecd : c = d := by omega
        subst e1
        refine ⟨rfl, fun i hi => ?_⟩
        by_cases hi2 : i = L
        · subst hi2; rw [a4, b4, ecd]
        · exact e2 i (by omega)
      · rintro ⟨e1, e2⟩
        have e1' : L = q := by omega
        subst e1'
        have := ih'.mpr ⟨rfl, fun i hi => e2 i (by omega)⟩
        have e3 := e2 L (by omega)
        rw [e3] at a3
        rw [this]
        omega
theorem nm_lt {T : Nat → Int32} {s : Nat} : ∀ {L : Nat}, (∀ i, i < L → ltr (T (s + i))) → nmN T s L < 27 ^ L := by
  intro L
  induction L with
  | zero => intro _; exact Nat.zero_lt_one
  | succ L ih =>
    intro h
    have := ih (fun i hi => h i (by omega))
    obtain ⟨c, h1, h2, h3⟩ := h L (by omega)
    rw [nmN, h3, nI_clamp (by omega), Nat.pow_succ]
    omega
theorem mtS_iff {T : Nat → Int32} {e : Nat} : ∀ {q i k : Nat}, mtS T e q i k = true ↔ (i + q ≤ e ∨ q = 0) ∧ ∀ j, j < q → T (i + j) = chW (k + j) := by
  intro q
  induction q with
  | zero => intro i k; exact ⟨fun _ => ⟨Or.inr rfl, fun j hj => by omega⟩, fun _ => rfl⟩
  | succ q ih =>
    intro i k
    rw [mtS, Bool.and_eq_true, Bool.and_eq_true, decide_eq_true_iff, decide_eq_true_iff, ih]
    constructor
    · rintro ⟨⟨h1, h2⟩, h3, h4⟩
      refine ⟨Or.inl (by omega), fun j hj => ?_⟩
      cases j with
      | zero => exact h2
      | succ j => have := h4 j (by omega); rw [show i + (j + 1) = i + 1 + j by omega, show k + (j + 1) = k + 1 + j by omega]; exact this
    · rintro ⟨h1, h2⟩
      refine ⟨⟨by omega, h2 0 (by omega)⟩, Or.inl (by omega), fun j hj => ?_⟩
      have := h2 (j + 1) (by omega)
      rw [show i + 1 + j = i + (j + 1) by omega, show k + 1 + j = k + (j + 1) by omega]
      exact this
theorem wdC_iff {T : Nat → Int32} {s e k q : Nat} (hs : s ≤ e) (hT : ∀ i, i < e - s → ltr (T (s + i))) (hW : ∀ i, i < q → ltr (chW (k + i))) : wdC T s e k q = true ↔ nmN T s (e - s) = nmN chW k q := by
  rw [nm_inj hT hW]
  unfold wdC
  rw [Bool.and_eq_true, mtS_iff, decide_eq_true_iff]
  constructor
  · rintro ⟨⟨h1, h2⟩, h3⟩; exact ⟨by omega, h2⟩
  · rintro ⟨h1, h2⟩; exact ⟨⟨Or.inl (by omega), h2⟩, by omega⟩
/-- the reference's kinds -/
def rkF (K : Nat) : Nat := if K = 3 then 20 else if K = 4 then 22 else if K = 5 then 23 else if K = 6 then 21 else if K < 9 then (if K < 3 then K else K + 17) else if K < 17 then K + 17 else if K = 17 then 4 else if K < 25 then K - 10 else K - 19
def RK (K : Nat) (x : Int32) : Prop := (K = 1 ∧ (x = 1 ∨ x = 3)) ∨ (K ≠ 1 ∧ x = nI (rkF K))
theorem rk_t : rkF 0 = 0 ∧ rkF 2 = 2 ∧ rkF 3 = 20 ∧ rkF 4 = 22 ∧ rkF 5 = 23 ∧ rkF 6 = 21 ∧ rkF 7 = 24 ∧ rkF 8 = 25 ∧ rkF 9 = 26 ∧ rkF 16 = 33 ∧ rkF 17 = 4 ∧ rkF 18 = 8 ∧ rkF 19 = 9 ∧ rkF 20 = 10 ∧ rkF 21 = 11 ∧ rkF 22 = 12 ∧ rkF 23 = 13 ∧ rkF 24 = 14 ∧ rkF 25 = 6 ∧ rkF 26 = 7 := by decide
def kyL : List (Nat × Nat) := [(0, 5), (15, 2), (6, 4), (11, 3), (18, 2), (21, 3), (25, 4), (30, 6), (37, 6), (44, 5), (50, 6), (57, 3), (61, 3), (65, 4)]
def kyP (j : Nat) : Nat × Nat := kyL.getD j (0, 0)
def kyN (j : Nat) : Nat := nmN chW (kyP j).1 (kyP j).2
def lpS (N : Nat) : Nat → Nat → Int32 → Int32
  | 0, _, x => x
  | r + 1, j, x => lpS N r (j + 1) (if kyN j = N then nI (20 + j) else x)
theorem ky_ltr : ∀ j, j < 14 → ∀ i, i < (kyP j).2 → inR 97 122 (chW ((kyP j).1 + i)) = true := by decide +kernel
theorem ky_lp1 : ∀ j, j < 14 → lpS (kyN j) 14 0 1 = nI (20 + j) := by decide +kernel
theorem ky_lp3 : ∀ j, j < 14 → lpS (kyN j) 14 0 3 = nI (20 + j) := by decide +kernel
theorem ky_no {N : Nat} {x : Int32} : ∀ {r j : Nat}, (∀ i, i < r → kyN (j + i) ≠ N) → lpS N r j x = x := by
  intro r
  induction r with
  | zero => intro j _; rfl
  | succ r ih =>
    intro j h
    rw [lpS, if_neg (show ¬ kyN j = N from h 0 (by omega))]
    exact ih (fun i hi => by rw [show j + 1 + i = j + (i + 1) by omega]; exact h (i + 1) (by omega))
theorem wt_lp {T : Nat → Int32} {s e : Nat} {x : Int32} (hs : s ≤ e) (hT : ∀ i, i < e - s → ltr (T (s + i))) (hx : x = 1 ∨ x = 3) : RK (wtS T s e) (lpS (nmN T s (e - s)) 14 0 x) := by
  have ck : ∀ j, j < 14 → (wdC T s e (kyP j).1 (kyP j).2 = true ↔ nmN T s (e - s) = kyN j) := fun j hj => wdC_iff hs hT (fun i hi => ltr_of (ky_ltr j hj i hi))
  have yes : ∀ j K, j < 14 → wdC T s e (kyP j).1 (kyP j).2 = true → K ≠ 1 → rkF K = 20 + j → RK K (lpS (nmN T s (e - s)) 14 0 x) := by
    intro j K hj hc hK hr
    rw [(ck j hj).mp hc]
    refine Or.inr ⟨hK, ?_⟩
    rcases hx with rfl | rfl
    · rw [ky_lp1 j hj, hr]
    · rw [ky_lp3 j hj, hr]
  unfold wtS
  by_cases c0 : wdC T s e 0 5 = true
  · rw [if_pos c0]; exact yes 0 3 (by decide) c0 (by decide) (by decide)
  rw [if_neg c0]
  by_cases c2 : wdC T s e 6 4 = true
  · rw [if_pos c2]; exact yes 2 4 (by decide) c2 (by decide) (by decide)
  rw [if_neg c2]
  by_cases c3 : wdC T s e 11 3 = true
  · rw [if_pos c3]; exact yes 3 5 (by decide) c3 (by decide) (by decide)
  rw [if_neg c3]
  by_cases c1 : wdC T s e 15 2 = true
  · rw [if_pos c1]; exact yes 1 6 (by decide) c1 (by decide) (by decide)
  rw [if_neg c1]
  by_cases c4 : wdC T s e 18 2 = true
  · rw [if_pos c4]; exact yes 4 7 (by decide) c4 (by decide) (by decide)
  rw [if_neg c4]
  by_cases c5 : wdC T s e 21 3 = true
  · rw [if_pos c5]; exact yes 5 8 (by decide) c5 (by decide) (by decide)
  rw [if_neg c5]
  by_cases c6 : wdC T s e 25 4 = true
  · rw [if_pos c6]; exact yes 6 9 (by decide) c6 (by decide) (by decide)
  rw [if_neg c6]
  by_cases c7 : wdC T s e 30 6 = true
  · rw [if_pos c7]; exact yes 7 10 (by decide) c7 (by decide) (by decide)
  rw [if_neg c7]
  by_cases c8 : wdC T s e 37 6 = true
  · rw [if_pos c8]; exact yes 8 11 (by decide) c8 (by decide) (by decide)
  rw [if_neg c8]
  by_cases c9 : wdC T s e 44 5 = true
  · rw [if_pos c9]; exact yes 9 12 (by decide) c9 (by decide) (by decide)
  rw [if_neg c9]
  by_cases c10 : wdC T s e 50 6 = true
  · rw [if_pos c10]; exact yes 10 13 (by decide) c10 (by decide) (by decide)
  rw [if_neg c10]
  by_cases c11 : wdC T s e 57 3 = true
  · rw [if_pos c11]; exact yes 11 14 (by decide) c11 (by decide) (by decide)
  rw [if_neg c11]
  by_cases c12 : wdC T s e 61 3 = true
  · rw [if_pos c12]; exact yes 12 15 (by decide) c12 (by decide) (by decide)
  rw [if_neg c12]
  by_cases c13 : wdC T s e 65 4 = true
  · rw [if_pos c13]; exact yes 13 16 (by decide) c13 (by decide) (by decide)
  rw [if_neg c13]
  rw [ky_no (fun i hi z => ?_)]
  · exact Or.inl ⟨rfl, hx⟩
  · rw [Nat.zero_add] at z
    have hc := (ck i hi).mpr z.symm
    have hi' : i = 0 ∨ i = 1 ∨ i = 2 ∨ i = 3 ∨ i = 4 ∨ i = 5 ∨ i = 6 ∨ i = 7 ∨ i = 8 ∨ i = 9 ∨ i = 10 ∨ i = 11 ∨ i = 12 ∨ i = 13 := by omega
    rcases hi' with rfl | rfl | rfl | rfl | rfl | rfl | rfl | rfl | rfl | rfl | rfl | rfl | rfl | rfl
    · exact c0 hc
    · exact c1 hc
    · exact c2 hc
    · exact c3 hc
    · exact c4 hc
    · exact c5 hc
    · exact c6 hc
    · exact c7 hc
    · exact c8 hc
    · exact c9 hc
    · exact c10 hc
    · exact c11 hc
    · exact c12 hc
    · exact c13 hc
