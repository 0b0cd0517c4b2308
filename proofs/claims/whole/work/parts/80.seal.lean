/-! the first look that says broken; sealed -/
theorem i32_refl (x : Int32) : x ≤ x := by
  rw [Int32.le_iff_toInt_le]
  exact Int.le_refl _
def brP (σ : PS) (x : Nat) (j : Nat) : Bool := decide (gi σ 169 j = 1) && decide (gi σ 170 j = nI x)
def brkS (P : Nat → Bool) (day : Nat → Int32) : Nat → Option Nat
  | 0 => none
  | n + 1 => if P n = true then (match brkS P day n with
    | none => some n
    | some m => if day m ≤ day n then some m else some n) else brkS P day n
theorem brk_lt {P : Nat → Bool} {day : Nat → Int32} : ∀ {n m : Nat}, brkS P day n = some m → m < n ∧ P m = true ∧ ∀ j, j < n → P j = true → day m ≤ day j := by
  intro n
  induction n with
  | zero => intro m h; cases h
  | succ n ih =>
    intro m h
    rw [brkS] at h
    by_cases hp : P n = true
    · rw [if_pos hp] at h
      cases hb : brkS P day n with
      | none =>
        rw [hb] at h
        cases h
        refine ⟨by omega, hp, fun j hj hPj => ?_⟩
        by_cases hjn : j = n
        · rw [hjn]; exact i32_refl _
        · exfalso
          have hn : ∀ k i, i < k → brkS P day k = none → P i = false := by
            intro k
            induction k with
            | zero => intro i hi _; omega
            | succ k ihk =>
              intro i hi hk
              rw [brkS] at hk
              by_cases hpk : P k = true
              · rw [if_pos hpk] at hk
                cases hbk : brkS P day k with
                | none => rw [hbk] at hk; cases hk
                | some v => rw [hbk] at hk; simp only at hk; split at hk <;> cases hk
              · rw [if_neg hpk] at hk
                by_cases hik : i = k
                · rw [hik]; exact Bool.eq_false_iff.mpr hpk
                · exact ihk i (by omega) hk
          rw [hn n j (by omega) hb] at hPj
          cases hPj
      | some v =>
        rw [hb] at h
        simp only at h
        have hv := ih hb
        by_cases hd : day v ≤ day n
        · rw [if_pos hd] at h
          cases h
          refine ⟨by omega, hv.2.1, fun j hj hPj => ?_⟩
          by_cases hjn : j = n
          · rw [hjn]; exact hd
          · exact hv.2.2 j (by omega) hPj
        · rw [if_neg hd] at h
          cases h
          refine ⟨by omega, hp, fun j hj hPj => ?_⟩
          by_cases hjn : j = n
          · rw [hjn]; exact i32_refl _
          · exact Int32.le_trans (Int32.le_of_lt (Int32.not_le.mp hd)) (hv.2.2 j (by omega) hPj)
    · rw [if_neg hp] at h
      have hv := ih h
      refine ⟨by omega, hv.2.1, fun j hj hPj => ?_⟩
      by_cases hjn : j = n
      · rw [hjn] at hPj; exact absurd hPj hp
      · exact hv.2.2 j (by omega) hPj
theorem brk_none {P : Nat → Bool} {day : Nat → Int32} : ∀ {n : Nat}, brkS P day n = none → ∀ j, j < n → P j = false := by
  intro n
  induction n with
  | zero => intro _ j hj; omega
  | succ n ih =>
    intro h j hj
    rw [brkS] at h
    by_cases hp : P n = true
    · rw [if_pos hp] at h
      cases hb : brkS P day n with
      | none => rw [hb] at h; cases h
      | some v => rw [hb] at h; simp only at h; split at h <;> cases h
    · rw [if_neg hp] at h
      by_cases hjn : j = n
      · rw [hjn]; exact Bool.eq_false_iff.mpr hp
      · exact ih h j (by omega)
def onI (o : Option Nat) : Int32 := match o with
  | none => -1
  | some m => nI m
/-- a look of the class beside one of the reference -/
theorem look_iff {σ : PS} {j x : Nat} (h : FX σ j) (hx : x < 2 ^ 31) : (gi σ 26 j = nI x ∧ gi σ 28 j = 0 ↔ brP σ x j = true) ∧ (gi σ 26 j = nI x ∧ ¬ gi σ 28 j = 0 ↔ gi σ 169 j = 2 ∧ gi σ 170 j = nI x) := by
  unfold brP
  rw [Bool.and_eq_true, decide_eq_true_eq, decide_eq_true_eq]
  rcases h.2.2 with ⟨h1, h2, -⟩ | ⟨h1, h2, h3, -⟩ | ⟨h1, h2, h3, -⟩
  · rw [h1, h2]
    have : ¬ (-1 : Int32) = nI x := fun q => nI_m1 hx q.symm
    exact ⟨⟨fun q => absurd q.1 this, fun q => absurd q.1 (by decide)⟩, ⟨fun q => absurd q.1 this, fun q => absurd q.1 (by decide)⟩⟩
  · rw [h1, h2, h3]
    exact ⟨⟨fun q => ⟨rfl, q.1⟩, fun q => ⟨q.2, rfl⟩⟩, ⟨fun q => absurd rfl q.2, fun q => absurd q.1 (by decide)⟩⟩
  · rw [h1, h2, h3]
    exact ⟨⟨fun q => absurd q.2 (by decide), fun q => absurd q.1 (by decide)⟩, ⟨fun q => ⟨rfl, q.1⟩, fun q => ⟨q.2, by decide⟩⟩⟩
theorem broken_ok {f x n : Nat} {σ : PS} (hF : IF f σ) (hx : x < 60) (hn : n ≤ f) : ∀ (q m j : Nat), j + q = n → fX0_firstBroken_5 (m + q + 1) (nI x) (nI n) (onI (brkS (brP σ x) (gi σ 27) j)) (nI j) σ = some (onI (brkS (brP σ x) (gi σ 27) n), σ) := by
  have hf := hF.1
  intro q
  induction q with
  | zero =>
    intro m j hq
    have : j = n := by omega
    subst this
    rw [fX0_firstBroken_5, if_pos (nI_le (Nat.le_refl _) (by omega))]
  | succ q ih =>
    intro m j hq
    have ih' := ih m (j + 1) (by omega)
    rw [brkS] at ih'
    rw [show m + (q + 1) + 1 = (m + q + 1) + 1 by omega, fX0_firstBroken_5, if_neg (nI_ge (by omega) (by omega)), if_neg (l_nle (k := 300) (by rfl) (by omega) (by decide))]
    unfold fX0_firstBroken_61 fX0_firstBroken_64
    simp only [gd_t (inb_nI (show j < 300 by omega) (show 300 < 2 ^ 31 by decide))]
    rw [nI_clamp (show j < 2 ^ 31 by omega), nI_1]
    have hl := (look_iff (hF.2.2.2.1 j (by omega)) (show x < 2 ^ 31 by omega)).1
    by_cases h1 : gi σ 26 j = nI x
    · rw [if_pos h1]
      by_cases h2 : gi σ 28 j = 0
      · rw [if_pos h2]
        rw [if_pos (hl.mp ⟨h1, h2⟩)] at ih'
        cases hb : brkS (brP σ x) (gi σ 27) j with
        | none =>
          rw [hb] at ih'
          rw [show onI none = -1 from rfl, if_pos rfl]
          exact ih'
        | some v =>
          rw [hb] at ih'
          simp only at ih'
          have hv := (brk_lt hb).1
          rw [show onI (some v) = nI v from rfl, if_neg (nI_m1 (by omega)), gd_t (inb_nI (show v < 300 by omega) (by decide)), nI_clamp (by omega)]
          by_cases hd : gi σ 27 v ≤ gi σ 27 j
          · rw [if_pos hd]
            rw [if_pos hd] at ih'
            exact ih'
          · rw [if_neg hd]
            rw [if_neg hd] at ih'
            exact ih'
      · rw [if_neg h2]
        rw [if_neg (fun q => h2 (hl.mpr q).2)] at ih'
        exact ih'
    · rw [if_neg h1]
      rw [if_neg (fun q => h1 (hl.mpr q).1)] at ih'
      exact ih'
theorem firstBroken_eq {f x n : Nat} {σ : PS} (hF : IF f σ) (hx : x < 60) (hn : n ≤ f) : fX0_firstBroken (nI x) (nI n) σ = some (onI (brkS (brP σ x) (gi σ 27) n), σ) := by
  unfold fX0_firstBroken
  obtain ⟨m, hm⟩ := FU_k (n + 1) (by have := hF.1; omega)
  rw [hm]
  exact broken_ok hF hx hn n m 0 (by omega)
theorem sealM_ok {f x n : Nat} {d : Int32} {σ : PS} (hF : IF f σ) (hn : n ≤ f) : ∀ (q m j : Nat), j + q = n → (∀ i, i < j → brP σ x i = true → ¬ gi σ 27 i ≤ d) → (fX9_sealed_32 (m + q + 1) (nI x) d (nI n) (nI j) σ = some (1, σ) ∧ ∀ i, i < n → brP σ x i = true → ¬ gi σ 27 i ≤ d) ∨ (fX9_sealed_32 (m + q + 1) (nI x) d (nI n) (nI j) σ = some (0, σ) ∧ ∃ i, i < n ∧ brP σ x i = true ∧ gi σ 27 i ≤ d) := by
  have hf := hF.1
  intro q
  induction q with
  | zero =>
    intro m j hq hall
    have : j = n := by omega
    subst this
    left
    rw [fX9_sealed_32, if_pos (nI_le (Nat.le_refl _) (by omega))]
    exact ⟨rfl, hall⟩
  | succ q ih =>
    intro m j hq hall
    rw [show m + (q + 1) + 1 = (m + q + 1) + 1 by omega, fX9_sealed_32, if_neg (nI_ge (by omega) (by omega))]
    unfold fX9_sealed_73
    simp only [gd_t (inb_nI (show j < 300 by omega) (show 300 < 2 ^ 31 by decide))]
    rw [nI_clamp (show j < 2 ^ 31 by omega), nI_1, (hF.2.2.2.1 j (by omega)).1]
    have step : (∀ i, i < j + 1 → brP σ x i = true → ¬ gi σ 27 i ≤ d) ∨ (brP σ x j = true ∧ gi σ 27 j ≤ d) := by
      by_cases hb : brP σ x j = true ∧ gi σ 27 j ≤ d
      · exact Or.inr hb
      · left
        intro i hi hP hd
        by_cases hij : i = j
        · rw [hij] at hP hd; exact hb ⟨hP, hd⟩
        · exact hall i (by omega) hP hd
    by_cases h1 : gi σ 169 j = 1
    · rw [if_pos h1]
      by_cases h2 : gi σ 170 j = nI x
      · rw [if_pos h2]
        have hP : brP σ x j = true := by unfold brP; rw [decide_eq_true h1, decide_eq_true h2]; rfl
        by_cases h3 : d < gi σ 27 j
        · rw [if_pos h3]
          refine ih m (j + 1) (by omega) ?_
          rcases step with s | s
          · exact s
          · exact absurd s.2 (Int32.not_le.mpr h3)
        · rw [if_neg h3]
          right
          exact ⟨rfl, j, by omega, hP, Int32.not_lt.mp h3⟩
      · rw [if_neg h2]
        refine ih m (j + 1) (by omega) ?_
        rcases step with s | s
        · exact s
        · have := s.1
          unfold brP at this
          rw [Bool.and_eq_true, decide_eq_true_eq, decide_eq_true_eq] at this
          exact absurd this.2 h2
    · rw [if_neg h1]
      refine ih m (j + 1) (by omega) ?_
      rcases step with s | s
      · exact s
      · have := s.1
        unfold brP at this
        rw [Bool.and_eq_true, decide_eq_true_eq, decide_eq_true_eq] at this
        exact absurd this.1 h1
theorem op_sealed (x1 x2 x3 : Int32) : OPS (fX8_sealed x1 x2 x3) (fX9_sealed x1 x2 x3) := by
  rintro σ ⟨n, a, c, b, f, s, l, h⟩
  have h0 := h
  have hI : Inv σ := ⟨n, a, c, b, f, s, l, h⟩
  obtain ⟨-, -, ⟨⟨L1, L2, L3, L4, L5, L6⟩, -, ⟨B1, B2, B3, B4, B5⟩, -⟩, hF, -⟩ := h
  have hF' := hF
  obtain ⟨F1, F2, F3, F4, F5⟩ := hF
  have hiff := le_pred (x := x1) (y := nI b) rfl (show b < 2 ^ 31 by omega)
  unfold fX8_sealed
  rw [hasBale_eq, B2]
  simp only [Option.bind_some]
  rw [ite_tv]
  by_cases q1 : 0 ≤ x1 ∧ x1 ≤ nI b - 1
  rotate_left
  · rw [if_neg q1]
    refine hO_pr rfl ?_
    unfold fX9_sealed
    rw [B3]
    by_cases r1 : x1 < 0
    · rw [if_pos r1]; exact ⟨_, rfl, rfl, hI⟩
    · rw [if_neg r1, if_pos (Classical.byContradiction (fun q => q1 (hiff.mpr ⟨r1, q⟩)))]
      exact ⟨_, rfl, rfl, hI⟩
  have q1' := hiff.mp q1
  rw [if_pos q1, isDay_eq]
  simp only [Option.bind_some]
  rw [ite_tv]
  by_cases q2 : 0 ≤ x2 ∧ x2 ≤ 59
  rotate_left
  · rw [if_neg q2]
    refine hO_pr rfl ?_
    unfold fX9_sealed
    rw [B3, if_neg q1'.1, if_neg q1'.2, mDay_eq]
    simp only [Option.bind_some]
    rw [ite_tv, if_neg q2]
    exact ⟨_, rfl, rfl, hI⟩
  rw [if_pos q2, isKnown_eq, F2]
  simp only [Option.bind_some]
  rw [ite_tv]
  by_cases q3 : 0 ≤ x3 ∧ x3 ≤ nI f
  rotate_left
  · rw [if_neg q3]
    refine hO_pr rfl ?_
    unfold fX9_sealed
    rw [B3, if_neg q1'.1, if_neg q1'.2, mDay_eq]
    simp only [Option.bind_some]
    rw [ite_tv, if_pos q2, mKnown_eq, F3]
    simp only [Option.bind_some]
    rw [ite_tv, if_neg q3]
    exact ⟨_, rfl, rfl, hI⟩
  rw [if_pos q3]
  obtain ⟨x, rfl, hx⟩ := (isN_lt (by omega)).mp q1
  obtain ⟨m, rfl, -, hm⟩ := (isN_of (l := 0) (lo := 0) (hi := f) rfl rfl (by decide) (by omega)).mp q3
  rw [firstBroken_eq hF' (by omega) hm]
  simp only [Option.bind_some]
  have ref : ∀ (r : Int32), ((∀ i, i < m → brP σ x i = true → ¬ gi σ 27 i ≤ x2) → r = 1) → ((∃ i, i < m ∧ brP σ x i = true ∧ gi σ 27 i ≤ x2) → r = 0) → hO (fX9_sealed (nI x) x2 (nI m) σ) (fun q => r = q.1 ∧ Inv q.2) := by
    intro r r1 r0
    unfold fX9_sealed
    rw [B3, if_neg q1'.1, if_neg q1'.2, mDay_eq]
    simp only [Option.bind_some]
    rw [ite_tv, if_pos q2, mKnown_eq, F3]
    simp only [Option.bind_some]
    rw [ite_tv, if_pos q3]
    obtain ⟨m2, hm2⟩ := FU_k (m + 1) (by omega)
    rw [hm2]
    rcases sealM_ok (x := x) (d := x2) hF' hm m m2 0 (by omega) (fun _ h => by omega) with ⟨e, hh⟩ | ⟨e, hh⟩
    · exact ⟨_, e, r1 hh, hI⟩
    · exact ⟨_, e, r0 hh, hI⟩
  cases hb : brkS (brP σ x) (gi σ 27) m with
  | none =>
    rw [show onI none = -1 from rfl, if_pos rfl]
    refine hO_pr rfl (ref 1 (fun _ => rfl) (fun ⟨i, hi, hP, _⟩ => ?_))
    rw [brk_none hb i hi] at hP
    cases hP
  | some v =>
    obtain ⟨hv, hPv, hmin⟩ := brk_lt hb
    rw [show onI (some v) = nI v from rfl, if_neg (nI_m1 (by omega)), gd_t (inb_nI (show v < 300 by omega) (by decide)), nI_clamp (by omega)]
    by_cases hd : gi σ 27 v ≤ x2
    · rw [if_pos hd]
      exact hO_pr rfl (ref 0 (fun hh => absurd hd (hh v hv hPv)) (fun _ => rfl))
    · rw [if_neg hd]
      exact hO_pr rfl (ref 1 (fun _ => rfl) (fun ⟨i, hi, hP, hdi⟩ => absurd (Int32.le_trans (hmin i hi hP) hdi) hd))
