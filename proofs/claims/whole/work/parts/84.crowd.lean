/-! crowded -/
theorem cn1_nI {p : Nat → Bool} : ∀ n, ∃ k, cnX p (fun _ => 1) n = nI k ∧ k ≤ n ∧ (k = 0 ↔ ∀ j, j < n → p j = false) := by
  intro n
  induction n with
  | zero => exact ⟨0, rfl, Nat.le_refl _, fun _ j hj => by omega, fun _ => rfl⟩
  | succ n ih =>
    obtain ⟨k, h1, h2, h3⟩ := ih
    rw [cnX]
    by_cases hp : p n = true
    · rw [if_pos hp, h1, nI_1]
      refine ⟨k + 1, rfl, by omega, fun h => by omega, fun h => ?_⟩
      rw [h n (by omega)] at hp
      cases hp
    · rw [if_neg hp]
      refine ⟨k, h1, by omega, fun h j hj => ?_, fun h => h3.mpr (fun j hj => h j (by omega))⟩
      by_cases hjn : j = n
      · rw [hjn]; exact Bool.eq_false_iff.mpr hp
      · exact h3.mp h j (by omega)
def anyS (p : Nat → Bool) (c : Nat) : Bool := (List.range c).any p
theorem anyS_iff {p : Nat → Bool} {c : Nat} : anyS p c = true ↔ ∃ j, j < c ∧ p j = true := by
  unfold anyS
  rw [List.any_eq_true]
  constructor
  · rintro ⟨j, h1, h2⟩
    exact ⟨j, List.mem_range.mp h1, h2⟩
  · rintro ⟨j, h1, h2⟩
    exact ⟨j, List.mem_range.mpr h1, h2⟩
theorem cn1_le {p : Nat → Bool} {n : Nat} (hn : n < 2 ^ 31) : cnX p (fun _ => 1) n ≤ 0 ↔ ¬ anyS p n = true := by
  obtain ⟨k, h1, h2, h3⟩ := cn1_nI (p := p) n
  rw [h1, anyS_iff]
  constructor
  · rintro h ⟨j, hj, hp⟩
    have hk : k = 0 := by
      by_cases hk : k = 0
      · exact hk
      · exact absurd h (nI_nle (by omega) (by omega))
    rw [h3.mp hk j hj] at hp
    cases hp
  · intro h
    have : k = 0 := h3.mpr (fun j hj => by
      cases hp : p j with
      | false => rfl
      | true => exact absurd ⟨j, hj, hp⟩ h)
    rw [this]
    decide
theorem crwC {i c : Nat} {G : Nat → TB} {τ : PS} (hc : c ≤ 6) (h6 : gi τ 3 6 = nI c) (hR : ∀ d, d < 60 → ∀ y, y < c → CR τ y d (G d)) : ∀ (q m d : Nat), d + q = 60 → fX8_crowded_46 (m + q + 1) (nI i) (nI d) τ = some (cmS (fun d => anyS (ouS (G d) i) c) d q, τ) := by
  intro q
  induction q with
  | zero =>
    intro m d hq
    have : d = 60 := by omega
    subst this
    rw [fX8_crowded_46, if_pos (show (60 : Int32) ≤ nI 60 by decide)]
    rfl
  | succ q ih =>
    intro m d hq
    obtain ⟨m2, hm2⟩ := FU_k (c + 1) (by omega)
    have e1 : fX1_guests (nI i) (nI d) 0 τ = some (cnX (ouS (G d) i) (fun _ => 1) c, τ) := by
      unfold fX1_guests
      rw [hm2]
      have := gstC (i := i) (w := false) hc (show d < 60 by omega) h6 (hR d (by omega)) c m2 0 (by omega)
      rw [if_neg (show ¬ false = true by decide)] at this
      exact this
    rw [show m + (q + 1) + 1 = (m + q + 1) + 1 by omega, fX8_crowded_46, if_neg (l_nle (k := 60) (by rfl) (by omega) (by decide)), e1]
    simp only [Option.bind_some]
    rw [nI_1, ih m (d + 1) (by omega), cmS]
    by_cases h : anyS (ouS (G d) i) c = true
    · rw [if_neg (fun z => (cn1_le (by omega)).mp z h), if_pos h]
    · rw [if_pos ((cn1_le (by omega)).mpr h), if_neg h]
theorem crwM43 {i d c : Nat} {D : TB} {τ : PS} {r33 : Int32 → Int32 → PS → Option (Int32 × PS)} (hi : i < 8) (hc : c ≤ 6) (hd : d < 60) (h6 : gi τ 132 44 = nI c) (hR : ∀ y, y < c → gi τ 172 (60 * y + d) = D 0 y ∧ gi τ 173 (60 * y + d) = D 1 y) : ∀ (q m y : Nat), y + q = c → (∀ j, j < y → ouS D i j = false) → fX9_crowded_43 r33 (m + q + 1) (nI i) (nI d) (nI y) τ = if anyS (ouS D i) c = true then some (nI d, τ) else r33 (nI i) (nI (d + 1)) τ := by
  intro q
  induction q with
  | zero =>
    intro m y hq hall
    have : y = c := by omega
    subst this
    rw [fX9_crowded_43, h6, if_pos (nI_le (Nat.le_refl _) (by omega)), nI_1, if_neg]
    rw [anyS_iff]
    rintro ⟨j, hj, hp⟩
    rw [hall j hj] at hp
    cases hp
  | succ q ih =>
    intro m y hq hall
    have hRy := hR y (by omega)
    rw [show m + (q + 1) + 1 = (m + q + 1) + 1 by omega, fX9_crowded_43, h6, if_neg (nI_ge (by omega) (by omega)), nI60, gd_t (inb_nI (show 60 * y + d < 360 by omega) (by decide)), nI_clamp (show 60 * y + d < 2 ^ 31 by omega), hRy.1]
    unfold fX9_crowded_83
    by_cases h1 : D 0 y = nI i
    · rw [if_pos h1, outM (by omega) hd hRy.1 hRy.2 (by rw [h1]; exact nI_m1 (by omega))]
      simp only [Option.bind_some]
      rw [ite_tb, nI_1]
      by_cases h2 : D 1 y = -1
      · rw [if_pos (decide_eq_true h2), if_pos]
        rw [anyS_iff]
        exact ⟨y, by omega, by unfold ouS; rw [decide_eq_true h1, decide_eq_true h2]; rfl⟩
      · rw [if_neg (by rw [decide_eq_false h2]; decide)]
        refine ih m (y + 1) (by omega) (fun j hj => ?_)
        by_cases hjy : j = y
        · rw [hjy]; unfold ouS; rw [decide_eq_false h2, Bool.and_false]
        · exact hall j (by omega)
    · rw [if_neg h1, nI_1]
      refine ih m (y + 1) (by omega) (fun j hj => ?_)
      by_cases hjy : j = y
      · rw [hjy]; unfold ouS; rw [decide_eq_false h1, Bool.false_and]
      · exact hall j (by omega)
theorem crwM {i c : Nat} {G : Nat → TB} {τ : PS} (hi : i < 8) (hc : c ≤ 6) (h6 : gi τ 132 44 = nI c) (hR : ∀ d, d < 60 → ∀ y, y < c → gi τ 172 (60 * y + d) = G d 0 y ∧ gi τ 173 (60 * y + d) = G d 1 y) : ∀ (q m d : Nat), d + q = 60 → fX9_crowded_33 (m + q + 1) (nI i) (nI d) τ = some (cmS (fun d => anyS (ouS (G d) i) c) d q, τ) := by
  intro q
  induction q with
  | zero =>
    intro m d hq
    have : d = 60 := by omega
    subst this
    rw [fX9_crowded_33, if_pos (show (60 : Int32) ≤ nI 60 by decide)]
    rfl
  | succ q ih =>
    intro m d hq
    obtain ⟨m2, hm2⟩ := FU_k (c + 1) (by omega)
    have e1 := crwM43 (r33 := fX9_crowded_33 (m + q + 1)) hi hc (show d < 60 by omega) h6 (hR d (by omega)) c m2 0 (by omega) (fun j hj => by omega)
    have e2 : fX9_crowded_43 (fX9_crowded_33 (m + q + 1)) FU (nI i) (nI d) 0 τ = if anyS (ouS (G d) i) c = true then some (nI d, τ) else fX9_crowded_33 (m + q + 1) (nI i) (nI (d + 1)) τ := by
      rw [hm2]
      exact e1
    rw [show m + (q + 1) + 1 = (m + q + 1) + 1 by omega, fX9_crowded_33, if_neg (l_nle (k := 60) (by rfl) (by omega) (by decide)), e2, ih m (d + 1) (by omega), cmS]
    by_cases h : anyS (ouS (G d) i) c = true
    · rw [if_pos h, if_pos h]
    · rw [if_neg h, if_neg h]
theorem op_crowded (x1 x2 x3 : Int32) : OPS (fX8_crowded x1 x2 x3) (fX9_crowded x1 x2 x3) := by
  rintro σ ⟨n, a, c, b, f, s, l, h⟩
  have hI : Inv σ := h.inv
  obtain ⟨⟨k5, k6⟩, ⟨k1, k2⟩, ⟨k3, k4⟩, -, ha8, hc6, hf3, hb6, hB⟩ := cnts h
  unfold fX8_crowded
  rw [hasInn_eq, k5]
  simp only [Option.bind_some]
  rw [ite_tv]
  have Rf : ∀ τ, gi τ 132 38 = nI a → gi τ 132 54 = nI f → fX9_crowded x1 x2 x3 τ = if 0 ≤ x1 ∧ x1 ≤ nI a - 1 then (if 0 ≤ x2 ∧ x2 ≤ 59 then (if 0 ≤ x3 ∧ x3 ≤ nI f then (fX9_goes x3 τ).bind (fun σ11 => fX9_crowded_33 FU x1 x2 σ11) else some (-1, τ)) else some (-1, τ)) else some (-1, τ) := by
    intro τ e1 e2
    unfold fX9_crowded
    rw [minn x1 e1 ha8]
    simp only [Option.bind_some]
    rw [ite_tv, mDay_eq]
    simp only [Option.bind_some]
    rw [ite_tv, mKnown_eq, e2]
    simp only [Option.bind_some]
    rw [ite_tv]
  by_cases q1 : 0 ≤ x1 ∧ x1 ≤ nI a - 1
  rotate_left
  · rw [if_neg q1]
    refine hO_pr rfl ?_
    rw [Rf σ k6 k4, if_neg q1]
    exact ⟨_, rfl, rfl, hI⟩
  rw [if_pos q1, isDay_eq]
  simp only [Option.bind_some]
  rw [ite_tv]
  by_cases q2 : 0 ≤ x2 ∧ x2 ≤ 59
  rotate_left
  · rw [if_neg q2]
    refine hO_pr rfl ?_
    rw [Rf σ k6 k4, if_pos q1, if_neg q2]
    exact ⟨_, rfl, rfl, hI⟩
  rw [if_pos q2, isKnown_eq, k3]
  simp only [Option.bind_some]
  rw [ite_tv]
  by_cases q3 : 0 ≤ x3 ∧ x3 ≤ nI f
  rotate_left
  · rw [if_neg q3]
    refine hO_pr rfl ?_
    rw [Rf σ k6 k4, if_pos q1, if_pos q2, if_neg q3]
    exact ⟨_, rfl, rfl, hI⟩
  rw [if_pos q3, gd_t hB]
  obtain ⟨i, rfl, hi⟩ := (isN_lt (by omega)).mp q1
  obtain ⟨d, rfl, hd⟩ := toD q2
  obtain ⟨k, rfl, hk⟩ := toK hf3 q3
  refine wk_then h hk (fun τ hτ hCT hkF => ?_)
  obtain ⟨⟨-, t6⟩, ⟨t1, t2⟩, ⟨-, t4⟩, -⟩ := cnts hτ
  obtain ⟨m, hm⟩ := FU_k (60 - d + 1) (by omega)
  have e1 : fX8_crowded_46 FU (nI i) (nI d) τ = some (cmS (fun d => anyS (ouS (rodS (lnd τ) l (shX τ k) a c (d + 1)) i) c) d (60 - d), τ) := by
    rw [hm]
    exact crwC (G := fun d => rodS (lnd τ) l (shX τ k) a c (d + 1)) hc6 t1 (fun d hd => (hCT d hd).1) (60 - d) m d (by omega)
  refine hO_pr e1 ?_
  rw [Rf τ t6 t4, if_pos q1, if_pos q2, if_pos q3]
  refine gs_then hτ hk (fun υ hυ hRT hgF => ?_)
  obtain ⟨-, ⟨-, u2⟩, -⟩ := cnts hυ
  have e2 : fX9_crowded_33 FU (nI i) (nI d) υ = some (cmS (fun d => anyS (ouS (rodS (lnd τ) l (shX τ k) a c (d + 1)) i) c) d (60 - d), υ) := by
    rw [hm]
    exact crwM (G := fun d => rodS (lnd τ) l (shX τ k) a c (d + 1)) (by omega) hc6 u2 (fun d hd y hy => ⟨((hRT d hd).1 y hy).1, ((hRT d hd).1 y hy).2.1⟩) (60 - d) m d (by omega)
  exact ⟨_, e2, rfl, hυ.inv⟩
