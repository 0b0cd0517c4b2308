/-! could -/
def ahd (day : Nat → Int32) (m j : Nat) : Bool := decide (day j < day m) || (decide (day j = day m) && decide (j < m))
def whP (σ : PS) (x m j : Nat) : Bool := (decide (gi σ 169 j = 2) && decide (gi σ 170 j = nI x)) && ahd (gi σ 27) m j
def lwS (W : Nat → Bool) (day : Nat → Int32) : Nat → Int32
  | 0 => -1
  | n + 1 => if W n = true then imax (lwS W day n) (day n) else lwS W day n
theorem susp_ok {f x n v : Nat} {σ : PS} (hF : IF f σ) (hx : x < 60) (hn : n ≤ f) (hv : v < n) : ∀ (q m j : Nat), j + q = n → fX0_firstSuspectDay_6 (m + q + 1) (nI x) (nI n) (nI v) (lwS (whP σ x v) (gi σ 27) j) (nI j) σ = some (if lwS (whP σ x v) (gi σ 27) n = gi σ 27 v then lwS (whP σ x v) (gi σ 27) n else lwS (whP σ x v) (gi σ 27) n + 1, σ) := by
  have hf := hF.1
  intro q
  induction q with
  | zero =>
    intro m j hq
    have : j = n := by omega
    subst this
    rw [fX0_firstSuspectDay_6, if_pos (nI_le (Nat.le_refl _) (by omega))]
    unfold fX0_firstSuspectDay_111
    rw [gd_t (inb_nI (show v < 300 by omega) (by decide)), nI_clamp (by omega)]
    split <;> rfl
  | succ q ih =>
    intro m j hq
    have ih' := ih m (j + 1) (by omega)
    rw [lwS] at ih'
    rw [show m + (q + 1) + 1 = (m + q + 1) + 1 by omega, fX0_firstSuspectDay_6, if_neg (nI_ge (by omega) (by omega)), if_neg (l_nle (k := 300) (by rfl) (by omega) (by decide))]
    simp only [gd_t (inb_nI (show j < 300 by omega) (show 300 < 2 ^ 31 by decide)), gd_t (inb_nI (show v < 300 by omega) (show 300 < 2 ^ 31 by decide))]
    rw [nI_clamp (show j < 2 ^ 31 by omega), nI_clamp (show v < 2 ^ 31 by omega)]
    have hl := (look_iff (hF.2.2.2.1 j (by omega)) (show x < 2 ^ 31 by omega)).2
    have step : ∀ w : Bool, w = ahd (gi σ 27) v j → hO (fX0_firstSuspectDay_63 (fX0_firstSuspectDay_6 (m + q + 1)) (nI x) (nI n) (nI v) (lwS (whP σ x v) (gi σ 27) j) (nI j) (tb w) σ) (fun z => z = (if lwS (whP σ x v) (gi σ 27) n = gi σ 27 v then lwS (whP σ x v) (gi σ 27) n else lwS (whP σ x v) (gi σ 27) n + 1, σ)) := by
      intro w hw
      unfold fX0_firstSuspectDay_63 fX0_firstSuspectDay_105
      simp only [gd_t (inb_nI (show j < 300 by omega) (show 300 < 2 ^ 31 by decide))]
      rw [nI_clamp (show j < 2 ^ 31 by omega), nI_1, ite_tb]
      have hW : whP σ x v j = ((decide (gi σ 169 j = 2) && decide (gi σ 170 j = nI x)) && w) := by unfold whP; rw [hw]
      by_cases h1 : gi σ 26 j = nI x
      · rw [if_pos h1]
        by_cases h2 : gi σ 28 j = 0
        · rw [if_pos h2]
          have : (decide (gi σ 169 j = 2) && decide (gi σ 170 j = nI x)) = false := by
            cases hq : (decide (gi σ 169 j = 2) && decide (gi σ 170 j = nI x)) with
            | false => rfl
            | true =>
              rw [Bool.and_eq_true, decide_eq_true_eq, decide_eq_true_eq] at hq
              exact absurd h2 (hl.mpr hq).2
          rw [this, Bool.false_and] at hW
          rw [if_neg (by rw [hW]; decide)] at ih'
          exact ⟨_, ih', rfl⟩
        · rw [if_neg h2]
          obtain ⟨e1, e2⟩ := hl.mp ⟨h1, h2⟩
          rw [decide_eq_true e1, decide_eq_true e2, Bool.true_and, Bool.true_and] at hW
          cases w with
          | true =>
            rw [if_pos rfl]
            rw [if_pos hW] at ih'
            exact ⟨_, ih', rfl⟩
          | false =>
            rw [if_neg (by decide)]
            rw [if_neg (by rw [hW]; decide)] at ih'
            exact ⟨_, ih', rfl⟩
      · rw [if_neg h1]
        have : (decide (gi σ 169 j = 2) && decide (gi σ 170 j = nI x)) = false := by
          cases hq : (decide (gi σ 169 j = 2) && decide (gi σ 170 j = nI x)) with
          | false => rfl
          | true =>
            rw [Bool.and_eq_true, decide_eq_true_eq, decide_eq_true_eq] at hq
            exact absurd (hl.mpr hq).1 h1
        rw [this, Bool.false_and] at hW
        rw [if_neg (by rw [hW]; decide)] at ih'
        exact ⟨_, ih', rfl⟩
    have fin : ∀ w : Bool, w = ahd (gi σ 27) v j → fX0_firstSuspectDay_63 (fX0_firstSuspectDay_6 (m + q + 1)) (nI x) (nI n) (nI v) (lwS (whP σ x v) (gi σ 27) j) (nI j) (tb w) σ = some (if lwS (whP σ x v) (gi σ 27) n = gi σ 27 v then lwS (whP σ x v) (gi σ 27) n else lwS (whP σ x v) (gi σ 27) n + 1, σ) := by
      intro w hw
      obtain ⟨z, e, hz⟩ := step w hw
      rw [e, hz]
    unfold fX0_firstSuspectDay_58 fX0_firstSuspectDay_62
    by_cases h1 : gi σ 27 j < gi σ 27 v
    · rw [if_pos h1]
      exact fin true (by unfold ahd; rw [decide_eq_true h1]; rfl)
    · rw [if_neg h1]
      by_cases h2 : gi σ 27 j = gi σ 27 v
      · rw [if_pos h2]
        by_cases h3 : v ≤ j
        · rw [if_pos (nI_le h3 (by omega))]
          exact fin false (by unfold ahd; rw [decide_eq_false h1, decide_eq_false (show ¬ j < v by omega), Bool.and_false]; rfl)
        · rw [if_neg (nI_ge (by omega) (by omega))]
          exact fin true (by unfold ahd; rw [decide_eq_true h2, decide_eq_true (show j < v by omega), Bool.and_self, Bool.or_true])
      · rw [if_neg h2]
        exact fin false (by unfold ahd; rw [decide_eq_false h1, decide_eq_false h2, Bool.false_and]; rfl)
/-- the bits -/
def orS (p : Nat → Bool) : Nat → Int32 → Int32
  | 0, z => z
  | n + 1, z => if p n = true then orS p n z ||| (1 <<< (nI n &&& 31)) else orS p n z
theorem orS_acc {p : Nat → Bool} (z : Int32) : ∀ n, z ||| orS p n 0 = orS p n z := by
  intro n
  induction n with
  | zero => exact Int32.or_zero
  | succ n ih =>
    rw [orS, orS]
    by_cases h : p n = true
    · rw [if_pos h, if_pos h, ← ih, Int32.or_assoc]
    · rw [if_neg h, if_neg h, ih]
def coP (D : TB) (o y : Nat) : Bool := !(decide (y = o)) && (!(decide (D 0 o = -1)) && (decide (D 0 y = D 0 o) && decide (D 1 y = D 1 o)))
def dyS (G : Nat → TB) (o c : Nat) : Nat → Nat → Int32 → Int32
  | _, 0, z => z
  | d, q + 1, z => dyS G o c (d + 1) q (orS (coP (G d) o) c z)
theorem cmpC {o d c : Nat} {D : TB} {τ : PS} (hc : c ≤ 6) (ho : o < c) (hd : d < 60) (h6 : gi τ 3 6 = nI c) (hR : ∀ y, y < c → CR τ y d D) : fX1_companions (nI o) (nI d) τ = some (orS (coP D o) c 0, τ) := by
  have loop : ∀ (q m y : Nat), y + q = c → fX1_companions_15 (m + q + 1) (nI o) (nI d) (orS (coP D o) y 0) (D 0 o) (nI y) τ = some (orS (coP D o) c 0, τ) := by
    intro q
    induction q with
    | zero =>
      intro m y hq
      have : y = c := by omega
      subst this
      rw [fX1_companions_15, h6, if_pos (nI_le (Nat.le_refl _) (by omega))]
    | succ q ih =>
      intro m y hq
      have ih' := ih m (y + 1) (by omega)
      rw [orS] at ih'
      rw [show m + (q + 1) + 1 = (m + q + 1) + 1 by omega, fX1_companions_15, h6, if_neg (nI_ge (by omega) (by omega))]
      unfold fX1_companions_80
      simp only [gd_t (inb_nI (show y < 6 by omega) (show 6 < 2 ^ 31 by decide)), gd_t (inb_nI (show o < 6 by omega) (show 6 < 2 ^ 31 by decide)), gd_t (inb_nI hd (show 60 < 2 ^ 31 by decide))]
      rw [r43 (show y < 2 ^ 31 by omega), r50 (show y < 2 ^ 31 by omega), r50 (show o < 2 ^ 31 by omega), nI_clamp (show d < 2 ^ 31 by omega), (hR y (by omega)).1, (hR y (by omega)).2.1, (hR o ho).2.1, nI_1]
      by_cases h1 : y = o
      · rw [if_pos (show nI y = nI o by rw [h1])]
        rw [if_neg (show ¬ coP D o y = true by unfold coP; rw [decide_eq_true h1, Bool.not_true, Bool.false_and]; decide)] at ih'
        exact ih'
      · rw [if_neg (show ¬ nI y = nI o from fun q => h1 (nIeq_lit q (by omega) (by omega)))]
        by_cases h2 : D 0 o = -1
        · rw [if_pos h2]
          rw [if_neg (show ¬ coP D o y = true by unfold coP; rw [decide_eq_true h2, Bool.not_true, Bool.false_and, Bool.and_false]; decide)] at ih'
          exact ih'
        · rw [if_neg h2]
          by_cases h3 : D 0 y = D 0 o
          · rw [if_pos h3]
            by_cases h4 : D 1 y = D 1 o
            · rw [if_pos h4]
              rw [if_pos (show coP D o y = true by unfold coP; rw [decide_eq_false h1, decide_eq_false h2, decide_eq_true h3, decide_eq_true h4]; rfl)] at ih'
              exact ih'
            · rw [if_neg h4]
              rw [if_neg (show ¬ coP D o y = true by unfold coP; rw [decide_eq_false h4, Bool.and_false, Bool.and_false, Bool.and_false]; decide)] at ih'
              exact ih'
          · rw [if_neg h3]
            rw [if_neg (show ¬ coP D o y = true by unfold coP; rw [decide_eq_false h3, Bool.false_and, Bool.and_false, Bool.and_false]; decide)] at ih'
            exact ih'
  unfold fX1_companions
  rw [gd_t (inb_nI (show o < 6 by omega) (by decide)), gd_t (inb_nI hd (by decide)), r43 (by omega), nI_clamp (by omega), (hR o ho).1]
  obtain ⟨m, hm⟩ := FU_k (c + 1) (by omega)
  rw [hm]
  exact loop c m 0 (by omega)
theorem couC {x o c dl : Nat} {G : Nat → TB} {τ : PS} (hx : x < 60) (hc : c ≤ 6) (ho : o < c) (hdl : dl < 60) (h6 : gi τ 3 6 = nI c) (h24 : gi τ 24 x = nI o) (hR : ∀ d, d < 60 → ∀ y, y < c → CR τ y d (G d)) : ∀ (q m d : Nat) (z : Int32), d + q = dl + 1 → fX8_could_79 (m + q + 1) (nI x) (nI dl) z (nI d) τ = some (dyS G o c d q z, τ) := by
  intro q
  induction q with
  | zero =>
    intro m d z hq
    rw [fX8_could_79, if_pos (nI_lt (by omega) (by omega))]
    rfl
  | succ q ih =>
    intro m d z hq
    rw [show m + (q + 1) + 1 = (m + q + 1) + 1 by omega, fX8_could_79, if_neg (nI_nlt (by omega) (by omega)), if_neg (l_nle (k := 60) (by rfl) (by omega) (by decide)), gd_t (inb_nI hx (by decide)), nI_clamp (show x < 2 ^ 31 by omega), h24, cmpC hc ho (by omega) h6 (hR d (by omega))]
    simp only [Option.bind_some]
    rw [nI_1, orS_acc, ih m (d + 1) _ (by omega), dyS]
theorem couM263 {v o d c : Nat} {D : TB} {τ : PS} {r229 : Int32 → Int32 → Int32 → Int32 → PS → Option (Int32 × PS)} (hc : c ≤ 6) (ho : o < c) (hd : d < 60) (h6 : gi τ 132 44 = nI c) (hR : ∀ y, y < c → gi τ 172 (60 * y + d) = D 0 y ∧ gi τ 173 (60 * y + d) = D 1 y) (h0 : D 0 o ≠ -1) (z : Int32) : ∀ (q m y : Nat), y + q = c → fX9_could_263 r229 (m + q + 1) (nI v) (nI o) (orS (coP D o) y z) (nI d) (nI y) τ = r229 (nI v) (nI o) (orS (coP D o) c z) (nI (d + 1)) τ := by
  intro q
  induction q with
  | zero =>
    intro m y hq
    have : y = c := by omega
    subst this
    rw [fX9_could_263, h6, if_pos (nI_le (Nat.le_refl _) (by omega))]
    unfold fX9_could_352
    rw [nI_1]
  | succ q ih =>
    intro m y hq
    have ih' := ih m (y + 1) (by omega)
    rw [orS] at ih'
    rw [show m + (q + 1) + 1 = (m + q + 1) + 1 by omega, fX9_could_263, h6, if_neg (nI_ge (by omega) (by omega)), nI60, nI60]
    unfold fX9_could_346
    simp only [gd_t (inb_nI (show 60 * y + d < 360 by omega) (show 360 < 2 ^ 31 by decide)), gd_t (inb_nI (show 60 * o + d < 360 by omega) (show 360 < 2 ^ 31 by decide))]
    rw [nI_clamp (show 60 * y + d < 2 ^ 31 by omega), nI_clamp (show 60 * o + d < 2 ^ 31 by omega), (hR y (by omega)).1, (hR y (by omega)).2, (hR o ho).1, (hR o ho).2, nI_1]
    by_cases h1 : y = o
    · rw [if_pos (show nI y = nI o by rw [h1])]
      rw [if_neg (show ¬ coP D o y = true by unfold coP; rw [decide_eq_true h1, Bool.not_true, Bool.false_and]; decide)] at ih'
      exact ih'
    · rw [if_neg (show ¬ nI y = nI o from fun q => h1 (nIeq_lit q (by omega) (by omega)))]
      by_cases h3 : D 0 y = D 0 o
      · rw [if_pos h3]
        by_cases h4 : D 1 y = D 1 o
        · rw [if_pos h4]
          rw [if_pos (show coP D o y = true by unfold coP; rw [decide_eq_false h1, decide_eq_false h0, decide_eq_true h3, decide_eq_true h4]; rfl)] at ih'
          exact ih'
        · rw [if_neg h4]
          rw [if_neg (show ¬ coP D o y = true by unfold coP; rw [decide_eq_false h4, Bool.and_false, Bool.and_false, Bool.and_false]; decide)] at ih'
          exact ih'
      · rw [if_neg h3]
        rw [if_neg (show ¬ coP D o y = true by unfold coP; rw [decide_eq_false h3, Bool.false_and, Bool.and_false, Bool.and_false]; decide)] at ih'
        exact ih'
theorem orS_none {D : TB} {o : Nat} (h : D 0 o = -1) (z : Int32) : ∀ n, orS (coP D o) n z = z := by
  intro n
  induction n with
  | zero => rfl
  | succ n ih =>
    rw [orS, if_neg, ih]
    unfold coP
    rw [decide_eq_true h, Bool.not_true, Bool.false_and, Bool.and_false]
    decide
theorem couM {v o c dl : Nat} {G : Nat → TB} {τ : PS} (hv : v < 300) (hc : c ≤ 6) (ho : o < c) (hdl : dl < 60) (h6 : gi τ 132 44 = nI c) (h171 : gi τ 171 v = nI dl) (hR : ∀ d, d < 60 → ∀ y, y < c → gi τ 172 (60 * y + d) = G d 0 y ∧ gi τ 173 (60 * y + d) = G d 1 y) : ∀ (q m d : Nat) (z : Int32), d + q = dl + 1 → fX9_could_229 (m + q + 1) (nI v) (nI o) z (nI d) τ = some (dyS G o c d q z, τ) := by
  intro q
  induction q with
  | zero =>
    intro m d z hq
    rw [fX9_could_229, gd_t (inb_nI hv (by decide)), nI_clamp (by omega), h171, if_pos (nI_lt (by omega) (by omega))]
    rfl
  | succ q ih =>
    intro m d z hq
    rw [show m + (q + 1) + 1 = (m + q + 1) + 1 by omega, fX9_could_229, gd_t (inb_nI hv (by decide)), nI_clamp (show v < 2 ^ 31 by omega), h171, if_neg (nI_nlt (by omega) (by omega)), nI60, gd_t (inb_nI (show 60 * o + d < 360 by omega) (by decide)), nI_clamp (show 60 * o + d < 2 ^ 31 by omega), (hR d (by omega) o ho).1, dyS]
    by_cases h0 : G d 0 o = -1
    · rw [if_pos h0]
      unfold fX9_could_352
      rw [nI_1, ih m (d + 1) _ (by omega), orS_none h0]
    · rw [if_neg h0]
      obtain ⟨m2, hm2⟩ := FU_k (c + 1) (by omega)
      have e1 := couM263 (v := v) (r229 := fX9_could_229 (m + q + 1)) hc ho (show d < 60 by omega) h6 (hR d (by omega)) h0 z c m2 0 (by omega)
      have e2 : fX9_could_263 (fX9_could_229 (m + q + 1)) FU (nI v) (nI o) z (nI d) 0 τ = fX9_could_229 (m + q + 1) (nI v) (nI o) (orS (coP (G d) o) c z) (nI (d + 1)) τ := by
        rw [hm2]
        exact e1
      rw [e2, ih m (d + 1) _ (by omega)]
/-- the reference's last whole look, then K -/
theorem sinM {f x n v : Nat} {σ : PS} (hF : IF f σ) (hn : n ≤ f) (hv : v < n) : ∀ (q m j : Nat), j + q = n → fX9_could_98 (m + q + 1) (nI x) (nI n) (nI v) (lwS (whP σ x v) (gi σ 27) j) (nI j) σ = (fX9_goes (nI n) σ).bind (fun σ9 => gd (inb (nI x) 60) (gd (inb (nI v) 300) ((if lwS (whP σ x v) (gi σ 27) n = (gi σ9 171 (nI v).toNatClampNeg) then fX9_could_227 (nI v) (gi σ9 168 (nI x).toNatClampNeg) 0 (lwS (whP σ x v) (gi σ 27) n) σ9 else fX9_could_227 (nI v) (gi σ9 168 (nI x).toNatClampNeg) 0 (lwS (whP σ x v) (gi σ 27) n + 1) σ9)))) := by
  have hf := hF.1
  generalize hK : (fX9_goes (nI n) σ).bind (fun σ9 => gd (inb (nI x) 60) (gd (inb (nI v) 300) ((if lwS (whP σ x v) (gi σ 27) n = (gi σ9 171 (nI v).toNatClampNeg) then fX9_could_227 (nI v) (gi σ9 168 (nI x).toNatClampNeg) 0 (lwS (whP σ x v) (gi σ 27) n) σ9 else fX9_could_227 (nI v) (gi σ9 168 (nI x).toNatClampNeg) 0 (lwS (whP σ x v) (gi σ 27) n + 1) σ9)))) = K
  intro q
  induction q with
  | zero =>
    intro m j hq
    have : j = n := by omega
    subst this
    rw [fX9_could_98, if_pos (nI_le (Nat.le_refl _) (by omega))]
    exact hK
  | succ q ih =>
    intro m j hq
    have ih' := ih m (j + 1) (by omega)
    rw [lwS] at ih'
    rw [show m + (q + 1) + 1 = (m + q + 1) + 1 by omega, fX9_could_98, if_neg (nI_ge (by omega) (by omega))]
    unfold fX9_could_164 fX9_could_185
    simp only [gd_t (inb_nI (show j < 300 by omega) (show 300 < 2 ^ 31 by decide)), gd_t (inb_nI (show v < 300 by omega) (show 300 < 2 ^ 31 by decide))]
    rw [nI_clamp (show j < 2 ^ 31 by omega), nI_clamp (show v < 2 ^ 31 by omega), (hF.2.2.2.1 j (by omega)).1, (hF.2.2.2.1 v (by omega)).1, nI_1]
    have taken : whP σ x v j = true → (if gi σ 27 j ≤ lwS (whP σ x v) (gi σ 27) j then fX9_could_98 (m + q + 1) (nI x) (nI n) (nI v) (lwS (whP σ x v) (gi σ 27) j) (nI (j + 1)) σ else fX9_could_98 (m + q + 1) (nI x) (nI n) (nI v) (gi σ 27 j) (nI (j + 1)) σ) = fX9_could_98 (m + q + 1) (nI x) (nI n) (nI v) (if whP σ x v j = true then imax (lwS (whP σ x v) (gi σ 27) j) (gi σ 27 j) else lwS (whP σ x v) (gi σ 27) j) (nI (j + 1)) σ := by
      intro hw
      rw [if_pos hw]
      unfold imax
      by_cases hle : gi σ 27 j ≤ lwS (whP σ x v) (gi σ 27) j
      · rw [if_pos hle, if_neg (Int32.not_lt.mpr hle)]
      · rw [if_neg hle, if_pos (Int32.not_le.mp hle)]
    have left : whP σ x v j = false → fX9_could_98 (m + q + 1) (nI x) (nI n) (nI v) (lwS (whP σ x v) (gi σ 27) j) (nI (j + 1)) σ = fX9_could_98 (m + q + 1) (nI x) (nI n) (nI v) (if whP σ x v j = true then imax (lwS (whP σ x v) (gi σ 27) j) (gi σ 27 j) else lwS (whP σ x v) (gi σ 27) j) (nI (j + 1)) σ := by
      intro hw
      rw [if_neg (by rw [hw]; decide)]
    refine Eq.trans ?_ ih'
    by_cases h1 : gi σ 169 j = 2
    · rw [if_pos h1]
      by_cases h2 : gi σ 170 j = nI x
      · rw [if_pos h2]
        have hW : whP σ x v j = ahd (gi σ 27) v j := by unfold whP; rw [decide_eq_true h1, decide_eq_true h2]; rfl
        by_cases h3 : gi σ 27 j < gi σ 27 v
        · rw [if_pos h3]
          exact taken (by rw [hW]; unfold ahd; rw [decide_eq_true h3]; rfl)
        · rw [if_neg h3]
          by_cases h4 : gi σ 27 j = gi σ 27 v
          · rw [if_pos h4]
            by_cases h5 : v ≤ j
            · rw [if_pos (nI_le h5 (by omega))]
              exact left (by rw [hW]; unfold ahd; rw [decide_eq_false h3, decide_eq_false (show ¬ j < v by omega), Bool.and_false]; rfl)
            · rw [if_neg (nI_ge (by omega) (by omega))]
              exact taken (by rw [hW]; unfold ahd; rw [decide_eq_true h4, decide_eq_true (show j < v by omega), Bool.and_self, Bool.or_true])
          · rw [if_neg h4]
            exact left (by rw [hW]; unfold ahd; rw [decide_eq_false h3, decide_eq_false h4, Bool.false_and]; rfl)
      · rw [if_neg h2]
        exact left (by unfold whP; rw [decide_eq_false h2, Bool.and_false, Bool.false_and])
    · rw [if_neg h1]
      exact left (by unfold whP; rw [decide_eq_false h1, Bool.false_and, Bool.false_and])
theorem badM {f x n : Nat} {σ : PS} (hF : IF f σ) (hn : n ≤ f) : ∀ (q m j : Nat), j + q = n → fX9_could_27 (m + q + 1) (nI x) (nI n) (onI (brkS (brP σ x) (gi σ 27) j)) (nI j) σ = if onI (brkS (brP σ x) (gi σ 27) n) = -1 then some (-1, σ) else fX9_could_98 FU (nI x) (nI n) (onI (brkS (brP σ x) (gi σ 27) n)) (-1) 0 σ := by
  have hf := hF.1
  intro q
  induction q with
  | zero =>
    intro m j hq
    have : j = n := by omega
    subst this
    rw [fX9_could_27, if_pos (nI_le (Nat.le_refl _) (by omega))]
  | succ q ih =>
    intro m j hq
    have ih' := ih m (j + 1) (by omega)
    rw [brkS] at ih'
    rw [show m + (q + 1) + 1 = (m + q + 1) + 1 by omega, fX9_could_27, if_neg (nI_ge (by omega) (by omega))]
    unfold fX9_could_76 fX9_could_79
    simp only [gd_t (inb_nI (show j < 300 by omega) (show 300 < 2 ^ 31 by decide))]
    rw [nI_clamp (show j < 2 ^ 31 by omega), nI_1, (hF.2.2.2.1 j (by omega)).1]
    by_cases h1 : gi σ 169 j = 1
    · rw [if_pos h1]
      by_cases h2 : gi σ 170 j = nI x
      · rw [if_pos h2]
        have hP : brP σ x j = true := by unfold brP; rw [decide_eq_true h1, decide_eq_true h2]; rfl
        rw [if_pos hP] at ih'
        cases hb : brkS (brP σ x) (gi σ 27) j with
        | none =>
          rw [hb] at ih'
          rw [show onI none = -1 from rfl, if_pos (show (-1 : Int32) = -1 from rfl)]
          exact ih'
        | some v =>
          rw [hb] at ih'
          simp only at ih'
          have hv := (brk_lt hb).1
          rw [show onI (some v) = nI v from rfl, if_neg (show ¬ nI v = -1 from nI_m1 (by omega)), gd_t (inb_nI (show v < 300 by omega) (by decide)), nI_clamp (by omega), (hF.2.2.2.1 v (by omega)).1]
          by_cases hd : gi σ 27 v ≤ gi σ 27 j
          · rw [if_pos hd]
            rw [if_pos hd] at ih'
            exact ih'
          · rw [if_neg hd]
            rw [if_neg hd] at ih'
            exact ih'
      · rw [if_neg h2]
        rw [if_neg (show ¬ brP σ x j = true by unfold brP; rw [decide_eq_false h2, Bool.and_false]; decide)] at ih'
        exact ih'
    · rw [if_neg h1]
      rw [if_neg (show ¬ brP σ x j = true by unfold brP; rw [decide_eq_false h1, Bool.false_and]; decide)] at ih'
      exact ih'
theorem lw_nI {f n x v dl : Nat} {σ : PS} (hF : IF f σ) (hn : n ≤ f) (hv : gi σ 27 v = nI dl) (hdl : dl < 60) : ∀ j, j ≤ n → lwS (whP σ x v) (gi σ 27) j = -1 ∨ ∃ u, u ≤ dl ∧ lwS (whP σ x v) (gi σ 27) j = nI u := by
  intro j
  induction j with
  | zero => intro _; exact Or.inl rfl
  | succ j ih =>
    intro hj
    have ih := ih (by omega)
    rw [lwS]
    by_cases hW : whP σ x v j = true
    · rw [if_pos hW]
      right
      obtain ⟨u, hu, -, hu2⟩ := (hF.2.2.2.1 j (by omega)).2.1
      have hle : u ≤ dl := by
        unfold whP ahd at hW
        simp only [Bool.and_eq_true, Bool.or_eq_true, decide_eq_true_eq] at hW
        rw [hu, hv] at hW
        rcases hW.2 with q | q
        · have := (nI_ltI (by omega) (by omega)).mp q; omega
        · have := nIeq_lit q.1 (by omega) (by omega); omega
      unfold imax
      rcases ih with e | ⟨w, hw, e⟩
      · rw [e, hu]
        by_cases hq : (-1 : Int32) < nI u
        · rw [if_pos hq]; exact ⟨u, hle, rfl⟩
        · exfalso
          apply hq
          rw [Int32.lt_iff_toInt_lt, nI_toInt (by omega), show (-1 : Int32).toInt = -1 by decide]
          omega
      · rw [e, hu]
        by_cases hq : nI w < nI u
        · rw [if_pos hq]; exact ⟨u, hle, rfl⟩
        · rw [if_neg hq]; exact ⟨w, hw, rfl⟩
    · rw [if_neg hW]; exact ih
theorem op_could (x1 x2 : Int32) : OPS (fX8_could x1 x2) (fX9_could x1 x2) := by
  rintro σ ⟨n, a, c, b, f, s, l, h⟩
  have hI : Inv σ := h.inv
  obtain ⟨-, ⟨k1, k2⟩, ⟨k3, k4⟩, ⟨k7, k8⟩, ha8, hc6, hf3, hb6, hB⟩ := cnts h
  have hiff := le_pred (x := x1) (y := nI b) rfl (show b < 2 ^ 31 by omega)
  have hF := h.2.2.2.1
  unfold fX8_could
  rw [hasBale_eq, k7]
  simp only [Option.bind_some]
  rw [ite_tv]
  have Rf : ∀ τ, gi τ 132 52 = nI b → gi τ 132 54 = nI f → fX9_could x1 x2 τ = if 0 ≤ x1 ∧ x1 ≤ nI b - 1 then (if 0 ≤ x2 ∧ x2 ≤ nI f then fX9_could_27 FU x1 x2 (-1) 0 τ else some (-1, τ)) else some (-1, τ) := by
    intro τ e1 e2
    unfold fX9_could
    rw [e1, mKnown_eq, e2]
    simp only [Option.bind_some]
    rw [ite_tv]
    by_cases q : 0 ≤ x1 ∧ x1 ≤ nI b - 1
    · rw [if_pos q, if_neg (hiff.mp q).1, if_neg (hiff.mp q).2]
    · rw [if_neg q]
      by_cases q' : x1 < 0
      · rw [if_pos q']
      · rw [if_neg q', if_pos (Classical.byContradiction (fun z => q (hiff.mpr ⟨q', z⟩)))]
  by_cases q1 : 0 ≤ x1 ∧ x1 ≤ nI b - 1
  rotate_left
  · rw [if_neg q1]
    refine hO_pr rfl ?_
    rw [Rf σ k8 k4, if_neg q1]
    exact ⟨_, rfl, rfl, hI⟩
  rw [if_pos q1, isKnown_eq, k3]
  simp only [Option.bind_some]
  rw [ite_tv]
  by_cases q3 : 0 ≤ x2 ∧ x2 ≤ nI f
  rotate_left
  · rw [if_neg q3]
    refine hO_pr rfl ?_
    rw [Rf σ k8 k4, if_pos q1, if_neg q3]
    exact ⟨_, rfl, rfl, hI⟩
  rw [if_pos q3]
  obtain ⟨x, rfl, hx⟩ := (isN_lt (by omega)).mp q1
  obtain ⟨k, rfl, hk⟩ := toK hf3 q3
  rw [firstBroken_eq hF (by omega) hk]
  simp only [Option.bind_some]
  obtain ⟨m, hm⟩ := FU_k (k + 1) (by omega)
  have bad : ∀ τ, IF f τ → fX9_could_27 FU (nI x) (nI k) (-1) 0 τ = if onI (brkS (brP τ x) (gi τ 27) k) = -1 then some (-1, τ) else fX9_could_98 FU (nI x) (nI k) (onI (brkS (brP τ x) (gi τ 27) k)) (-1) 0 τ := by
    intro τ hFt
    have := badM (x := x) hFt hk k m 0 (by omega)
    have e : fX9_could_27 FU (nI x) (nI k) (-1) 0 τ = fX9_could_27 (m + k + 1) (nI x) (nI k) (onI (brkS (brP τ x) (gi τ 27) 0)) (nI 0) τ := by rw [hm]; rfl
    rw [e]
    exact this
  cases hb : brkS (brP σ x) (gi σ 27) k with
  | none =>
    rw [show onI none = -1 from rfl, if_pos rfl]
    refine hO_pr rfl ?_
    rw [Rf σ k8 k4, if_pos q1, if_pos q3, bad σ hF, hb, show onI none = -1 from rfl, if_pos (show (-1 : Int32) = -1 from rfl)]
    exact ⟨_, rfl, rfl, hI⟩
  | some v =>
    have hv := (brk_lt hb).1
    rw [show onI (some v) = nI v from rfl, if_neg (nI_m1 (by omega)), gd_t hB]
    refine wk_then h hk (fun τ hτ hCT hkF => ?_)
    obtain ⟨-, ⟨t1, t2⟩, ⟨-, t4⟩, ⟨-, t8⟩, -⟩ := cnts hτ
    have hFt := hτ.2.2.2.1
    have e27 : gi τ 27 = gi σ 27 := funext (fun j => hkF 27 j (by decide) (by decide) (by decide) (by decide) (by omega))
    have ebr : brP τ x = brP σ x := funext (fun j => by unfold brP; rw [hkF 169 j (by decide) (by decide) (by decide) (by decide) (by omega), hkF 170 j (by decide) (by decide) (by decide) (by decide) (by omega)])
    obtain ⟨dl, hdl, -, hdl2⟩ := (hFt.2.2.2.1 v (by omega)).2.1
    obtain ⟨o, ho, h24⟩ := hτ.2.2.1.2.2.1.2.2.2.2 x hx
    have hsus : fX0_firstSuspectDay (nI x) (nI k) (nI v) τ = some (if lwS (whP τ x v) (gi τ 27) k = gi τ 27 v then lwS (whP τ x v) (gi τ 27) k else lwS (whP τ x v) (gi τ 27) k + 1, τ) := by
      unfold fX0_firstSuspectDay
      rw [hm]
      exact susp_ok hFt (by omega) hk hv k m 0 (by omega)
    -- the first day
    obtain ⟨d0, hd0, hd0l⟩ : ∃ d0, (if lwS (whP τ x v) (gi τ 27) k = gi τ 27 v then lwS (whP τ x v) (gi τ 27) k else lwS (whP τ x v) (gi τ 27) k + 1) = nI d0 ∧ d0 ≤ dl := by
      rw [hdl]
      rcases lw_nI (x := x) hFt hk hdl (by omega) k (Nat.le_refl _) with e | ⟨u, hu, e⟩
      · rw [e, if_neg (fun q => nI_m1 (show dl < 2 ^ 31 by omega) q.symm)]
        exact ⟨0, by decide, Nat.zero_le _⟩
      · rw [e]
        by_cases hq : nI u = nI dl
        · rw [if_pos hq]
          exact ⟨u, rfl, hu⟩
        · rw [if_neg hq, nI_1]
          refine ⟨u + 1, rfl, ?_⟩
          have : u ≠ dl := fun z => hq (by rw [z])
          omega
    obtain ⟨m2, hm2⟩ := FU_k (dl + 1 - d0 + 1) (by omega)
    have e1 : fX8_could_79 FU (nI x) (nI dl) 0 (nI d0) τ = some (dyS (fun d => rodS (lnd τ) l (shX τ k) a c (d + 1)) o c d0 (dl + 1 - d0) 0, τ) := by
      rw [hm2]
      exact couC (G := fun d => rodS (lnd τ) l (shX τ k) a c (d + 1)) (by omega) hc6 ho (by omega) t1 h24 (fun d hd => (hCT d hd).1) (dl + 1 - d0) m2 d0 0 (by omega)
    rw [hd0] at hsus
    rw [gd_t (inb_nI (show v < 300 by omega) (by decide)), nI_clamp (show v < 2 ^ 31 by omega), hdl]
    refine hO.then (P := fun q => q = (nI d0, τ)) ⟨_, hsus, rfl⟩ ?_
    rintro _ rfl
    refine hO_pr e1 ?_
    have hsin := sinM (x := x) hFt hk hv k m 0 (by omega)
    have e98 : fX9_could_98 FU (nI x) (nI k) (nI v) (-1) 0 τ = fX9_could_98 (m + k + 1) (nI x) (nI k) (nI v) (lwS (whP τ x v) (gi τ 27) 0) (nI 0) τ := by rw [hm]; rfl
    rw [Rf τ t8 t4, if_pos q1, if_pos q3, bad τ hFt, ebr, e27, hb, show onI (some v) = nI v from rfl, if_neg (show ¬ nI v = -1 from nI_m1 (by omega)), e98, hsin]
    refine gs_then hτ hk (fun υ hυ hRT hgF => ?_)
    obtain ⟨-, ⟨-, u2⟩, -⟩ := cnts hυ
    have u171 : gi υ 171 v = nI dl := by rw [(hυ.2.2.2.1.2.2.2.1 v (by omega)).1, hgF 27 v (by decide) (by omega), hdl]
    have u168 : gi υ 168 x = nI o := by rw [hυ.2.2.1.2.2.1.2.2.2.1 x, hgF 24 x (by decide) (by omega), h24]
    rw [gd_t (inb_nI (show x < 60 by omega) (by decide)), gd_t (inb_nI (show v < 300 by omega) (by decide)), nI_clamp (show v < 2 ^ 31 by omega), nI_clamp (show x < 2 ^ 31 by omega), u171, u168]
    have e2 : fX9_could_229 FU (nI v) (nI o) 0 (nI d0) υ = some (dyS (fun d => rodS (lnd τ) l (shX τ k) a c (d + 1)) o c d0 (dl + 1 - d0) 0, υ) := by
      rw [hm2]
      exact couM (G := fun d => rodS (lnd τ) l (shX τ k) a c (d + 1)) (by omega) hc6 ho (by omega) u2 u171 (fun d hd y hy => ⟨((hRT d hd).1 y hy).1, ((hRT d hd).1 y hy).2.1⟩) (dl + 1 - d0) m2 d0 0 (by omega)
    unfold fX9_could_227
    rw [hdl] at hd0
    by_cases hq : lwS (whP τ x v) (gi τ 27) k = nI dl
    · rw [if_pos hq] at hd0 ⊢
      rw [hd0]
      exact ⟨_, e2, rfl, hυ.inv⟩
    · rw [if_neg hq] at hd0 ⊢
      rw [hd0]
      exact ⟨_, e2, rfl, hυ.inv⟩
