/-! comes, barred, tolls -/
def cmS (P : Nat → Bool) : Nat → Nat → Int32
  | _, 0 => -1
  | d, q + 1 => if P d = true then nI d else cmS P (d + 1) q
theorem cnts {n a c b f s : Nat} {l : List RU} {σ : PS} (h : IV n a c b f s l σ) : (gi σ 3 0 = nI a ∧ gi σ 132 38 = nI a) ∧ (gi σ 3 6 = nI c ∧ gi σ 132 44 = nI c) ∧ (gi σ 25 0 = nI f ∧ gi σ 132 54 = nI f) ∧ (gi σ 3 14 = nI b ∧ gi σ 132 52 = nI b) ∧ a ≤ 8 ∧ c ≤ 6 ∧ f ≤ 300 ∧ b ≤ 60 ∧ isBk (bkO σ) = true := ⟨⟨h.2.2.1.1.2.2.1, h.2.2.1.2.1.1.1.trans h.2.2.1.1.2.2.1⟩, ⟨h.2.2.1.1.2.2.2.1, h.2.2.1.2.1.1.2.trans h.2.2.1.1.2.2.2.1⟩, ⟨h.2.2.2.1.2.1, h.2.2.2.1.2.2.1⟩, ⟨h.2.2.1.2.2.1.2.1, h.2.2.1.2.2.1.2.2.1⟩, h.2.2.1.1.1, h.2.2.1.1.2.1, h.2.2.2.1.1, h.2.2.1.2.2.1.1, h.2.2.2.2.1.1⟩
theorem mcar {c : Nat} {σ : PS} (x : Int32) (h : gi σ 132 44 = nI c) (hc : c ≤ 6) : fX9_isCaravan x σ = some (tv (0 ≤ x ∧ x ≤ nI c - 1), σ) := by rw [mCar_eq x σ h (by omega), h]
theorem minn {a : Nat} {σ : PS} (x : Int32) (h : gi σ 132 38 = nI a) (ha : a ≤ 8) : fX9_isInn x σ = some (tv (0 ≤ x ∧ x ≤ nI a - 1), σ) := by rw [mInn_eq x σ h (by omega), h]
theorem toD {x : Int32} (q : 0 ≤ x ∧ x ≤ 59) : ∃ d, x = nI d ∧ d < 60 := by
  obtain ⟨d, e, -, hd⟩ := (isN_of (l := 0) (h := 59) (lo := 0) (hi := 59) rfl rfl (by decide) (by decide)).mp q
  exact ⟨d, e, by omega⟩
theorem toK {x : Int32} {f : Nat} (hf : f ≤ 300) (q : 0 ≤ x ∧ x ≤ nI f) : ∃ k, x = nI k ∧ k ≤ f := by
  obtain ⟨d, e, -, hd⟩ := (isN_of (l := 0) (lo := 0) (hi := f) rfl rfl (by decide) (by omega)).mp q
  exact ⟨d, e, hd⟩
theorem op_barred (x1 x2 x3 : Int32) : OPS (fX8_barred x1 x2 x3) (fX9_barred x1 x2 x3) := by
  rintro σ ⟨n, a, c, b, f, s, l, h⟩
  have hI : Inv σ := h.inv
  obtain ⟨-, ⟨k1, k2⟩, ⟨k3, k4⟩, -, ha8, hc6, hf3, hb6, hB⟩ := cnts h
  unfold fX8_barred
  rw [hasCaravan_eq, k1]
  simp only [Option.bind_some]
  rw [ite_tv]
  have R : ∀ τ, gi τ 132 44 = nI c → gi τ 132 54 = nI f → fX9_barred x1 x2 x3 τ = if 0 ≤ x1 ∧ x1 ≤ nI c - 1 then (if 0 ≤ x2 ∧ x2 ≤ 59 then (if 0 ≤ x3 ∧ x3 ≤ nI f then (fX9_goes x3 τ).bind (fun σ11 => gd (inb ((60 * x1) + x2) 360) (some ((gi σ11 178 (((60 * x1) + x2) : Int32).toNatClampNeg), σ11))) else some (-1, τ)) else some (-1, τ)) else some (-1, τ) := by
    intro τ e1 e2
    unfold fX9_barred
    rw [mcar x1 e1 hc6]
    simp only [Option.bind_some]
    rw [ite_tv, mDay_eq]
    simp only [Option.bind_some]
    rw [ite_tv, mKnown_eq, e2]
    simp only [Option.bind_some]
    rw [ite_tv]
  by_cases q1 : 0 ≤ x1 ∧ x1 ≤ nI c - 1
  rotate_left
  · rw [if_neg q1]
    refine hO_pr rfl ?_
    rw [R σ k2 k4, if_neg q1]
    exact ⟨_, rfl, rfl, hI⟩
  rw [if_pos q1, isDay_eq]
  simp only [Option.bind_some]
  rw [ite_tv]
  by_cases q2 : 0 ≤ x2 ∧ x2 ≤ 59
  rotate_left
  · rw [if_neg q2]
    refine hO_pr rfl ?_
    rw [R σ k2 k4, if_pos q1, if_neg q2]
    exact ⟨_, rfl, rfl, hI⟩
  rw [if_pos q2, isKnown_eq, k3]
  simp only [Option.bind_some]
  rw [ite_tv]
  by_cases q3 : 0 ≤ x3 ∧ x3 ≤ nI f
  rotate_left
  · rw [if_neg q3]
    refine hO_pr rfl ?_
    rw [R σ k2 k4, if_pos q1, if_pos q2, if_neg q3]
    exact ⟨_, rfl, rfl, hI⟩
  rw [if_pos q3, gd_t hB]
  obtain ⟨y, rfl, hy⟩ := (isN_lt (by omega)).mp q1
  obtain ⟨d, rfl, hd⟩ := toD q2
  obtain ⟨k, rfl, hk⟩ := toK hf3 q3
  refine wk_then h hk (fun τ hτ hCT hkF => ?_)
  obtain ⟨-, ⟨-, t2⟩, ⟨-, t4⟩, -⟩ := cnts hτ
  rw [gd_t (inb_nI (show y < 6 by omega) (by decide)), gd_t (inb_nI (show d < 60 by omega) (by decide)), r85 (by omega), nI_clamp (by omega), ((hCT d hd).1 y hy).2.2.2.2.2.2]
  refine hO_pr rfl ?_
  rw [R τ t2 t4, if_pos q1, if_pos q2, if_pos q3]
  refine gs_then hτ hk (fun υ hυ hRT hgF => ?_)
  rw [nI60, gd_t (inb_nI (show 60 * y + d < 360 by omega) (by decide)), nI_clamp (by omega), ((hRT d hd).1 y hy).2.2.2.2.2.2]
  exact ⟨_, rfl, rfl, hυ.inv⟩
theorem op_tolls (x1 x2 x3 : Int32) : OPS (fX8_tolls x1 x2 x3) (fX9_tolls x1 x2 x3) := by
  rintro σ ⟨n, a, c, b, f, s, l, h⟩
  have hI : Inv σ := h.inv
  obtain ⟨-, ⟨k1, k2⟩, ⟨k3, k4⟩, -, ha8, hc6, hf3, hb6, hB⟩ := cnts h
  unfold fX8_tolls
  rw [isLord_eq]
  simp only [Option.bind_some]
  rw [ite_tv]
  have R : ∀ τ, gi τ 132 54 = nI f → fX9_tolls x1 x2 x3 τ = if 0 ≤ x1 ∧ x1 ≤ 4 then (if 0 ≤ x2 ∧ x2 ≤ 59 then (if 0 ≤ x3 ∧ x3 ≤ nI f then (fX9_goes x3 τ).bind (fun σ8 => gd (inb ((60 * x1) + x2) 300) (some ((gi σ8 180 (((60 * x1) + x2) : Int32).toNatClampNeg), σ8))) else some (0, τ)) else some (0, τ)) else some (0, τ) := by
    intro τ e2
    unfold fX9_tolls
    by_cases q : 0 ≤ x1 ∧ x1 ≤ 4
    · rw [rng_pos q, if_pos q, mDay_eq]
      simp only [Option.bind_some]
      rw [ite_tv, mKnown_eq, e2]
      simp only [Option.bind_some]
      rw [ite_tv]
    · rw [rng_neg q, if_neg q]
  by_cases q1 : 0 ≤ x1 ∧ x1 ≤ 4
  rotate_left
  · rw [if_neg q1]
    refine hO_pr rfl ?_
    rw [R σ k4, if_neg q1]
    exact ⟨_, rfl, rfl, hI⟩
  rw [if_pos q1, isDay_eq]
  simp only [Option.bind_some]
  rw [ite_tv]
  by_cases q2 : 0 ≤ x2 ∧ x2 ≤ 59
  rotate_left
  · rw [if_neg q2]
    refine hO_pr rfl ?_
    rw [R σ k4, if_pos q1, if_neg q2]
    exact ⟨_, rfl, rfl, hI⟩
  rw [if_pos q2, isKnown_eq, k3]
  simp only [Option.bind_some]
  rw [ite_tv]
  by_cases q3 : 0 ≤ x3 ∧ x3 ≤ nI f
  rotate_left
  · rw [if_neg q3]
    refine hO_pr rfl ?_
    rw [R σ k4, if_pos q1, if_pos q2, if_neg q3]
    exact ⟨_, rfl, rfl, hI⟩
  rw [if_pos q3, gd_t hB]
  obtain ⟨y, rfl, -, hy⟩ := (isN_of (l := 0) (h := 4) (lo := 0) (hi := 4) rfl rfl (by decide) (by decide)).mp q1
  obtain ⟨d, rfl, hd⟩ := toD q2
  obtain ⟨k, rfl, hk⟩ := toK hf3 q3
  refine wk_then h hk (fun τ hτ hCT hkF => ?_)
  obtain ⟨-, ⟨-, t2⟩, ⟨-, t4⟩, -⟩ := cnts hτ
  rw [gd_t (inb_nI (show y < 5 by omega) (by decide)), gd_t (inb_nI (show d < 60 by omega) (by decide)), r101 (by omega), nI_clamp (by omega), (hCT d hd).2.1 y (by omega)]
  refine hO_pr rfl ?_
  rw [R τ t4, if_pos q1, if_pos q2, if_pos q3]
  refine gs_then hτ hk (fun υ hυ hRT hgF => ?_)
  rw [nI60, gd_t (inb_nI (show 60 * y + d < 300 by omega) (by decide)), nI_clamp (by omega), (hRT d hd).2.2 y (by omega)]
  exact ⟨_, rfl, rfl, hυ.inv⟩
theorem comesC {y : Nat} {P : Nat → Bool} {τ : PS} (hy : y < 6) (hP : ∀ d, d < 60 → (gi τ (44 + y) d = gi τ 21 y ↔ P d = true)) : ∀ (q m d : Nat), d + q = 60 → fX8_comes_38 (m + q + 1) (nI y) (nI d) τ = some (cmS P d q, τ) := by
  intro q
  induction q with
  | zero =>
    intro m d hq
    have : d = 60 := by omega
    subst this
    rw [fX8_comes_38, if_pos (show (60 : Int32) ≤ nI 60 by decide)]
    rfl
  | succ q ih =>
    intro m d hq
    rw [show m + (q + 1) + 1 = (m + q + 1) + 1 by omega, fX8_comes_38, if_neg (l_nle (k := 60) (by rfl) (by omega) (by decide)), gd_t (inb_nI hy (by decide)), gd_t (inb_nI (show d < 60 by omega) (by decide)), gd_t (inb_nI hy (by decide)), r43 (by omega), nI_clamp (show d < 2 ^ 31 by omega), nI_clamp (show y < 2 ^ 31 by omega), nI_1, ih m (d + 1) (by omega), cmS]
    by_cases h : P d = true
    · rw [if_pos ((hP d (by omega)).mpr h), if_pos h]
    · rw [if_neg (fun q => h ((hP d (by omega)).mp q)), if_neg h]
theorem comesM {y : Nat} {P : Nat → Bool} {τ : PS} (hy : y < 6) (hP : ∀ d, d < 60 → (gi τ 172 (60 * y + d) = gi τ 165 y ↔ P d = true)) : ∀ (q m d : Nat), d + q = 60 → fX9_comes_25 (m + q + 1) (nI y) (nI d) τ = some (cmS P d q, τ) := by
  intro q
  induction q with
  | zero =>
    intro m d hq
    have : d = 60 := by omega
    subst this
    rw [fX9_comes_25, if_pos (show (60 : Int32) ≤ nI 60 by decide)]
    rfl
  | succ q ih =>
    intro m d hq
    rw [show m + (q + 1) + 1 = (m + q + 1) + 1 by omega, fX9_comes_25, if_neg (l_nle (k := 60) (by rfl) (by omega) (by decide)), nI60, gd_t (inb_nI (show 60 * y + d < 360 by omega) (by decide)), gd_t (inb_nI hy (by decide)), nI_clamp (show 60 * y + d < 2 ^ 31 by omega), nI_clamp (show y < 2 ^ 31 by omega), nI_1, ih m (d + 1) (by omega), cmS]
    by_cases h : P d = true
    · rw [if_pos ((hP d (by omega)).mpr h), if_pos h]
    · rw [if_neg (fun q => h ((hP d (by omega)).mp q)), if_neg h]
theorem op_comes (x1 x2 : Int32) : OPS (fX8_comes x1 x2) (fX9_comes x1 x2) := by
  rintro σ ⟨n, a, c, b, f, s, l, h⟩
  have hI : Inv σ := h.inv
  obtain ⟨-, ⟨k1, k2⟩, ⟨k3, k4⟩, -, ha8, hc6, hf3, hb6, hB⟩ := cnts h
  unfold fX8_comes
  rw [hasCaravan_eq, k1]
  simp only [Option.bind_some]
  rw [ite_tv]
  have R : ∀ τ, gi τ 132 44 = nI c → gi τ 132 54 = nI f → fX9_comes x1 x2 τ = if 0 ≤ x1 ∧ x1 ≤ nI c - 1 then (if 0 ≤ x2 ∧ x2 ≤ nI f then (fX9_goes x2 τ).bind (fun σ8 => fX9_comes_25 FU x1 0 σ8) else some (-1, τ)) else some (-1, τ) := by
    intro τ e1 e2
    unfold fX9_comes
    rw [mcar x1 e1 hc6]
    simp only [Option.bind_some]
    rw [ite_tv, mKnown_eq, e2]
    simp only [Option.bind_some]
    rw [ite_tv]
  by_cases q1 : 0 ≤ x1 ∧ x1 ≤ nI c - 1
  rotate_left
  · rw [if_neg q1]
    refine hO_pr rfl ?_
    rw [R σ k2 k4, if_neg q1]
    exact ⟨_, rfl, rfl, hI⟩
  rw [if_pos q1, isKnown_eq, k3]
  simp only [Option.bind_some]
  rw [ite_tv]
  by_cases q3 : 0 ≤ x2 ∧ x2 ≤ nI f
  rotate_left
  · rw [if_neg q3]
    refine hO_pr rfl ?_
    rw [R σ k2 k4, if_pos q1, if_neg q3]
    exact ⟨_, rfl, rfl, hI⟩
  rw [if_pos q3, gd_t hB]
  obtain ⟨y, rfl, hy⟩ := (isN_lt (by omega)).mp q1
  obtain ⟨k, rfl, hk⟩ := toK hf3 q3
  refine wk_then h hk (fun τ hτ hCT hkF => ?_)
  obtain ⟨-, ⟨-, t2⟩, ⟨-, t4⟩, -⟩ := cnts hτ
  obtain ⟨m, hm⟩ := FU_k 61 (by decide)
  have e1 : fX8_comes_38 FU (nI y) 0 τ = some (cmS (fun d => decide (rodS (lnd τ) l (shX τ k) a c (d + 1) 0 y = gi τ 21 y)) 0 60, τ) := by
    rw [hm]
    refine comesC (by omega) (fun d hd => ?_) 60 m 0 (by omega)
    rw [((hCT d hd).1 y hy).1, decide_eq_true_eq]
  refine hO_pr e1 ?_
  rw [R τ t2 t4, if_pos q1, if_pos q3]
  refine gs_then hτ hk (fun υ hυ hRT hgF => ?_)
  have e2 : fX9_comes_25 FU (nI y) 0 υ = some (cmS (fun d => decide (rodS (lnd τ) l (shX τ k) a c (d + 1) 0 y = gi τ 21 y)) 0 60, υ) := by
    rw [hm]
    refine comesM (by omega) (fun d hd => ?_) 60 m 0 (by omega)
    rw [((hRT d hd).1 y hy).1, decide_eq_true_eq, (hυ.2.2.1.2.1.2.1 y).2.2.2.2.2.2.2.2.1, hgF 21 y (by decide) (by omega)]
  exact ⟨_, e2, rfl, hυ.inv⟩
