def SX9_put : List (Nat × Nat) := [(132, 133)]
theorem frX9_put_3 : ∀ (n : Nat) (x1 : Int32) (x2 : Int32) (σ : PS) (r : PS), fX9_put_3 n x1 x2 σ = some r → FRM SX9_put σ r := by
  intro n
  induction n with
  | zero =>
    intro x1 x2 σ r h
    rw [fX9_put_3] at h
    cases h
  | succ n ih =>
    intro x1 x2 σ r h
    rw [fX9_put_3] at h
    rcases ite_some h with ⟨hc, h⟩ | ⟨hc, h⟩
    · cases h
      exact FRM.rf
    · obtain ⟨hi1, h⟩ := gd_some h
      exact FRM.tr (FRM.i (FRM.i FRM.rf (by decide)) (by decide)) (ih x1 (x2 + (-8)) (sI (sI σ 133 ((gi σ 132 2) : Int32).toNatClampNeg (vp_nar .byte ((x1 >>> (x2 &&& 31)) : Int32).toInt8.toInt32)) 132 2 ((gi (sI σ 133 ((gi σ 132 2) : Int32).toNatClampNeg (vp_nar .byte ((x1 >>> (x2 &&& 31)) : Int32).toInt8.toInt32)) 132 2) + 1)) _ h)
theorem frX9_put (a1 : Int32) (σ : PS) (r : PS) (h : fX9_put a1 σ = some r) : FRM SX9_put σ r := by
  unfold fX9_put at h
  exact FRM.tr FRM.rf (frX9_put_3 FU a1 24 σ _ h)

def SX9_feed : List (Nat × Nat) := [(132, 133)]
theorem frX9_feed (a1 : Int32) (a2 : Int32) (a3 : Int32) (a4 : Int32) (a5 : Int32) (σ : PS) (r : Int32 × PS) (h : fX9_feed a1 a2 a3 a4 a5 σ = some r) : FRM SX9_feed σ r.2 := by
  unfold fX9_feed at h
  rcases ite_some h with ⟨hc, h⟩ | ⟨hc, h⟩
  · obtain ⟨q1, e2, h⟩ := bind_some h
    try dsimp only at h
    have g3 := frX9_put _ _ _ e2
    obtain ⟨q4, e5, h⟩ := bind_some h
    try dsimp only at h
    have g6 := frX9_put _ _ _ e5
    obtain ⟨q7, e8, h⟩ := bind_some h
    try dsimp only at h
    have g9 := frX9_put _ _ _ e8
    obtain ⟨q10, e11, h⟩ := bind_some h
    try dsimp only at h
    have g12 := frX9_put _ _ _ e11
    obtain ⟨q13, e14, h⟩ := bind_some h
    try dsimp only at h
    have g15 := frX9_put _ _ _ e14
    cases h
    exact (FRM.tr (FRM.tr (FRM.tr (FRM.tr (FRM.tr FRM.rf (FRM.mono g3 (by decide))) (FRM.mono g6 (by decide))) (FRM.mono g9 (by decide))) (FRM.mono g12 (by decide))) (FRM.mono g15 (by decide)))
  · cases h
    exact FRM.rf

def SX9_back : List (Nat × Nat) := [(132, 132)]
theorem frX9_back (a1 : Int32) (σ : PS) (r : Int32 × PS) (h : fX9_back a1 σ = some r) : FRM SX9_back σ r.2 := by
  unfold fX9_back at h
  rcases ite_some h with ⟨hc, h⟩ | ⟨hc, h⟩
  · cases h
    exact FRM.rf
  · rcases ite_some h with ⟨hc, h⟩ | ⟨hc, h⟩
    · cases h
      exact (FRM.i FRM.rf (by decide))
    · cases h
      exact FRM.rf

def SX9_at : List (Nat × Nat) := []
theorem frX9_at (a1 : Int32) (σ : PS) (r : Int32 × PS) (h : fX9_at a1 σ = some r) : FRM SX9_at σ r.2 := by
  unfold fX9_at at h
  rcases ite_some h with ⟨hc, h⟩ | ⟨hc, h⟩
  · cases h
    exact FRM.rf
  · obtain ⟨hi1, h⟩ := gd_some h
    cases h
    exact FRM.rf

def SX9_isDigit : List (Nat × Nat) := []
theorem frX9_isDigit (a0 : Int32) (σ : PS) (r : Int32 × PS) (h : fX9_isDigit a0 σ = some r) : FRM SX9_isDigit σ r.2 := by
  unfold fX9_isDigit at h
  rcases ite_some h with ⟨hc, h⟩ | ⟨hc, h⟩
  · cases h
    exact FRM.rf
  · rcases ite_some h with ⟨hc, h⟩ | ⟨hc, h⟩
    · cases h
      exact FRM.rf
    · cases h
      exact FRM.rf

def SX9_isLetter : List (Nat × Nat) := []
theorem frX9_isLetter (a0 : Int32) (σ : PS) (r : Int32 × PS) (h : fX9_isLetter a0 σ = some r) : FRM SX9_isLetter σ r.2 := by
  unfold fX9_isLetter at h
  rcases ite_some h with ⟨hc, h⟩ | ⟨hc, h⟩
  · cases h
    exact FRM.rf
  · rcases ite_some h with ⟨hc, h⟩ | ⟨hc, h⟩
    · cases h
      exact FRM.rf
    · cases h
      exact FRM.rf

def SX9_more : List (Nat × Nat) := []
theorem frX9_more (a0 : Int64) (a2 : Int32) (σ : PS) (r : Int64 × PS) (h : fX9_more a0 a2 σ = some r) : FRM SX9_more σ r.2 := by
  unfold fX9_more at h
  rcases ite_some h with ⟨hc, h⟩ | ⟨hc, h⟩
  · cases h
    exact FRM.rf
  · cases h
    exact FRM.rf

def SX9_token : List (Nat × Nat) := [(132, 132), (135, 138)]
theorem frX9_token (a1 : Int32) (a2 : Int32) (a3 : Int32) (a4 : Int64) (σ : PS) (r : PS) (h : fX9_token a1 a2 a3 a4 σ = some r) : FRM SX9_token σ r := by
  unfold fX9_token at h
  obtain ⟨hi1, h⟩ := gd_some h
  obtain ⟨hi2, h⟩ := gd_some h
  obtain ⟨hi3, h⟩ := gd_some h
  obtain ⟨hi4, h⟩ := gd_some h
  cases h
  exact (FRM.i (FRM.j (FRM.i (FRM.i (FRM.i FRM.rf (by decide)) (by decide)) (by decide)) (by decide)) (by decide))

def SX9_sign : List (Nat × Nat) := [(132, 132), (135, 138)]
theorem frX9_sign_148 (x1 : Int32) (x4 : Int32) (x5 : Int32) (σ : PS) (r : Int32 × PS) (h : fX9_sign_148 x1 x4 x5 σ = some r) : FRM SX9_sign σ r.2 := by
  unfold fX9_sign_148 at h
  obtain ⟨q1, e2, h⟩ := bind_some h
  try dsimp only at h
  have g3 := frX9_token _ _ _ _ _ _ e2
  rcases ite_some h with ⟨hc, h⟩ | ⟨hc, h⟩
  · cases h
    exact (FRM.tr FRM.rf (FRM.mono g3 (by decide)))
  · cases h
    exact (FRM.tr FRM.rf (FRM.mono g3 (by decide)))
theorem frX9_sign_44 (x1 : Int32) (x2 : Int32) (s0 : Int32) (σ : PS) (r : Int32 × PS) (h : fX9_sign_44 x1 x2 s0 σ = some r) : FRM SX9_sign σ r.2 := by
  unfold fX9_sign_44 at h
  rcases ite_some h with ⟨hc, h⟩ | ⟨hc, h⟩
  · rcases ite_some h with ⟨hc, h⟩ | ⟨hc, h⟩
    · exact FRM.tr FRM.rf (frX9_sign_148 x1 s0 4 σ _ h)
    · rcases ite_some h with ⟨hc, h⟩ | ⟨hc, h⟩
      · exact FRM.tr FRM.rf (frX9_sign_148 x1 s0 6 σ _ h)
      · rcases ite_some h with ⟨hc, h⟩ | ⟨hc, h⟩
        · exact FRM.tr FRM.rf (frX9_sign_148 x1 s0 7 σ _ h)
        · rcases ite_some h with ⟨hc, h⟩ | ⟨hc, h⟩
          · exact FRM.tr FRM.rf (frX9_sign_148 x1 s0 8 σ _ h)
          · rcases ite_some h with ⟨hc, h⟩ | ⟨hc, h⟩
            · exact FRM.tr FRM.rf (frX9_sign_148 x1 s0 9 σ _ h)
            · rcases ite_some h with ⟨hc, h⟩ | ⟨hc, h⟩
              · exact FRM.tr FRM.rf (frX9_sign_148 x1 s0 10 σ _ h)
              · rcases ite_some h with ⟨hc, h⟩ | ⟨hc, h⟩
                · exact FRM.tr FRM.rf (frX9_sign_148 x1 s0 13 σ _ h)
                · exact FRM.tr FRM.rf (frX9_sign_148 x1 s0 3 σ _ h)
  · exact FRM.tr FRM.rf (frX9_sign_148 x1 s0 s0 σ _ h)
theorem frX9_sign (a1 : Int32) (a2 : Int32) (a3 : Int32) (σ : PS) (r : Int32 × PS) (h : fX9_sign a1 a2 a3 σ = some r) : FRM SX9_sign σ r.2 := by
  unfold fX9_sign at h
  rcases ite_some h with ⟨hc, h⟩ | ⟨hc, h⟩
  · rcases ite_some h with ⟨hc, h⟩ | ⟨hc, h⟩
    · exact FRM.tr FRM.rf (frX9_sign_44 a1 a2 11 σ _ h)
    · rcases ite_some h with ⟨hc, h⟩ | ⟨hc, h⟩
      · exact FRM.tr FRM.rf (frX9_sign_44 a1 a2 12 σ _ h)
      · rcases ite_some h with ⟨hc, h⟩ | ⟨hc, h⟩
        · exact FRM.tr FRM.rf (frX9_sign_44 a1 a2 14 σ _ h)
        · exact FRM.tr FRM.rf (frX9_sign_44 a1 a2 0 σ _ h)
  · exact FRM.tr FRM.rf (frX9_sign_44 a1 a2 0 σ _ h)

def SX9_cut : List (Nat × Nat) := [(132, 132), (135, 138)]
theorem frX9_cut_291 {r7 : Int32 → PS → Option (PS)} (hr_7 : ∀ (x1 : Int32) (σ : PS) (r : PS), r7 x1 σ = some r → FRM SX9_cut σ r) (x1 : Int32) (σ : PS) (r : PS) (h : fX9_cut_291 r7 x1 σ = some r) : FRM SX9_cut σ r := by
  unfold fX9_cut_291 at h
  exact FRM.tr FRM.rf (hr_7 x1 σ _ h)
theorem frX9_cut_67 {r7 : Int32 → PS → Option (PS)} (hr_7 : ∀ (x1 : Int32) (σ : PS) (r : PS), r7 x1 σ = some r → FRM SX9_cut σ r) (x1 : Int32) (σ : PS) (r : PS) (h : fX9_cut_67 r7 x1 σ = some r) : FRM SX9_cut σ r := by
  unfold fX9_cut_67 at h
  exact FRM.tr FRM.rf (frX9_cut_291 hr_7 (x1 + 1) σ _ h)
theorem frX9_cut_261 {r7 : Int32 → PS → Option (PS)} (hr_7 : ∀ (x1 : Int32) (σ : PS) (r : PS), r7 x1 σ = some r → FRM SX9_cut σ r) (x1 : Int32) (x3 : Int32) (x4 : Int32) (s1 : Int32) (σ : PS) (r : PS) (h : fX9_cut_261 r7 x1 x3 x4 s1 σ = some r) : FRM SX9_cut σ r := by
  unfold fX9_cut_261 at h
  obtain ⟨q40, e41, h⟩ := bind_some h
  try dsimp only at h
  have g42 := frX9_token _ _ _ _ _ _ e41
  exact FRM.tr (FRM.tr FRM.rf (FRM.mono g42 (by decide))) (frX9_cut_291 hr_7 (x1 + x3) q40 _ h)
theorem frX9_cut_244 {r7 : Int32 → PS → Option (PS)} (hr_7 : ∀ (x1 : Int32) (σ : PS) (r : PS), r7 x1 σ = some r → FRM SX9_cut σ r) {r208 : Int32 → Int32 → Int32 → PS → Option (PS)} (hr_208 : ∀ (x1 : Int32) (x3 : Int32) (x4 : Int32) (σ : PS) (r : PS), r208 x1 x3 x4 σ = some r → FRM SX9_cut σ r) (x1 : Int32) (x3 : Int32) (x4 : Int32) (σ : PS) (r : PS) (h : fX9_cut_244 r7 r208 x1 x3 x4 σ = some r) : FRM SX9_cut σ r := by
  unfold fX9_cut_244 at h
  exact FRM.tr FRM.rf (hr_208 x1 (x3 + 1) x4 σ _ h)
theorem frX9_cut_208 {r7 : Int32 → PS → Option (PS)} (hr_7 : ∀ (x1 : Int32) (σ : PS) (r : PS), r7 x1 σ = some r → FRM SX9_cut σ r) : ∀ (n : Nat) (x1 : Int32) (x3 : Int32) (x4 : Int32) (σ : PS) (r : PS), fX9_cut_208 r7 n x1 x3 x4 σ = some r → FRM SX9_cut σ r := by
  intro n
  induction n with
  | zero =>
    intro x1 x3 x4 σ r h
    rw [fX9_cut_208] at h
    cases h
  | succ n ih =>
    intro x1 x3 x4 σ r h
    rw [fX9_cut_208] at h
    obtain ⟨q31, e32, h⟩ := bind_some h
    try dsimp only at h
    have g33 := frX9_at _ _ _ e32
    obtain ⟨q34, e35, h⟩ := bind_some h
    try dsimp only at h
    have g36 := frX9_isDigit _ _ _ e35
    rcases ite_some h with ⟨hc, h⟩ | ⟨hc, h⟩
    · rcases ite_some h with ⟨hc, h⟩ | ⟨hc, h⟩
      · exact FRM.tr (FRM.tr (FRM.tr FRM.rf (FRM.mono g33 (by decide))) (FRM.mono g36 (by decide))) (frX9_cut_261 hr_7 x1 x3 x4 2 q34.2 _ h)
      · exact FRM.tr (FRM.tr (FRM.tr FRM.rf (FRM.mono g33 (by decide))) (FRM.mono g36 (by decide))) (frX9_cut_261 hr_7 x1 x3 x4 3 q34.2 _ h)
    · rcases ite_some h with ⟨hc, h⟩ | ⟨hc, h⟩
      · exact FRM.tr (FRM.tr (FRM.tr FRM.rf (FRM.mono g33 (by decide))) (FRM.mono g36 (by decide))) (frX9_cut_244 hr_7 ih x1 x3 x4 q34.2 _ h)
      · obtain ⟨q37, e38, h⟩ := bind_some h
        try dsimp only at h
        have g39 := frX9_at _ _ _ e38
        exact FRM.tr (FRM.tr (FRM.tr (FRM.tr FRM.rf (FRM.mono g33 (by decide))) (FRM.mono g36 (by decide))) (FRM.mono g39 (by decide))) (frX9_cut_244 hr_7 ih x1 x3 (((10 * x4) + q37.1) - 48) q37.2 _ h)
theorem frX9_cut_179 {r7 : Int32 → PS → Option (PS)} (hr_7 : ∀ (x1 : Int32) (σ : PS) (r : PS), r7 x1 σ = some r → FRM SX9_cut σ r) (x1 : Int32) (x3 : Int32) (x4 : Int64) (x6 : Int32) (σ : PS) (r : PS) (h : fX9_cut_179 r7 x1 x3 x4 x6 σ = some r) : FRM SX9_cut σ r := by
  unfold fX9_cut_179 at h
  obtain ⟨q44, e45, h⟩ := bind_some h
  try dsimp only at h
  have g46 := frX9_token _ _ _ _ _ _ e45
  exact FRM.tr (FRM.tr FRM.rf (FRM.mono g46 (by decide))) (frX9_cut_291 hr_7 (x1 + x3) q44 _ h)
theorem frX9_cut_173 {r7 : Int32 → PS → Option (PS)} (hr_7 : ∀ (x1 : Int32) (σ : PS) (r : PS), r7 x1 σ = some r → FRM SX9_cut σ r) {r146 : Int32 → Int32 → Int64 → Int32 → Int32 → PS → Option (PS)} (hr_146 : ∀ (x1 : Int32) (x3 : Int32) (x4 : Int64) (x6 : Int32) (x7 : Int32) (σ : PS) (r : PS), r146 x1 x3 x4 x6 x7 σ = some r → FRM SX9_cut σ r) (x1 : Int32) (x3 : Int32) (x4 : Int64) (x6 : Int32) (x7 : Int32) (σ : PS) (r : PS) (h : fX9_cut_173 r7 r146 x1 x3 x4 x6 x7 σ = some r) : FRM SX9_cut σ r := by
  unfold fX9_cut_173 at h
  exact FRM.tr FRM.rf (hr_146 x1 x3 x4 x6 (x7 + 1) σ _ h)
theorem frX9_cut_146 {r7 : Int32 → PS → Option (PS)} (hr_7 : ∀ (x1 : Int32) (σ : PS) (r : PS), r7 x1 σ = some r → FRM SX9_cut σ r) : ∀ (n : Nat) (x1 : Int32) (x3 : Int32) (x4 : Int64) (x6 : Int32) (x7 : Int32) (σ : PS) (r : PS), fX9_cut_146 r7 n x1 x3 x4 x6 x7 σ = some r → FRM SX9_cut σ r := by
  intro n
  induction n with
  | zero =>
    intro x1 x3 x4 x6 x7 σ r h
    rw [fX9_cut_146] at h
    cases h
  | succ n ih =>
    intro x1 x3 x4 x6 x7 σ r h
    rw [fX9_cut_146] at h
    rcases ite_some h with ⟨hc, h⟩ | ⟨hc, h⟩
    · exact FRM.tr FRM.rf (frX9_cut_179 hr_7 x1 x3 x4 x6 σ _ h)
    · obtain ⟨hi43, h⟩ := gd_some h
      rcases ite_some h with ⟨hc, h⟩ | ⟨hc, h⟩
      · exact FRM.tr FRM.rf (frX9_cut_173 hr_7 ih x1 x3 x4 (20 + x7) x7 σ _ h)
      · exact FRM.tr FRM.rf (frX9_cut_173 hr_7 ih x1 x3 x4 x6 x7 σ _ h)
theorem frX9_cut_135 {r7 : Int32 → PS → Option (PS)} (hr_7 : ∀ (x1 : Int32) (σ : PS) (r : PS), r7 x1 σ = some r → FRM SX9_cut σ r) (x1 : Int32) (x3 : Int32) (x4 : Int64) (s0 : Int32) (σ : PS) (r : PS) (h : fX9_cut_135 r7 x1 x3 x4 s0 σ = some r) : FRM SX9_cut σ r := by
  unfold fX9_cut_135 at h
  rcases ite_some h with ⟨hc, h⟩ | ⟨hc, h⟩
  · exact FRM.tr FRM.rf (frX9_cut_179 hr_7 x1 x3 x4 s0 σ _ h)
  · exact FRM.tr FRM.rf (frX9_cut_146 hr_7 FU x1 x3 x4 s0 0 σ _ h)
theorem frX9_cut_118 {r7 : Int32 → PS → Option (PS)} (hr_7 : ∀ (x1 : Int32) (σ : PS) (r : PS), r7 x1 σ = some r → FRM SX9_cut σ r) {r85 : Int32 → Int32 → Int64 → PS → Option (PS)} (hr_85 : ∀ (x1 : Int32) (x3 : Int32) (x4 : Int64) (σ : PS) (r : PS), r85 x1 x3 x4 σ = some r → FRM SX9_cut σ r) (x1 : Int32) (x3 : Int32) (x4 : Int64) (σ : PS) (r : PS) (h : fX9_cut_118 r7 r85 x1 x3 x4 σ = some r) : FRM SX9_cut σ r := by
  unfold fX9_cut_118 at h
  exact FRM.tr FRM.rf (hr_85 x1 (x3 + 1) x4 σ _ h)
theorem frX9_cut_85 {r7 : Int32 → PS → Option (PS)} (hr_7 : ∀ (x1 : Int32) (σ : PS) (r : PS), r7 x1 σ = some r → FRM SX9_cut σ r) : ∀ (n : Nat) (x1 : Int32) (x3 : Int32) (x4 : Int64) (σ : PS) (r : PS), fX9_cut_85 r7 n x1 x3 x4 σ = some r → FRM SX9_cut σ r := by
  intro n
  induction n with
  | zero =>
    intro x1 x3 x4 σ r h
    rw [fX9_cut_85] at h
    cases h
  | succ n ih =>
    intro x1 x3 x4 σ r h
    rw [fX9_cut_85] at h
    obtain ⟨q19, e20, h⟩ := bind_some h
    try dsimp only at h
    have g21 := frX9_at _ _ _ e20
    obtain ⟨q22, e23, h⟩ := bind_some h
    try dsimp only at h
    have g24 := frX9_isLetter _ _ _ e23
    rcases ite_some h with ⟨hc, h⟩ | ⟨hc, h⟩
    · rcases ite_some h with ⟨hc, h⟩ | ⟨hc, h⟩
      · exact FRM.tr (FRM.tr (FRM.tr FRM.rf (FRM.mono g21 (by decide))) (FRM.mono g24 (by decide))) (frX9_cut_135 hr_7 x1 x3 x4 1 q22.2 _ h)
      · exact FRM.tr (FRM.tr (FRM.tr FRM.rf (FRM.mono g21 (by decide))) (FRM.mono g24 (by decide))) (frX9_cut_135 hr_7 x1 x3 x4 3 q22.2 _ h)
    · rcases ite_some h with ⟨hc, h⟩ | ⟨hc, h⟩
      · exact FRM.tr (FRM.tr (FRM.tr FRM.rf (FRM.mono g21 (by decide))) (FRM.mono g24 (by decide))) (frX9_cut_118 hr_7 ih x1 x3 x4 q22.2 _ h)
      · obtain ⟨q25, e26, h⟩ := bind_some h
        try dsimp only at h
        have g27 := frX9_at _ _ _ e26
        obtain ⟨q28, e29, h⟩ := bind_some h
        try dsimp only at h
        have g30 := frX9_more _ _ _ _ e29
        exact FRM.tr (FRM.tr (FRM.tr (FRM.tr (FRM.tr FRM.rf (FRM.mono g21 (by decide))) (FRM.mono g24 (by decide))) (FRM.mono g27 (by decide))) (FRM.mono g30 (by decide))) (frX9_cut_118 hr_7 ih x1 x3 q28.1 q28.2 _ h)
theorem frX9_cut_7 : ∀ (n : Nat) (x1 : Int32) (σ : PS) (r : PS), fX9_cut_7 n x1 σ = some r → FRM SX9_cut σ r := by
  intro n
  induction n with
  | zero =>
    intro x1 σ r h
    rw [fX9_cut_7] at h
    cases h
  | succ n ih =>
    intro x1 σ r h
    rw [fX9_cut_7] at h
    rcases ite_some h with ⟨hc, h⟩ | ⟨hc, h⟩
    · cases h
      exact FRM.rf
    · obtain ⟨q1, e2, h⟩ := bind_some h
      try dsimp only at h
      have g3 := frX9_at _ _ _ e2
      rcases ite_some h with ⟨hc, h⟩ | ⟨hc, h⟩
      · rcases ite_some h with ⟨hc, h⟩ | ⟨hc, h⟩
        · exact FRM.tr (FRM.tr FRM.rf (FRM.mono g3 (by decide))) (frX9_cut_67 ih x1 q1.2 _ h)
        · rcases ite_some h with ⟨hc, h⟩ | ⟨hc, h⟩
          · exact FRM.tr (FRM.tr FRM.rf (FRM.mono g3 (by decide))) (frX9_cut_67 ih x1 q1.2 _ h)
          · rcases ite_some h with ⟨hc, h⟩ | ⟨hc, h⟩
            · exact FRM.tr (FRM.tr FRM.rf (FRM.mono g3 (by decide))) (frX9_cut_67 ih x1 q1.2 _ h)
            · rcases ite_some h with ⟨hc, h⟩ | ⟨hc, h⟩
              · exact FRM.tr (FRM.tr FRM.rf (FRM.mono g3 (by decide))) (frX9_cut_67 ih x1 q1.2 _ h)
              · obtain ⟨q4, e5, h⟩ := bind_some h
                try dsimp only at h
                have g6 := frX9_isLetter _ _ _ e5
                rcases ite_some h with ⟨hc, h⟩ | ⟨hc, h⟩
                · obtain ⟨q7, e8, h⟩ := bind_some h
                  try dsimp only at h
                  have g9 := frX9_isDigit _ _ _ e8
                  rcases ite_some h with ⟨hc, h⟩ | ⟨hc, h⟩
                  · obtain ⟨q10, e11, h⟩ := bind_some h
                    try dsimp only at h
                    have g12 := frX9_at _ _ _ e11
                    obtain ⟨q13, e14, h⟩ := bind_some h
                    try dsimp only at h
                    have g15 := frX9_sign _ _ _ _ _ e14
                    exact FRM.tr (FRM.tr (FRM.tr (FRM.tr (FRM.tr (FRM.tr FRM.rf (FRM.mono g3 (by decide))) (FRM.mono g6 (by decide))) (FRM.mono g9 (by decide))) (FRM.mono g12 (by decide))) (FRM.mono g15 (by decide))) (frX9_cut_291 ih (x1 + q13.1) q13.2 _ h)
                  · exact FRM.tr (FRM.tr (FRM.tr (FRM.tr FRM.rf (FRM.mono g3 (by decide))) (FRM.mono g6 (by decide))) (FRM.mono g9 (by decide))) (frX9_cut_208 ih FU x1 0 0 q7.2 _ h)
                · exact FRM.tr (FRM.tr (FRM.tr FRM.rf (FRM.mono g3 (by decide))) (FRM.mono g6 (by decide))) (frX9_cut_85 ih FU x1 0 0 q4.2 _ h)
      · obtain ⟨q16, e17, h⟩ := bind_some h
        try dsimp only at h
        have g18 := frX9_token _ _ _ _ _ _ e17
        cases h
        exact (FRM.tr (FRM.tr FRM.rf (FRM.mono g3 (by decide))) (FRM.mono g18 (by decide)))
theorem frX9_cut  (σ : PS) (r : PS) (h : fX9_cut  σ = some r) : FRM SX9_cut σ r := by
  unfold fX9_cut at h
  exact FRM.tr (FRM.i FRM.rf (by decide)) (frX9_cut_7 FU 0 (sI σ 132 10 0) _ h)

def SX9_is : List (Nat × Nat) := []
theorem frX9_is (a1 : Int32) (σ : PS) (r : Int32 × PS) (h : fX9_is a1 σ = some r) : FRM SX9_is σ r.2 := by
  unfold fX9_is at h
  rcases ite_some h with ⟨hc, h⟩ | ⟨hc, h⟩
  · obtain ⟨hi1, h⟩ := gd_some h
    rcases ite_some h with ⟨hc, h⟩ | ⟨hc, h⟩
    · cases h
      exact FRM.rf
    · cases h
      exact FRM.rf
  · cases h
    exact FRM.rf

def SX9_fail : List (Nat × Nat) := [(132, 132)]
theorem frX9_fail (a1 : Int32) (σ : PS) (r : PS) (h : fX9_fail a1 σ = some r) : FRM SX9_fail σ r := by
  unfold fX9_fail at h
  rcases ite_some h with ⟨hc, h⟩ | ⟨hc, h⟩
  · obtain ⟨hi1, h⟩ := gd_some h
    cases h
    exact (FRM.i (FRM.i FRM.rf (by decide)) (by decide))
  · cases h
    exact FRM.rf

def SX9_wrong : List (Nat × Nat) := [(132, 132)]
theorem frX9_wrong_46 (x1 : Int32) (x3 : Int32) (σ : PS) (r : PS) (h : fX9_wrong_46 x1 x3 σ = some r) : FRM SX9_wrong σ r := by
  unfold fX9_wrong_46 at h
  cases h
  exact (FRM.i (FRM.i FRM.rf (by decide)) (by decide))
theorem frX9_wrong (a1 : Int32) (a2 : Int32) (σ : PS) (r : PS) (h : fX9_wrong a1 a2 σ = some r) : FRM SX9_wrong σ r := by
  unfold fX9_wrong at h
  obtain ⟨hi1, h⟩ := gd_some h
  rcases ite_some h with ⟨hc, h⟩ | ⟨hc, h⟩
  · cases h
    exact FRM.rf
  · rcases ite_some h with ⟨hc, h⟩ | ⟨hc, h⟩
    · exact FRM.tr FRM.rf (frX9_wrong_46 a1 (gi σ 136 (a2 : Int32).toNatClampNeg) σ _ h)
    · rcases ite_some h with ⟨hc, h⟩ | ⟨hc, h⟩
      · cases h
        exact FRM.rf
      · rcases ite_some h with ⟨hc, h⟩ | ⟨hc, h⟩
        · rcases ite_some h with ⟨hc, h⟩ | ⟨hc, h⟩
          · exact FRM.tr FRM.rf (frX9_wrong_46 a1 (gi σ 136 (a2 : Int32).toNatClampNeg) σ _ h)
          · cases h
            exact FRM.rf
        · exact FRM.tr FRM.rf (frX9_wrong_46 a1 (gi σ 136 (a2 : Int32).toNatClampNeg) σ _ h)

def SX9_next : List (Nat × Nat) := [(132, 132)]
theorem frX9_next  (σ : PS) (r : PS) (h : fX9_next  σ = some r) : FRM SX9_next σ r := by
  unfold fX9_next at h
  rcases ite_some h with ⟨hc, h⟩ | ⟨hc, h⟩
  · obtain ⟨q1, e2, h⟩ := bind_some h
    try dsimp only at h
    have g3 := frX9_fail _ _ _ e2
    cases h
    exact (FRM.tr FRM.rf (FRM.mono g3 (by decide)))
  · cases h
    exact (FRM.i FRM.rf (by decide))

def SX9_must : List (Nat × Nat) := [(132, 132)]
theorem frX9_must (a1 : Int32) (σ : PS) (r : PS) (h : fX9_must a1 σ = some r) : FRM SX9_must σ r := by
  unfold fX9_must at h
  obtain ⟨q1, e2, h⟩ := bind_some h
  try dsimp only at h
  have g3 := frX9_is _ _ _ e2
  rcases ite_some h with ⟨hc, h⟩ | ⟨hc, h⟩
  · obtain ⟨q4, e5, h⟩ := bind_some h
    try dsimp only at h
    have g6 := frX9_fail _ _ _ e5
    cases h
    exact (FRM.tr (FRM.tr FRM.rf (FRM.mono g3 (by decide))) (FRM.mono g6 (by decide)))
  · obtain ⟨q7, e8, h⟩ := bind_some h
    try dsimp only at h
    have g9 := frX9_next _ _ e8
    cases h
    exact (FRM.tr (FRM.tr FRM.rf (FRM.mono g3 (by decide))) (FRM.mono g9 (by decide)))

def SX9_emit : List (Nat × Nat) := [(132, 132), (153, 154)]
theorem frX9_emit (a1 : Int32) (a2 : Int32) (σ : PS) (r : PS) (h : fX9_emit a1 a2 σ = some r) : FRM SX9_emit σ r := by
  unfold fX9_emit at h
  obtain ⟨hi1, h⟩ := gd_some h
  obtain ⟨hi2, h⟩ := gd_some h
  cases h
  exact (FRM.i (FRM.i (FRM.i FRM.rf (by decide)) (by decide)) (by decide))

def SX9_comesOut : List (Nat × Nat) := [(132, 132), (153, 154)]
theorem frX9_comesOut_85 {r0 : Int32 → PS → Option (PS)} (hr_0 : ∀ (x1 : Int32) (σ : PS) (r : PS), r0 x1 σ = some r → FRM SX9_comesOut σ r) (x1 : Int32) (s1 : Int32) (σ : PS) (r : PS) (h : fX9_comesOut_85 r0 x1 s1 σ = some r) : FRM SX9_comesOut σ r := by
  unfold fX9_comesOut_85 at h
  obtain ⟨q4, e5, h⟩ := bind_some h
  try dsimp only at h
  have g6 := frX9_emit _ _ _ _ e5
  exact FRM.tr (FRM.tr FRM.rf (FRM.mono g6 (by decide))) (hr_0 x1 q4 _ h)
theorem frX9_comesOut_43 {r0 : Int32 → PS → Option (PS)} (hr_0 : ∀ (x1 : Int32) (σ : PS) (r : PS), r0 x1 σ = some r → FRM SX9_comesOut σ r) (x1 : Int32) (σ : PS) (r : PS) (h : fX9_comesOut_43 r0 x1 σ = some r) : FRM SX9_comesOut σ r := by
  unfold fX9_comesOut_43 at h
  obtain ⟨hi3, h⟩ := gd_some h
  rcases ite_some h with ⟨hc, h⟩ | ⟨hc, h⟩
  · exact FRM.tr (FRM.i FRM.rf (by decide)) (frX9_comesOut_85 hr_0 x1 2 (sI σ 132 37 ((gi σ 132 37) - 1)) _ h)
  · rcases ite_some h with ⟨hc, h⟩ | ⟨hc, h⟩
    · exact FRM.tr (FRM.i FRM.rf (by decide)) (frX9_comesOut_85 hr_0 x1 3 (sI σ 132 37 ((gi σ 132 37) - 1)) _ h)
    · exact FRM.tr (FRM.i FRM.rf (by decide)) (frX9_comesOut_85 hr_0 x1 4 (sI σ 132 37 ((gi σ 132 37) - 1)) _ h)
theorem frX9_comesOut_0 : ∀ (n : Nat) (x1 : Int32) (σ : PS) (r : PS), fX9_comesOut_0 n x1 σ = some r → FRM SX9_comesOut σ r := by
  intro n
  induction n with
  | zero =>
    intro x1 σ r h
    rw [fX9_comesOut_0] at h
    cases h
  | succ n ih =>
    intro x1 σ r h
    rw [fX9_comesOut_0] at h
    rcases ite_some h with ⟨hc, h⟩ | ⟨hc, h⟩
    · cases h
      exact FRM.rf
    · obtain ⟨hi1, h⟩ := gd_some h
      rcases ite_some h with ⟨hc, h⟩ | ⟨hc, h⟩
      · cases h
        exact FRM.rf
      · rcases ite_some h with ⟨hc, h⟩ | ⟨hc, h⟩
        · exact FRM.tr FRM.rf (frX9_comesOut_43 ih x1 σ _ h)
        · obtain ⟨hi2, h⟩ := gd_some h
          rcases ite_some h with ⟨hc, h⟩ | ⟨hc, h⟩
          · exact FRM.tr FRM.rf (frX9_comesOut_43 ih x1 σ _ h)
          · cases h
            exact FRM.rf
theorem frX9_comesOut (a1 : Int32) (σ : PS) (r : PS) (h : fX9_comesOut a1 σ = some r) : FRM SX9_comesOut σ r := by
  unfold fX9_comesOut at h
  exact FRM.tr FRM.rf (frX9_comesOut_0 FU a1 σ _ h)

def SX9_expression : List (Nat × Nat) := [(132, 132), (153, 155)]
theorem frX9_expression_329 {r12 : Int32 → Int32 → PS → Option (PS)} (hr_12 : ∀ (x1 : Int32) (x2 : Int32) (σ : PS) (r : PS), r12 x1 x2 σ = some r → FRM SX9_expression σ r) (x1 : Int32) (x2 : Int32) (x4 : Int32) (s1 : Int32) (σ : PS) (r : PS) (h : fX9_expression_329 r12 x1 x2 x4 s1 σ = some r) : FRM SX9_expression σ r := by
  unfold fX9_expression_329 at h
  obtain ⟨q58, e59, h⟩ := bind_some h
  try dsimp only at h
  have g60 := frX9_comesOut _ _ _ e59
  obtain ⟨hi61, h⟩ := gd_some h
  obtain ⟨q62, e63, h⟩ := bind_some h
  try dsimp only at h
  have g64 := frX9_next _ _ e63
  exact FRM.tr (FRM.tr (FRM.i (FRM.i (FRM.tr FRM.rf (FRM.mono g60 (by decide))) (by decide)) (by decide)) (FRM.mono g64 (by decide))) (hr_12 x1 x2 q62 _ h)
theorem frX9_expression_281 {r12 : Int32 → Int32 → PS → Option (PS)} (hr_12 : ∀ (x1 : Int32) (x2 : Int32) (σ : PS) (r : PS), r12 x1 x2 σ = some r → FRM SX9_expression σ r) (x1 : Int32) (s0 : Int32) (σ : PS) (r : PS) (h : fX9_expression_281 r12 x1 s0 σ = some r) : FRM SX9_expression σ r := by
  unfold fX9_expression_281 at h
  rcases ite_some h with ⟨hc, h⟩ | ⟨hc, h⟩
  · rcases ite_some h with ⟨hc, h⟩ | ⟨hc, h⟩
    · obtain ⟨q49, e50, h⟩ := bind_some h
      try dsimp only at h
      have g51 := frX9_comesOut _ _ _ e50
      cases h
      exact (FRM.tr FRM.rf (FRM.mono g51 (by decide)))
    · obtain ⟨q52, e53, h⟩ := bind_some h
      try dsimp only at h
      have g54 := frX9_fail _ _ _ e53
      obtain ⟨q55, e56, h⟩ := bind_some h
      try dsimp only at h
      have g57 := frX9_comesOut _ _ _ e56
      cases h
      exact (FRM.tr (FRM.tr FRM.rf (FRM.mono g54 (by decide))) (FRM.mono g57 (by decide)))
  · obtain ⟨hi48, h⟩ := gd_some h
    rcases ite_some h with ⟨hc, h⟩ | ⟨hc, h⟩
    · exact FRM.tr FRM.rf (frX9_expression_329 hr_12 x1 s0 (gi σ 135 ((gi σ 132 11) : Int32).toNatClampNeg) 1 σ _ h)
    · exact FRM.tr FRM.rf (frX9_expression_329 hr_12 x1 s0 (gi σ 135 ((gi σ 132 11) : Int32).toNatClampNeg) 0 σ _ h)
theorem frX9_expression_276 {r12 : Int32 → Int32 → PS → Option (PS)} (hr_12 : ∀ (x1 : Int32) (x2 : Int32) (σ : PS) (r : PS), r12 x1 x2 σ = some r → FRM SX9_expression σ r) (x1 : Int32) (σ : PS) (r : PS) (h : fX9_expression_276 r12 x1 σ = some r) : FRM SX9_expression σ r := by
  unfold fX9_expression_276 at h
  exact FRM.tr FRM.rf (frX9_expression_281 hr_12 x1 1 σ _ h)
theorem frX9_expression_249 {r12 : Int32 → Int32 → PS → Option (PS)} (hr_12 : ∀ (x1 : Int32) (x2 : Int32) (σ : PS) (r : PS), r12 x1 x2 σ = some r → FRM SX9_expression σ r) (x1 : Int32) (σ : PS) (r : PS) (h : fX9_expression_249 r12 x1 σ = some r) : FRM SX9_expression σ r := by
  unfold fX9_expression_249 at h
  obtain ⟨q39, e40, h⟩ := bind_some h
  try dsimp only at h
  have g41 := frX9_is _ _ _ e40
  rcases ite_some h with ⟨hc, h⟩ | ⟨hc, h⟩
  · obtain ⟨q42, e43, h⟩ := bind_some h
    try dsimp only at h
    have g44 := frX9_is _ _ _ e43
    rcases ite_some h with ⟨hc, h⟩ | ⟨hc, h⟩
    · obtain ⟨q45, e46, h⟩ := bind_some h
      try dsimp only at h
      have g47 := frX9_is _ _ _ e46
      rcases ite_some h with ⟨hc, h⟩ | ⟨hc, h⟩
      · exact FRM.tr (FRM.tr (FRM.tr (FRM.tr FRM.rf (FRM.mono g41 (by decide))) (FRM.mono g44 (by decide))) (FRM.mono g47 (by decide))) (frX9_expression_281 hr_12 x1 0 q45.2 _ h)
      · exact FRM.tr (FRM.tr (FRM.tr (FRM.tr FRM.rf (FRM.mono g41 (by decide))) (FRM.mono g44 (by decide))) (FRM.mono g47 (by decide))) (frX9_expression_276 hr_12 x1 q45.2 _ h)
    · exact FRM.tr (FRM.tr (FRM.tr FRM.rf (FRM.mono g41 (by decide))) (FRM.mono g44 (by decide))) (frX9_expression_276 hr_12 x1 q42.2 _ h)
  · exact FRM.tr (FRM.tr FRM.rf (FRM.mono g41 (by decide))) (frX9_expression_276 hr_12 x1 q39.2 _ h)
theorem frX9_expression_200 {r12 : Int32 → Int32 → PS → Option (PS)} (hr_12 : ∀ (x1 : Int32) (x2 : Int32) (σ : PS) (r : PS), r12 x1 x2 σ = some r → FRM SX9_expression σ r) : ∀ (n : Nat) (x1 : Int32) (σ : PS) (r : PS), fX9_expression_200 r12 n x1 σ = some r → FRM SX9_expression σ r := by
  intro n
  induction n with
  | zero =>
    intro x1 σ r h
    rw [fX9_expression_200] at h
    cases h
  | succ n ih =>
    intro x1 σ r h
    rw [fX9_expression_200] at h
    obtain ⟨q30, e31, h⟩ := bind_some h
    try dsimp only at h
    have g32 := frX9_is _ _ _ e31
    rcases ite_some h with ⟨hc, h⟩ | ⟨hc, h⟩
    · exact FRM.tr (FRM.tr FRM.rf (FRM.mono g32 (by decide))) (frX9_expression_249 hr_12 x1 q30.2 _ h)
    · rcases ite_some h with ⟨hc, h⟩ | ⟨hc, h⟩
      · exact FRM.tr (FRM.tr FRM.rf (FRM.mono g32 (by decide))) (frX9_expression_249 hr_12 x1 q30.2 _ h)
      · obtain ⟨q33, e34, h⟩ := bind_some h
        try dsimp only at h
        have g35 := frX9_comesOut _ _ _ e34
        obtain ⟨q36, e37, h⟩ := bind_some h
        try dsimp only at h
        have g38 := frX9_next _ _ e37
        exact FRM.tr (FRM.tr (FRM.i (FRM.i (FRM.tr (FRM.tr FRM.rf (FRM.mono g32 (by decide))) (FRM.mono g35 (by decide))) (by decide)) (by decide)) (FRM.mono g38 (by decide))) (ih x1 q36 _ h)
theorem frX9_expression_196 {r12 : Int32 → Int32 → PS → Option (PS)} (hr_12 : ∀ (x1 : Int32) (x2 : Int32) (σ : PS) (r : PS), r12 x1 x2 σ = some r → FRM SX9_expression σ r) (x1 : Int32) (σ : PS) (r : PS) (h : fX9_expression_196 r12 x1 σ = some r) : FRM SX9_expression σ r := by
  unfold fX9_expression_196 at h
  obtain ⟨q27, e28, h⟩ := bind_some h
  try dsimp only at h
  have g29 := frX9_next _ _ e28
  exact FRM.tr (FRM.tr FRM.rf (FRM.mono g29 (by decide))) (frX9_expression_200 hr_12 FU x1 q27 _ h)
theorem frX9_expression_150 {r12 : Int32 → Int32 → PS → Option (PS)} (hr_12 : ∀ (x1 : Int32) (x2 : Int32) (σ : PS) (r : PS), r12 x1 x2 σ = some r → FRM SX9_expression σ r) (x1 : Int32) (x3 : Int32) (σ : PS) (r : PS) (h : fX9_expression_150 r12 x1 x3 σ = some r) : FRM SX9_expression σ r := by
  unfold fX9_expression_150 at h
  rcases ite_some h with ⟨hc, h⟩ | ⟨hc, h⟩
  · rcases ite_some h with ⟨hc, h⟩ | ⟨hc, h⟩
    · obtain ⟨hi19, h⟩ := gd_some h
      obtain ⟨q20, e21, h⟩ := bind_some h
      try dsimp only at h
      have g22 := frX9_emit _ _ _ _ e21
      exact FRM.tr (FRM.tr FRM.rf (FRM.mono g22 (by decide))) (frX9_expression_196 hr_12 x1 q20 _ h)
    · obtain ⟨hi23, h⟩ := gd_some h
      obtain ⟨q24, e25, h⟩ := bind_some h
      try dsimp only at h
      have g26 := frX9_emit _ _ _ _ e25
      exact FRM.tr (FRM.tr FRM.rf (FRM.mono g26 (by decide))) (frX9_expression_196 hr_12 x1 q24 _ h)
  · cases h
    exact FRM.rf
theorem frX9_expression_132 {r12 : Int32 → Int32 → PS → Option (PS)} (hr_12 : ∀ (x1 : Int32) (x2 : Int32) (σ : PS) (r : PS), r12 x1 x2 σ = some r → FRM SX9_expression σ r) (x1 : Int32) (s0 : Int32) (σ : PS) (r : PS) (h : fX9_expression_132 r12 x1 s0 σ = some r) : FRM SX9_expression σ r := by
  unfold fX9_expression_132 at h
  obtain ⟨q13, e14, h⟩ := bind_some h
  try dsimp only at h
  have g15 := frX9_is _ _ _ e14
  rcases ite_some h with ⟨hc, h⟩ | ⟨hc, h⟩
  · rcases ite_some h with ⟨hc, h⟩ | ⟨hc, h⟩
    · obtain ⟨q16, e17, h⟩ := bind_some h
      try dsimp only at h
      have g18 := frX9_fail _ _ _ e17
      exact FRM.tr (FRM.tr (FRM.tr FRM.rf (FRM.mono g15 (by decide))) (FRM.mono g18 (by decide))) (frX9_expression_150 hr_12 x1 s0 q16 _ h)
    · exact FRM.tr (FRM.tr FRM.rf (FRM.mono g15 (by decide))) (frX9_expression_150 hr_12 x1 s0 q13.2 _ h)
  · exact FRM.tr (FRM.tr FRM.rf (FRM.mono g15 (by decide))) (frX9_expression_150 hr_12 x1 s0 q13.2 _ h)
theorem frX9_expression_131 {r12 : Int32 → Int32 → PS → Option (PS)} (hr_12 : ∀ (x1 : Int32) (x2 : Int32) (σ : PS) (r : PS), r12 x1 x2 σ = some r → FRM SX9_expression σ r) (x1 : Int32) (σ : PS) (r : PS) (h : fX9_expression_131 r12 x1 σ = some r) : FRM SX9_expression σ r := by
  unfold fX9_expression_131 at h
  exact FRM.tr FRM.rf (frX9_expression_132 hr_12 x1 0 σ _ h)
theorem frX9_expression_46 {r12 : Int32 → Int32 → PS → Option (PS)} (hr_12 : ∀ (x1 : Int32) (x2 : Int32) (σ : PS) (r : PS), r12 x1 x2 σ = some r → FRM SX9_expression σ r) (x1 : Int32) (x2 : Int32) (σ : PS) (r : PS) (h : fX9_expression_46 r12 x1 x2 σ = some r) : FRM SX9_expression σ r := by
  unfold fX9_expression_46 at h
  rcases ite_some h with ⟨hc, h⟩ | ⟨hc, h⟩
  · obtain ⟨q9, e10, h⟩ := bind_some h
    try dsimp only at h
    have g11 := frX9_next _ _ e10
    obtain ⟨hi12, h⟩ := gd_some h
    exact FRM.tr (FRM.i (FRM.i (FRM.tr (FRM.i FRM.rf (by decide)) (FRM.mono g11 (by decide))) (by decide)) (by decide)) (hr_12 x1 x2 (sI (sI q9 155 ((gi q9 132 37) : Int32).toNatClampNeg 6) 132 37 ((gi (sI q9 155 ((gi q9 132 37) : Int32).toNatClampNeg 6) 132 37) + 1)) _ h)
  · cases h
    exact FRM.rf
theorem frX9_expression_12 : ∀ (n : Nat) (x1 : Int32) (x2 : Int32) (σ : PS) (r : PS), fX9_expression_12 n x1 x2 σ = some r → FRM SX9_expression σ r := by
  intro n
  induction n with
  | zero =>
    intro x1 x2 σ r h
    rw [fX9_expression_12] at h
    cases h
  | succ n ih =>
    intro x1 x2 σ r h
    rw [fX9_expression_12] at h
    rcases ite_some h with ⟨hc, h⟩ | ⟨hc, h⟩
    · cases h
      exact FRM.rf
    · rcases ite_some h with ⟨hc, h⟩ | ⟨hc, h⟩
      · obtain ⟨q1, e2, h⟩ := bind_some h
        try dsimp only at h
        have g3 := frX9_is _ _ _ e2
        rcases ite_some h with ⟨hc, h⟩ | ⟨hc, h⟩
        · rcases ite_some h with ⟨hc, h⟩ | ⟨hc, h⟩
          · obtain ⟨hi4, h⟩ := gd_some h
            rcases ite_some h with ⟨hc, h⟩ | ⟨hc, h⟩
            · exact FRM.tr (FRM.tr FRM.rf (FRM.mono g3 (by decide))) (frX9_expression_131 ih x1 q1.2 _ h)
            · obtain ⟨hi5, h⟩ := gd_some h
              rcases ite_some h with ⟨hc, h⟩ | ⟨hc, h⟩
              · exact FRM.tr (FRM.tr FRM.rf (FRM.mono g3 (by decide))) (frX9_expression_131 ih x1 q1.2 _ h)
              · exact FRM.tr (FRM.tr FRM.rf (FRM.mono g3 (by decide))) (frX9_expression_132 ih x1 1 q1.2 _ h)
          · exact FRM.tr (FRM.tr FRM.rf (FRM.mono g3 (by decide))) (frX9_expression_131 ih x1 q1.2 _ h)
        · rcases ite_some h with ⟨hc, h⟩ | ⟨hc, h⟩
          · obtain ⟨q6, e7, h⟩ := bind_some h
            try dsimp only at h
            have g8 := frX9_fail _ _ _ e7
            exact FRM.tr (FRM.tr (FRM.tr FRM.rf (FRM.mono g3 (by decide))) (FRM.mono g8 (by decide))) (frX9_expression_46 ih x1 x2 q6 _ h)
          · exact FRM.tr (FRM.tr FRM.rf (FRM.mono g3 (by decide))) (frX9_expression_46 ih x1 x2 q1.2 _ h)
      · cases h
        exact FRM.rf
theorem frX9_expression  (σ : PS) (r : PS) (h : fX9_expression  σ = some r) : FRM SX9_expression σ r := by
  unfold fX9_expression at h
  exact FRM.tr (FRM.i FRM.rf (by decide)) (frX9_expression_12 FU (gi (sI σ 132 37 0) 132 12) 1 (sI σ 132 37 0) _ h)

def SX9_relation : List (Nat × Nat) := [(132, 132), (147, 155)]
theorem frX9_relation_54 (x1 : Int32) (x2 : Int32) (x3 : Int32) (σ : PS) (r : PS) (h : fX9_relation_54 x1 x2 x3 σ = some r) : FRM SX9_relation σ r := by
  unfold fX9_relation_54 at h
  obtain ⟨q8, e9, h⟩ := bind_some h
  try dsimp only at h
  have g10 := frX9_next _ _ e9
  obtain ⟨q11, e12, h⟩ := bind_some h
  try dsimp only at h
  have g13 := frX9_expression _ _ e12
  rcases ite_some h with ⟨hc, h⟩ | ⟨hc, h⟩
  · obtain ⟨hi14, h⟩ := gd_some h
    obtain ⟨hi15, h⟩ := gd_some h
    obtain ⟨hi16, h⟩ := gd_some h
    obtain ⟨hi17, h⟩ := gd_some h
    obtain ⟨hi18, h⟩ := gd_some h
    obtain ⟨hi19, h⟩ := gd_some h
    obtain ⟨hi20, h⟩ := gd_some h
    obtain ⟨hi21, h⟩ := gd_some h
    cases h
    exact (FRM.i (FRM.i (FRM.i (FRM.i (FRM.i (FRM.i (FRM.tr (FRM.tr FRM.rf (FRM.mono g10 (by decide))) (FRM.mono g13 (by decide))) (by decide)) (by decide)) (by decide)) (by decide)) (by decide)) (by decide))
  · cases h
    exact (FRM.tr (FRM.tr FRM.rf (FRM.mono g10 (by decide))) (FRM.mono g13 (by decide)))
theorem frX9_relation_49 (x1 : Int32) (x2 : Int32) (x3 : Int32) (σ : PS) (r : PS) (h : fX9_relation_49 x1 x2 x3 σ = some r) : FRM SX9_relation σ r := by
  unfold fX9_relation_49 at h
  obtain ⟨q5, e6, h⟩ := bind_some h
  try dsimp only at h
  have g7 := frX9_fail _ _ _ e6
  exact FRM.tr (FRM.tr FRM.rf (FRM.mono g7 (by decide))) (frX9_relation_54 x1 x2 x3 q5 _ h)
theorem frX9_relation_32 (x1 : Int32) (x2 : Int32) (s0 : Int32) (σ : PS) (r : PS) (h : fX9_relation_32 x1 x2 s0 σ = some r) : FRM SX9_relation σ r := by
  unfold fX9_relation_32 at h
  rcases ite_some h with ⟨hc, h⟩ | ⟨hc, h⟩
  · rcases ite_some h with ⟨hc, h⟩ | ⟨hc, h⟩
    · exact FRM.tr FRM.rf (frX9_relation_49 x1 x2 s0 σ _ h)
    · rcases ite_some h with ⟨hc, h⟩ | ⟨hc, h⟩
      · exact FRM.tr FRM.rf (frX9_relation_54 x1 x2 s0 σ _ h)
      · exact FRM.tr FRM.rf (frX9_relation_49 x1 x2 s0 σ _ h)
  · exact FRM.tr FRM.rf (frX9_relation_54 x1 x2 s0 σ _ h)
theorem frX9_relation (a1 : Int32) (σ : PS) (r : PS) (h : fX9_relation a1 σ = some r) : FRM SX9_relation σ r := by
  unfold fX9_relation at h
  obtain ⟨q1, e2, h⟩ := bind_some h
  try dsimp only at h
  have g3 := frX9_expression _ _ e2
  rcases ite_some h with ⟨hc, h⟩ | ⟨hc, h⟩
  · obtain ⟨hi4, h⟩ := gd_some h
    exact FRM.tr (FRM.tr FRM.rf (FRM.mono g3 (by decide))) (frX9_relation_32 a1 (gi σ 132 33) ((gi q1 135 ((gi q1 132 11) : Int32).toNatClampNeg) - 11) q1 _ h)
  · exact FRM.tr (FRM.tr FRM.rf (FRM.mono g3 (by decide))) (frX9_relation_32 a1 (gi σ 132 33) 0 q1 _ h)

def SX9_tellRule : List (Nat × Nat) := [(132, 132), (140, 155)]
theorem frX9_tellRule_332 (x2 : Int32) (σ : PS) (r : PS) (h : fX9_tellRule_332 x2 σ = some r) : FRM SX9_tellRule σ r := by
  unfold fX9_tellRule_332 at h
  obtain ⟨q66, e67, h⟩ := bind_some h
  try dsimp only at h
  have g68 := frX9_must _ _ _ e67
  rcases ite_some h with ⟨hc, h⟩ | ⟨hc, h⟩
  · obtain ⟨hi69, h⟩ := gd_some h
    obtain ⟨hi70, h⟩ := gd_some h
    obtain ⟨hi71, h⟩ := gd_some h
    obtain ⟨hi72, h⟩ := gd_some h
    cases h
    exact (FRM.i (FRM.i (FRM.tr FRM.rf (FRM.mono g68 (by decide))) (by decide)) (by decide))
  · cases h
    exact (FRM.tr FRM.rf (FRM.mono g68 (by decide)))
theorem frX9_tellRule_320 {r276 : Int32 → Int32 → Int32 → PS → Option (PS)} (hr_276 : ∀ (x2 : Int32) (x3 : Int32) (x4 : Int32) (σ : PS) (r : PS), r276 x2 x3 x4 σ = some r → FRM SX9_tellRule σ r) (x2 : Int32) (x4 : Int32) (s0 : Int32) (σ : PS) (r : PS) (h : fX9_tellRule_320 r276 x2 x4 s0 σ = some r) : FRM SX9_tellRule σ r := by
  unfold fX9_tellRule_320 at h
  rcases ite_some h with ⟨hc, h⟩ | ⟨hc, h⟩
  · exact FRM.tr FRM.rf (hr_276 x2 s0 x4 σ _ h)
  · obtain ⟨q63, e64, h⟩ := bind_some h
    try dsimp only at h
    have g65 := frX9_next _ _ e64
    exact FRM.tr (FRM.tr FRM.rf (FRM.mono g65 (by decide))) (hr_276 x2 s0 x4 q63 _ h)
theorem frX9_tellRule_315 {r276 : Int32 → Int32 → Int32 → PS → Option (PS)} (hr_276 : ∀ (x2 : Int32) (x3 : Int32) (x4 : Int32) (σ : PS) (r : PS), r276 x2 x3 x4 σ = some r → FRM SX9_tellRule σ r) (x2 : Int32) (x4 : Int32) (σ : PS) (r : PS) (h : fX9_tellRule_315 r276 x2 x4 σ = some r) : FRM SX9_tellRule σ r := by
  unfold fX9_tellRule_315 at h
  exact FRM.tr FRM.rf (frX9_tellRule_320 hr_276 x2 x4 1 σ _ h)
theorem frX9_tellRule_276 : ∀ (n : Nat) (x2 : Int32) (x3 : Int32) (x4 : Int32) (σ : PS) (r : PS), fX9_tellRule_276 n x2 x3 x4 σ = some r → FRM SX9_tellRule σ r := by
  intro n
  induction n with
  | zero =>
    intro x2 x3 x4 σ r h
    rw [fX9_tellRule_276] at h
    cases h
  | succ n ih =>
    intro x2 x3 x4 σ r h
    rw [fX9_tellRule_276] at h
    rcases ite_some h with ⟨hc, h⟩ | ⟨hc, h⟩
    · exact FRM.tr FRM.rf (frX9_tellRule_332 x2 σ _ h)
    · rcases ite_some h with ⟨hc, h⟩ | ⟨hc, h⟩
      · obtain ⟨q54, e55, h⟩ := bind_some h
        try dsimp only at h
        have g56 := frX9_relation _ _ _ e55
        obtain ⟨q57, e58, h⟩ := bind_some h
        try dsimp only at h
        have g59 := frX9_is _ _ _ e58
        rcases ite_some h with ⟨hc, h⟩ | ⟨hc, h⟩
        · obtain ⟨q60, e61, h⟩ := bind_some h
          try dsimp only at h
          have g62 := frX9_is _ _ _ e61
          rcases ite_some h with ⟨hc, h⟩ | ⟨hc, h⟩
          · exact FRM.tr (FRM.tr (FRM.tr (FRM.tr FRM.rf (FRM.mono g56 (by decide))) (FRM.mono g59 (by decide))) (FRM.mono g62 (by decide))) (frX9_tellRule_320 ih x2 q57.1 0 q60.2 _ h)
          · exact FRM.tr (FRM.tr (FRM.tr (FRM.tr FRM.rf (FRM.mono g56 (by decide))) (FRM.mono g59 (by decide))) (FRM.mono g62 (by decide))) (frX9_tellRule_315 ih x2 q57.1 q60.2 _ h)
        · exact FRM.tr (FRM.tr (FRM.tr FRM.rf (FRM.mono g56 (by decide))) (FRM.mono g59 (by decide))) (frX9_tellRule_315 ih x2 q57.1 q57.2 _ h)
      · exact FRM.tr FRM.rf (frX9_tellRule_332 x2 σ _ h)
theorem frX9_tellRule_273 (x2 : Int32) (x3 : Int32) (σ : PS) (r : PS) (h : fX9_tellRule_273 x2 x3 σ = some r) : FRM SX9_tellRule σ r := by
  unfold fX9_tellRule_273 at h
  exact FRM.tr FRM.rf (frX9_tellRule_276 FU x2 x3 1 σ _ h)
theorem frX9_tellRule_262 (x2 : Int32) (s0 : Int32) (σ : PS) (r : PS) (h : fX9_tellRule_262 x2 s0 σ = some r) : FRM SX9_tellRule σ r := by
  unfold fX9_tellRule_262 at h
  rcases ite_some h with ⟨hc, h⟩ | ⟨hc, h⟩
  · exact FRM.tr FRM.rf (frX9_tellRule_273 x2 s0 σ _ h)
  · obtain ⟨q51, e52, h⟩ := bind_some h
    try dsimp only at h
    have g53 := frX9_must _ _ _ e52
    exact FRM.tr (FRM.tr FRM.rf (FRM.mono g53 (by decide))) (frX9_tellRule_273 x2 s0 q51 _ h)
theorem frX9_tellRule_257 (x2 : Int32) (σ : PS) (r : PS) (h : fX9_tellRule_257 x2 σ = some r) : FRM SX9_tellRule σ r := by
  unfold fX9_tellRule_257 at h
  exact FRM.tr FRM.rf (frX9_tellRule_262 x2 1 σ _ h)
theorem frX9_tellRule_213 (x2 : Int32) (σ : PS) (r : PS) (h : fX9_tellRule_213 x2 σ = some r) : FRM SX9_tellRule σ r := by
  unfold fX9_tellRule_213 at h
  obtain ⟨hi44, h⟩ := gd_some h
  obtain ⟨hi45, h⟩ := gd_some h
  obtain ⟨hi46, h⟩ := gd_some h
  obtain ⟨hi47, h⟩ := gd_some h
  rcases ite_some h with ⟨hc, h⟩ | ⟨hc, h⟩
  · exact FRM.tr (FRM.i (FRM.i FRM.rf (by decide)) (by decide)) (frX9_tellRule_257 x2 (sI (sI σ 144 (x2 : Int32).toNatClampNeg (gi σ 132 33)) 145 (x2 : Int32).toNatClampNeg (gi (sI σ 144 (x2 : Int32).toNatClampNeg (gi σ 132 33)) 147 ((gi (sI σ 144 (x2 : Int32).toNatClampNeg (gi σ 132 33)) 132 19) : Int32).toNatClampNeg)) _ h)
  · obtain ⟨q48, e49, h⟩ := bind_some h
    try dsimp only at h
    have g50 := frX9_is _ _ _ e49
    rcases ite_some h with ⟨hc, h⟩ | ⟨hc, h⟩
    · exact FRM.tr (FRM.tr (FRM.i (FRM.i FRM.rf (by decide)) (by decide)) (FRM.mono g50 (by decide))) (frX9_tellRule_262 x2 0 q48.2 _ h)
    · exact FRM.tr (FRM.tr (FRM.i (FRM.i FRM.rf (by decide)) (by decide)) (FRM.mono g50 (by decide))) (frX9_tellRule_257 x2 q48.2 _ h)
theorem frX9_tellRule_189 (x2 : Int32) (σ : PS) (r : PS) (h : fX9_tellRule_189 x2 σ = some r) : FRM SX9_tellRule σ r := by
  unfold fX9_tellRule_189 at h
  obtain ⟨hi39, h⟩ := gd_some h
  obtain ⟨hi40, h⟩ := gd_some h
  rcases ite_some h with ⟨hc, h⟩ | ⟨hc, h⟩
  · exact FRM.tr (FRM.i FRM.rf (by decide)) (frX9_tellRule_213 x2 (sI σ 143 (x2 : Int32).toNatClampNeg (gi σ 132 33)) _ h)
  · obtain ⟨q41, e42, h⟩ := bind_some h
    try dsimp only at h
    have g43 := frX9_expression _ _ e42
    exact FRM.tr (FRM.tr (FRM.i FRM.rf (by decide)) (FRM.mono g43 (by decide))) (frX9_tellRule_213 x2 q41 _ h)
theorem frX9_tellRule_122 (x2 : Int32) (s1 : Int32) (s2 : Int32) (σ : PS) (r : PS) (h : fX9_tellRule_122 x2 s1 s2 σ = some r) : FRM SX9_tellRule σ r := by
  unfold fX9_tellRule_122 at h
  obtain ⟨hi24, h⟩ := gd_some h
  obtain ⟨q25, e26, h⟩ := bind_some h
  try dsimp only at h
  have g27 := frX9_next _ _ e26
  obtain ⟨hi28, h⟩ := gd_some h
  obtain ⟨hi29, h⟩ := gd_some h
  rcases ite_some h with ⟨hc, h⟩ | ⟨hc, h⟩
  · exact FRM.tr (FRM.i (FRM.tr (FRM.i FRM.rf (by decide)) (FRM.mono g27 (by decide))) (by decide)) (frX9_tellRule_189 x2 (sI q25 142 (x2 : Int32).toNatClampNeg (-1)) _ h)
  · obtain ⟨q30, e31, h⟩ := bind_some h
    try dsimp only at h
    have g32 := frX9_must _ _ _ e31
    rcases ite_some h with ⟨hc, h⟩ | ⟨hc, h⟩
    · obtain ⟨hi33, h⟩ := gd_some h
      obtain ⟨hi34, h⟩ := gd_some h
      obtain ⟨hi35, h⟩ := gd_some h
      rcases ite_some h with ⟨hc, h⟩ | ⟨hc, h⟩
      · exact FRM.tr (FRM.i (FRM.tr (FRM.i (FRM.tr (FRM.i FRM.rf (by decide)) (FRM.mono g27 (by decide))) (by decide)) (FRM.mono g32 (by decide))) (by decide)) (frX9_tellRule_189 x2 (sI q30 142 (x2 : Int32).toNatClampNeg (gi q30 137 ((gi (sI q25 142 (x2 : Int32).toNatClampNeg (-1)) 132 11) : Int32).toNatClampNeg)) _ h)
      · obtain ⟨q36, e37, h⟩ := bind_some h
        try dsimp only at h
        have g38 := frX9_wrong _ _ _ _ e37
        exact FRM.tr (FRM.tr (FRM.i (FRM.tr (FRM.i (FRM.tr (FRM.i FRM.rf (by decide)) (FRM.mono g27 (by decide))) (by decide)) (FRM.mono g32 (by decide))) (by decide)) (FRM.mono g38 (by decide))) (frX9_tellRule_189 x2 q36 _ h)
    · cases h
      exact (FRM.tr (FRM.i (FRM.tr (FRM.i FRM.rf (by decide)) (FRM.mono g27 (by decide))) (by decide)) (FRM.mono g32 (by decide)))
theorem frX9_tellRule_64  (σ : PS) (r : PS) (h : fX9_tellRule_64  σ = some r) : FRM SX9_tellRule σ r := by
  unfold fX9_tellRule_64 at h
  rcases ite_some h with ⟨hc, h⟩ | ⟨hc, h⟩
  · obtain ⟨hi17, h⟩ := gd_some h
    obtain ⟨q18, e19, h⟩ := bind_some h
    try dsimp only at h
    have g20 := frX9_is _ _ _ e19
    rcases ite_some h with ⟨hc, h⟩ | ⟨hc, h⟩
    · obtain ⟨q21, e22, h⟩ := bind_some h
      try dsimp only at h
      have g23 := frX9_is _ _ _ e22
      rcases ite_some h with ⟨hc, h⟩ | ⟨hc, h⟩
      · exact FRM.tr (FRM.tr (FRM.tr FRM.rf (FRM.mono g20 (by decide))) (FRM.mono g23 (by decide))) (frX9_tellRule_122 ((20 * (gi σ 132 19)) + (gi σ 140 ((gi σ 132 19) : Int32).toNatClampNeg)) ((20 * (gi σ 132 19)) + (gi σ 140 ((gi σ 132 19) : Int32).toNatClampNeg)) 2 q21.2 _ h)
      · exact FRM.tr (FRM.tr (FRM.tr FRM.rf (FRM.mono g20 (by decide))) (FRM.mono g23 (by decide))) (frX9_tellRule_122 ((20 * (gi σ 132 19)) + (gi σ 140 ((gi σ 132 19) : Int32).toNatClampNeg)) ((20 * (gi σ 132 19)) + (gi σ 140 ((gi σ 132 19) : Int32).toNatClampNeg)) 1 q21.2 _ h)
    · exact FRM.tr (FRM.tr FRM.rf (FRM.mono g20 (by decide))) (frX9_tellRule_122 ((20 * (gi σ 132 19)) + (gi σ 140 ((gi σ 132 19) : Int32).toNatClampNeg)) ((20 * (gi σ 132 19)) + (gi σ 140 ((gi σ 132 19) : Int32).toNatClampNeg)) 0 q18.2 _ h)
  · cases h
    exact FRM.rf
theorem frX9_tellRule_32 (s0 : Int32) (σ : PS) (r : PS) (h : fX9_tellRule_32 s0 σ = some r) : FRM SX9_tellRule σ r := by
  unfold fX9_tellRule_32 at h
  rcases ite_some h with ⟨hc, h⟩ | ⟨hc, h⟩
  · obtain ⟨q14, e15, h⟩ := bind_some h
    try dsimp only at h
    have g16 := frX9_fail _ _ _ e15
    exact FRM.tr (FRM.tr FRM.rf (FRM.mono g16 (by decide))) (frX9_tellRule_64 q14 _ h)
  · obtain ⟨hi10, h⟩ := gd_some h
    rcases ite_some h with ⟨hc, h⟩ | ⟨hc, h⟩
    · obtain ⟨q11, e12, h⟩ := bind_some h
      try dsimp only at h
      have g13 := frX9_fail _ _ _ e12
      exact FRM.tr (FRM.tr FRM.rf (FRM.mono g13 (by decide))) (frX9_tellRule_64 q11 _ h)
    · exact FRM.tr FRM.rf (frX9_tellRule_64 σ _ h)
theorem frX9_tellRule_27  (σ : PS) (r : PS) (h : fX9_tellRule_27  σ = some r) : FRM SX9_tellRule σ r := by
  unfold fX9_tellRule_27 at h
  exact FRM.tr FRM.rf (frX9_tellRule_32 1 σ _ h)
theorem frX9_tellRule  (σ : PS) (r : PS) (h : fX9_tellRule  σ = some r) : FRM SX9_tellRule σ r := by
  unfold fX9_tellRule at h
  obtain ⟨q1, e2, h⟩ := bind_some h
  try dsimp only at h
  have g3 := frX9_is _ _ _ e2
  rcases ite_some h with ⟨hc, h⟩ | ⟨hc, h⟩
  · obtain ⟨q4, e5, h⟩ := bind_some h
    try dsimp only at h
    have g6 := frX9_is _ _ _ e5
    rcases ite_some h with ⟨hc, h⟩ | ⟨hc, h⟩
    · obtain ⟨q7, e8, h⟩ := bind_some h
      try dsimp only at h
      have g9 := frX9_is _ _ _ e8
      rcases ite_some h with ⟨hc, h⟩ | ⟨hc, h⟩
      · exact FRM.tr (FRM.tr (FRM.tr (FRM.tr FRM.rf (FRM.mono g3 (by decide))) (FRM.mono g6 (by decide))) (FRM.mono g9 (by decide))) (frX9_tellRule_32 0 q7.2 _ h)
      · exact FRM.tr (FRM.tr (FRM.tr (FRM.tr FRM.rf (FRM.mono g3 (by decide))) (FRM.mono g6 (by decide))) (FRM.mono g9 (by decide))) (frX9_tellRule_27 q7.2 _ h)
    · exact FRM.tr (FRM.tr (FRM.tr FRM.rf (FRM.mono g3 (by decide))) (FRM.mono g6 (by decide))) (frX9_tellRule_27 q4.2 _ h)
  · exact FRM.tr (FRM.tr FRM.rf (FRM.mono g3 (by decide))) (frX9_tellRule_27 q1.2 _ h)

def SX9_read : List (Nat × Nat) := [(132, 132), (134, 138), (140, 155)]
theorem frX9_read_159 (s1 : Int32) (σ : PS) (r : Int32 × PS) (h : fX9_read_159 s1 σ = some r) : FRM SX9_read σ r.2 := by
  unfold fX9_read_159 at h
  rcases ite_some h with ⟨hc, h⟩ | ⟨hc, h⟩
  · rcases ite_some h with ⟨hc, h⟩ | ⟨hc, h⟩
    · cases h
      exact (FRM.i (FRM.i (FRM.i FRM.rf (by decide)) (by decide)) (by decide))
    · cases h
      exact (FRM.i FRM.rf (by decide))
  · cases h
    exact (FRM.i FRM.rf (by decide))
theorem frX9_read_129  (σ : PS) (r : Int32 × PS) (h : fX9_read_129  σ = some r) : FRM SX9_read σ r.2 := by
  unfold fX9_read_129 at h
  rcases ite_some h with ⟨hc, h⟩ | ⟨hc, h⟩
  · rcases ite_some h with ⟨hc, h⟩ | ⟨hc, h⟩
    · exact FRM.tr FRM.rf (frX9_read_159 (-1) σ _ h)
    · exact FRM.tr FRM.rf (frX9_read_159 (gi σ 132 16) σ _ h)
  · exact FRM.tr FRM.rf (frX9_read_159 (gi σ 132 14) σ _ h)
theorem frX9_read_107 : ∀ (n : Nat)  (σ : PS) (r : Int32 × PS), fX9_read_107 n  σ = some r → FRM SX9_read σ r.2 := by
  intro n
  induction n with
  | zero =>
    intro  σ r h
    rw [fX9_read_107] at h
    cases h
  | succ n ih =>
    intro  σ r h
    rw [fX9_read_107] at h
    rcases ite_some h with ⟨hc, h⟩ | ⟨hc, h⟩
    · obtain ⟨q8, e9, h⟩ := bind_some h
      try dsimp only at h
      have g10 := frX9_is _ _ _ e9
      rcases ite_some h with ⟨hc, h⟩ | ⟨hc, h⟩
      · obtain ⟨q11, e12, h⟩ := bind_some h
        try dsimp only at h
        have g13 := frX9_tellRule _ _ e12
        exact FRM.tr (FRM.tr (FRM.tr FRM.rf (FRM.mono g10 (by decide))) (FRM.mono g13 (by decide))) (ih q11 _ h)
      · exact FRM.tr (FRM.tr FRM.rf (FRM.mono g10 (by decide))) (frX9_read_129 q8.2 _ h)
    · exact FRM.tr FRM.rf (frX9_read_129 σ _ h)
theorem frX9_read_10 : ∀ (n : Nat) (x1 : Int32) (σ : PS) (r : Int32 × PS), fX9_read_10 n x1 σ = some r → FRM SX9_read σ r.2 := by
  intro n
  induction n with
  | zero =>
    intro x1 σ r h
    rw [fX9_read_10] at h
    cases h
  | succ n ih =>
    intro x1 σ r h
    rw [fX9_read_10] at h
    rcases ite_some h with ⟨hc, h⟩ | ⟨hc, h⟩
    · obtain ⟨q1, e2, h⟩ := bind_some h
      try dsimp only at h
      have g3 := frX9_cut _ _ e2
      obtain ⟨hi4, h⟩ := gd_some h
      obtain ⟨hi5, h⟩ := gd_some h
      exact FRM.tr (FRM.i (FRM.i (FRM.i (FRM.i (FRM.i (FRM.i (FRM.i (FRM.i (FRM.tr (FRM.i FRM.rf (by decide)) (FRM.mono g3 (by decide))) (by decide)) (by decide)) (by decide)) (by decide)) (by decide)) (by decide)) (by decide)) (by decide)) (frX9_read_107 FU (sI (sI (sI (sI (sI (sI (sI (sI q1 132 11 0) 132 12 0) 132 13 0) 132 15 0) 132 19 (1 - (gi (sI (sI (sI (sI q1 132 11 0) 132 12 0) 132 13 0) 132 15 0) 132 18))) 140 ((gi (sI (sI (sI (sI (sI q1 132 11 0) 132 12 0) 132 13 0) 132 15 0) 132 19 (1 - (gi (sI (sI (sI (sI q1 132 11 0) 132 12 0) 132 13 0) 132 15 0) 132 18))) 132 19) : Int32).toNatClampNeg 0) 147 ((gi (sI (sI (sI (sI (sI (sI q1 132 11 0) 132 12 0) 132 13 0) 132 15 0) 132 19 (1 - (gi (sI (sI (sI (sI q1 132 11 0) 132 12 0) 132 13 0) 132 15 0) 132 18))) 140 ((gi (sI (sI (sI (sI (sI q1 132 11 0) 132 12 0) 132 13 0) 132 15 0) 132 19 (1 - (gi (sI (sI (sI (sI q1 132 11 0) 132 12 0) 132 13 0) 132 15 0) 132 18))) 132 19) : Int32).toNatClampNeg 0) 132 19) : Int32).toNatClampNeg 0) 132 33 (500 * (gi (sI (sI (sI (sI (sI (sI (sI q1 132 11 0) 132 12 0) 132 13 0) 132 15 0) 132 19 (1 - (gi (sI (sI (sI (sI q1 132 11 0) 132 12 0) 132 13 0) 132 15 0) 132 18))) 140 ((gi (sI (sI (sI (sI (sI q1 132 11 0) 132 12 0) 132 13 0) 132 15 0) 132 19 (1 - (gi (sI (sI (sI (sI q1 132 11 0) 132 12 0) 132 13 0) 132 15 0) 132 18))) 132 19) : Int32).toNatClampNeg 0) 147 ((gi (sI (sI (sI (sI (sI (sI q1 132 11 0) 132 12 0) 132 13 0) 132 15 0) 132 19 (1 - (gi (sI (sI (sI (sI q1 132 11 0) 132 12 0) 132 13 0) 132 15 0) 132 18))) 140 ((gi (sI (sI (sI (sI (sI q1 132 11 0) 132 12 0) 132 13 0) 132 15 0) 132 19 (1 - (gi (sI (sI (sI (sI q1 132 11 0) 132 12 0) 132 13 0) 132 15 0) 132 18))) 132 19) : Int32).toNatClampNeg 0) 132 19) : Int32).toNatClampNeg 0) 132 19))) _ h)
    · obtain ⟨hi6, h⟩ := gd_some h
      obtain ⟨hi7, h⟩ := gd_some h
      exact FRM.tr (FRM.i FRM.rf (by decide)) (ih (x1 + 1) (sI σ 134 (x1 : Int32).toNatClampNeg (vp_nar .byte (gi σ 133 (x1 : Int32).toNatClampNeg))) _ h)
theorem frX9_read  (σ : PS) (r : Int32 × PS) (h : fX9_read  σ = some r) : FRM SX9_read σ r.2 := by
  unfold fX9_read at h
  exact FRM.tr (FRM.i FRM.rf (by decide)) (frX9_read_10 FU 0 (sI σ 132 4 (gi σ 132 2)) _ h)

def SX9_place : List (Nat × Nat) := []
theorem frX9_place  (σ : PS) (r : Int32 × PS) (h : fX9_place  σ = some r) : FRM SX9_place σ r.2 := by
  unfold fX9_place at h
  cases h
  exact FRM.rf

def SX9_isInn : List (Nat × Nat) := []
theorem frX9_isInn (a1 : Int32) (σ : PS) (r : Int32 × PS) (h : fX9_isInn a1 σ = some r) : FRM SX9_isInn σ r.2 := by
  unfold fX9_isInn at h
  rcases ite_some h with ⟨hc, h⟩ | ⟨hc, h⟩
  · cases h
    exact FRM.rf
  · rcases ite_some h with ⟨hc, h⟩ | ⟨hc, h⟩
    · cases h
      exact FRM.rf
    · cases h
      exact FRM.rf

def SX9_isCaravan : List (Nat × Nat) := []
theorem frX9_isCaravan (a1 : Int32) (σ : PS) (r : Int32 × PS) (h : fX9_isCaravan a1 σ = some r) : FRM SX9_isCaravan σ r.2 := by
  unfold fX9_isCaravan at h
  rcases ite_some h with ⟨hc, h⟩ | ⟨hc, h⟩
  · cases h
    exact FRM.rf
  · rcases ite_some h with ⟨hc, h⟩ | ⟨hc, h⟩
    · cases h
      exact FRM.rf
    · cases h
      exact FRM.rf

def SX9_isDay : List (Nat × Nat) := []
theorem frX9_isDay (a0 : Int32) (σ : PS) (r : Int32 × PS) (h : fX9_isDay a0 σ = some r) : FRM SX9_isDay σ r.2 := by
  unfold fX9_isDay at h
  rcases ite_some h with ⟨hc, h⟩ | ⟨hc, h⟩
  · cases h
    exact FRM.rf
  · rcases ite_some h with ⟨hc, h⟩ | ⟨hc, h⟩
    · cases h
      exact FRM.rf
    · cases h
      exact FRM.rf

def SX9_isKnown : List (Nat × Nat) := []
theorem frX9_isKnown (a1 : Int32) (σ : PS) (r : Int32 × PS) (h : fX9_isKnown a1 σ = some r) : FRM SX9_isKnown σ r.2 := by
  unfold fX9_isKnown at h
  rcases ite_some h with ⟨hc, h⟩ | ⟨hc, h⟩
  · cases h
    exact FRM.rf
  · rcases ite_some h with ⟨hc, h⟩ | ⟨hc, h⟩
    · cases h
      exact FRM.rf
    · cases h
      exact FRM.rf

def SX9_inn : List (Nat × Nat) := [(132, 132), (156, 159)]
theorem frX9_inn (a1 : Int32) (a2 : Int32) (a3 : Int32) (σ : PS) (r : Int32 × PS) (h : fX9_inn a1 a2 a3 σ = some r) : FRM SX9_inn σ r.2 := by
  unfold fX9_inn at h
  rcases ite_some h with ⟨hc, h⟩ | ⟨hc, h⟩
  · cases h
    exact FRM.rf
  · rcases ite_some h with ⟨hc, h⟩ | ⟨hc, h⟩
    · cases h
      exact FRM.rf
    · rcases ite_some h with ⟨hc, h⟩ | ⟨hc, h⟩
      · cases h
        exact FRM.rf
      · rcases ite_some h with ⟨hc, h⟩ | ⟨hc, h⟩
        · cases h
          exact FRM.rf
        · rcases ite_some h with ⟨hc, h⟩ | ⟨hc, h⟩
          · cases h
            exact FRM.rf
          · rcases ite_some h with ⟨hc, h⟩ | ⟨hc, h⟩
            · cases h
              exact FRM.rf
            · rcases ite_some h with ⟨hc, h⟩ | ⟨hc, h⟩
              · obtain ⟨hi1, h⟩ := gd_some h
                obtain ⟨hi2, h⟩ := gd_some h
                obtain ⟨hi3, h⟩ := gd_some h
                obtain ⟨hi4, h⟩ := gd_some h
                cases h
                exact (FRM.i (FRM.i (FRM.i (FRM.i (FRM.i (FRM.i FRM.rf (by decide)) (by decide)) (by decide)) (by decide)) (by decide)) (by decide))
              · cases h
                exact FRM.rf

def SX9_room : List (Nat × Nat) := [(132, 132), (159, 160)]
theorem frX9_room (a1 : Int32) (a2 : Int32) (σ : PS) (r : Int32 × PS) (h : fX9_room a1 a2 σ = some r) : FRM SX9_room σ r.2 := by
  unfold fX9_room at h
  obtain ⟨q1, e2, h⟩ := bind_some h
  try dsimp only at h
  have g3 := frX9_isInn _ _ _ e2
  rcases ite_some h with ⟨hc, h⟩ | ⟨hc, h⟩
  · cases h
    exact (FRM.tr FRM.rf (FRM.mono g3 (by decide)))
  · obtain ⟨hi4, h⟩ := gd_some h
    rcases ite_some h with ⟨hc, h⟩ | ⟨hc, h⟩
    · cases h
      exact (FRM.tr FRM.rf (FRM.mono g3 (by decide)))
    · rcases ite_some h with ⟨hc, h⟩ | ⟨hc, h⟩
      · cases h
        exact (FRM.tr FRM.rf (FRM.mono g3 (by decide)))
      · rcases ite_some h with ⟨hc, h⟩ | ⟨hc, h⟩
        · obtain ⟨hi5, h⟩ := gd_some h
          obtain ⟨hi6, h⟩ := gd_some h
          obtain ⟨hi7, h⟩ := gd_some h
          obtain ⟨hi8, h⟩ := gd_some h
          obtain ⟨hi9, h⟩ := gd_some h
          cases h
          exact (FRM.i (FRM.i (FRM.i (FRM.tr FRM.rf (FRM.mono g3 (by decide))) (by decide)) (by decide)) (by decide))
        · cases h
          exact (FRM.tr FRM.rf (FRM.mono g3 (by decide)))

def SX9_caravan : List (Nat × Nat) := [(132, 132), (161, 167)]
theorem frX9_caravan (a1 : Int32) (a2 : Int32) (a3 : Int32) (a4 : Int32) (a5 : Int32) (a6 : Int32) (σ : PS) (r : Int32 × PS) (h : fX9_caravan a1 a2 a3 a4 a5 a6 σ = some r) : FRM SX9_caravan σ r.2 := by
  unfold fX9_caravan at h
  rcases ite_some h with ⟨hc, h⟩ | ⟨hc, h⟩
  · cases h
    exact FRM.rf
  · rcases ite_some h with ⟨hc, h⟩ | ⟨hc, h⟩
    · cases h
      exact FRM.rf
    · rcases ite_some h with ⟨hc, h⟩ | ⟨hc, h⟩
      · cases h
        exact FRM.rf
      · rcases ite_some h with ⟨hc, h⟩ | ⟨hc, h⟩
        · cases h
          exact FRM.rf
        · rcases ite_some h with ⟨hc, h⟩ | ⟨hc, h⟩
          · cases h
            exact FRM.rf
          · rcases ite_some h with ⟨hc, h⟩ | ⟨hc, h⟩
            · cases h
              exact FRM.rf
            · rcases ite_some h with ⟨hc, h⟩ | ⟨hc, h⟩
              · cases h
                exact FRM.rf
              · obtain ⟨q1, e2, h⟩ := bind_some h
                try dsimp only at h
                have g3 := frX9_isInn _ _ _ e2
                rcases ite_some h with ⟨hc, h⟩ | ⟨hc, h⟩
                · cases h
                  exact (FRM.tr FRM.rf (FRM.mono g3 (by decide)))
                · obtain ⟨q4, e5, h⟩ := bind_some h
                  try dsimp only at h
                  have g6 := frX9_isInn _ _ _ e5
                  rcases ite_some h with ⟨hc, h⟩ | ⟨hc, h⟩
                  · cases h
                    exact (FRM.tr (FRM.tr FRM.rf (FRM.mono g3 (by decide))) (FRM.mono g6 (by decide)))
                  · rcases ite_some h with ⟨hc, h⟩ | ⟨hc, h⟩
                    · cases h
                      exact (FRM.tr (FRM.tr FRM.rf (FRM.mono g3 (by decide))) (FRM.mono g6 (by decide)))
                    · obtain ⟨q7, e8, h⟩ := bind_some h
                      try dsimp only at h
                      have g9 := frX9_isDay _ _ _ e8
                      rcases ite_some h with ⟨hc, h⟩ | ⟨hc, h⟩
                      · cases h
                        exact (FRM.tr (FRM.tr (FRM.tr FRM.rf (FRM.mono g3 (by decide))) (FRM.mono g6 (by decide))) (FRM.mono g9 (by decide)))
                      · obtain ⟨hi10, h⟩ := gd_some h
                        obtain ⟨hi11, h⟩ := gd_some h
                        obtain ⟨hi12, h⟩ := gd_some h
                        obtain ⟨hi13, h⟩ := gd_some h
                        obtain ⟨hi14, h⟩ := gd_some h
                        obtain ⟨hi15, h⟩ := gd_some h
                        obtain ⟨hi16, h⟩ := gd_some h
                        cases h
                        exact (FRM.i (FRM.i (FRM.i (FRM.i (FRM.i (FRM.i (FRM.i (FRM.i (FRM.i (FRM.tr (FRM.tr (FRM.tr FRM.rf (FRM.mono g3 (by decide))) (FRM.mono g6 (by decide))) (FRM.mono g9 (by decide))) (by decide)) (by decide)) (by decide)) (by decide)) (by decide)) (by decide)) (by decide)) (by decide)) (by decide))

def SX9_bale : List (Nat × Nat) := [(132, 132), (167, 168)]
theorem frX9_bale (a1 : Int32) (σ : PS) (r : Int32 × PS) (h : fX9_bale a1 σ = some r) : FRM SX9_bale σ r.2 := by
  unfold fX9_bale at h
  rcases ite_some h with ⟨hc, h⟩ | ⟨hc, h⟩
  · cases h
    exact FRM.rf
  · obtain ⟨q1, e2, h⟩ := bind_some h
    try dsimp only at h
    have g3 := frX9_isCaravan _ _ _ e2
    rcases ite_some h with ⟨hc, h⟩ | ⟨hc, h⟩
    · cases h
      exact (FRM.tr FRM.rf (FRM.mono g3 (by decide)))
    · obtain ⟨hi4, h⟩ := gd_some h
      obtain ⟨hi5, h⟩ := gd_some h
      obtain ⟨hi6, h⟩ := gd_some h
      cases h
      exact (FRM.i (FRM.i (FRM.i (FRM.i (FRM.tr FRM.rf (FRM.mono g3 (by decide))) (by decide)) (by decide)) (by decide)) (by decide))

def SX9_fact : List (Nat × Nat) := [(132, 132), (169, 171)]
theorem frX9_fact (a1 : Int32) (a2 : Int32) (a3 : Int32) (σ : PS) (r : Int32 × PS) (h : fX9_fact a1 a2 a3 σ = some r) : FRM SX9_fact σ r.2 := by
  unfold fX9_fact at h
  obtain ⟨hi1, h⟩ := gd_some h
  obtain ⟨hi2, h⟩ := gd_some h
  obtain ⟨hi3, h⟩ := gd_some h
  cases h
  exact (FRM.i (FRM.i (FRM.i (FRM.i FRM.rf (by decide)) (by decide)) (by decide)) (by decide))

def SX9_shut : List (Nat × Nat) := [(132, 132), (169, 171)]
theorem frX9_shut (a1 : Int32) (a2 : Int32) (σ : PS) (r : Int32 × PS) (h : fX9_shut a1 a2 σ = some r) : FRM SX9_shut σ r.2 := by
  unfold fX9_shut at h
  rcases ite_some h with ⟨hc, h⟩ | ⟨hc, h⟩
  · cases h
    exact FRM.rf
  · rcases ite_some h with ⟨hc, h⟩ | ⟨hc, h⟩
    · cases h
      exact FRM.rf
    · rcases ite_some h with ⟨hc, h⟩ | ⟨hc, h⟩
      · cases h
        exact FRM.rf
      · obtain ⟨q1, e2, h⟩ := bind_some h
        try dsimp only at h
        have g3 := frX9_isDay _ _ _ e2
        rcases ite_some h with ⟨hc, h⟩ | ⟨hc, h⟩
        · cases h
          exact (FRM.tr FRM.rf (FRM.mono g3 (by decide)))
        · obtain ⟨q4, e5, h⟩ := bind_some h
          try dsimp only at h
          have g6 := frX9_fact _ _ _ _ _ e5
          cases h
          exact (FRM.tr (FRM.tr FRM.rf (FRM.mono g3 (by decide))) (FRM.mono g6 (by decide)))

def SX9_look : List (Nat × Nat) := [(132, 132), (169, 171)]
theorem frX9_look (a1 : Int32) (a2 : Int32) (a3 : Int32) (σ : PS) (r : Int32 × PS) (h : fX9_look a1 a2 a3 σ = some r) : FRM SX9_look σ r.2 := by
  unfold fX9_look at h
  rcases ite_some h with ⟨hc, h⟩ | ⟨hc, h⟩
  · cases h
    exact FRM.rf
  · rcases ite_some h with ⟨hc, h⟩ | ⟨hc, h⟩
    · cases h
      exact FRM.rf
    · rcases ite_some h with ⟨hc, h⟩ | ⟨hc, h⟩
      · cases h
        exact FRM.rf
      · obtain ⟨q1, e2, h⟩ := bind_some h
        try dsimp only at h
        have g3 := frX9_isDay _ _ _ e2
        rcases ite_some h with ⟨hc, h⟩ | ⟨hc, h⟩
        · cases h
          exact (FRM.tr FRM.rf (FRM.mono g3 (by decide)))
        · rcases ite_some h with ⟨hc, h⟩ | ⟨hc, h⟩
          · obtain ⟨q4, e5, h⟩ := bind_some h
            try dsimp only at h
            have g6 := frX9_fact _ _ _ _ _ e5
            cases h
            exact (FRM.tr (FRM.tr FRM.rf (FRM.mono g3 (by decide))) (FRM.mono g6 (by decide)))
          · obtain ⟨q7, e8, h⟩ := bind_some h
            try dsimp only at h
            have g9 := frX9_fact _ _ _ _ _ e8
            cases h
            exact (FRM.tr (FRM.tr FRM.rf (FRM.mono g3 (by decide))) (FRM.mono g9 (by decide)))

def SX9_asks : List (Nat × Nat) := [(187, 187)]
theorem frX9_asks (a1 : Int32) (a2 : Int32) (a3 : Int32) (σ : PS) (r : PS) (h : fX9_asks a1 a2 a3 σ = some r) : FRM SX9_asks σ r := by
  unfold fX9_asks at h
  obtain ⟨hi1, h⟩ := gd_some h
  obtain ⟨hi2, h⟩ := gd_some h
  obtain ⟨hi3, h⟩ := gd_some h
  obtain ⟨hi4, h⟩ := gd_some h
  obtain ⟨hi5, h⟩ := gd_some h
  obtain ⟨hi6, h⟩ := gd_some h
  obtain ⟨hi7, h⟩ := gd_some h
  obtain ⟨hi8, h⟩ := gd_some h
  obtain ⟨hi9, h⟩ := gd_some h
  obtain ⟨hi10, h⟩ := gd_some h
  obtain ⟨hi11, h⟩ := gd_some h
  obtain ⟨hi12, h⟩ := gd_some h
  obtain ⟨hi13, h⟩ := gd_some h
  obtain ⟨hi14, h⟩ := gd_some h
  cases h
  exact (FRM.i (FRM.i (FRM.i (FRM.i (FRM.i (FRM.i (FRM.i (FRM.i FRM.rf (by decide)) (by decide)) (by decide)) (by decide)) (by decide)) (by decide)) (by decide)) (by decide))

def SX9_value : List (Nat × Nat) := [(188, 188)]
theorem frX9_value_138 {r5 : Int32 → Int32 → Int32 → PS → Option (Int32 × PS)} (hr_5 : ∀ (x2 : Int32) (x3 : Int32) (x4 : Int32) (σ : PS) (r : Int32 × PS), r5 x2 x3 x4 σ = some r → FRM SX9_value σ r.2) (x2 : Int32) (x3 : Int32) (x4 : Int32) (σ : PS) (r : Int32 × PS) (h : fX9_value_138 r5 x2 x3 x4 σ = some r) : FRM SX9_value σ r.2 := by
  unfold fX9_value_138 at h
  exact FRM.tr FRM.rf (hr_5 x2 x3 (x4 + 1) σ _ h)
theorem frX9_value_137 {r5 : Int32 → Int32 → Int32 → PS → Option (Int32 × PS)} (hr_5 : ∀ (x2 : Int32) (x3 : Int32) (x4 : Int32) (σ : PS) (r : Int32 × PS), r5 x2 x3 x4 σ = some r → FRM SX9_value σ r.2) (x2 : Int32) (x3 : Int32) (x4 : Int32) (s1 : Int32) (s2 : Int32) (σ : PS) (r : Int32 × PS) (h : fX9_value_137 r5 x2 x3 x4 s1 s2 σ = some r) : FRM SX9_value σ r.2 := by
  unfold fX9_value_137 at h
  obtain ⟨hi12, h⟩ := gd_some h
  exact FRM.tr (FRM.i FRM.rf (by decide)) (frX9_value_138 hr_5 x2 x3 x4 (sI σ 188 (s1 : Int32).toNatClampNeg s2) _ h)
theorem frX9_value_59 {r5 : Int32 → Int32 → Int32 → PS → Option (Int32 × PS)} (hr_5 : ∀ (x2 : Int32) (x3 : Int32) (x4 : Int32) (σ : PS) (r : Int32 × PS), r5 x2 x3 x4 σ = some r → FRM SX9_value σ r.2) (x2 : Int32) (x3 : Int32) (x4 : Int32) (s1 : Int32) (s2 : Int32) (σ : PS) (r : Int32 × PS) (h : fX9_value_59 r5 x2 x3 x4 s1 s2 σ = some r) : FRM SX9_value σ r.2 := by
  unfold fX9_value_59 at h
  obtain ⟨hi11, h⟩ := gd_some h
  exact FRM.tr (FRM.i FRM.rf (by decide)) (frX9_value_138 hr_5 x2 (x3 + 1) x4 (sI σ 188 (s1 : Int32).toNatClampNeg s2) _ h)
theorem frX9_value_5 : ∀ (n : Nat) (x2 : Int32) (x3 : Int32) (x4 : Int32) (σ : PS) (r : Int32 × PS), fX9_value_5 n x2 x3 x4 σ = some r → FRM SX9_value σ r.2 := by
  intro n
  induction n with
  | zero =>
    intro x2 x3 x4 σ r h
    rw [fX9_value_5] at h
    cases h
  | succ n ih =>
    intro x2 x3 x4 σ r h
    rw [fX9_value_5] at h
    rcases ite_some h with ⟨hc, h⟩ | ⟨hc, h⟩
    · obtain ⟨hi1, h⟩ := gd_some h
      cases h
      exact FRM.rf
    · obtain ⟨hi2, h⟩ := gd_some h
      rcases ite_some h with ⟨hc, h⟩ | ⟨hc, h⟩
      · obtain ⟨hi3, h⟩ := gd_some h
        obtain ⟨hi4, h⟩ := gd_some h
        obtain ⟨hi5, h⟩ := gd_some h
        rcases ite_some h with ⟨hc, h⟩ | ⟨hc, h⟩
        · exact FRM.tr FRM.rf (frX9_value_137 ih x2 (x3 + (-1)) x4 ((x3 + (-1)) - 1) ((gi σ 188 (((x3 + (-1)) - 1) : Int32).toNatClampNeg) + (gi σ 188 ((x3 + (-1)) : Int32).toNatClampNeg)) σ _ h)
        · obtain ⟨hi6, h⟩ := gd_some h
          rcases ite_some h with ⟨hc, h⟩ | ⟨hc, h⟩
          · exact FRM.tr FRM.rf (frX9_value_137 ih x2 (x3 + (-1)) x4 ((x3 + (-1)) - 1) ((gi σ 188 (((x3 + (-1)) - 1) : Int32).toNatClampNeg) - (gi σ 188 ((x3 + (-1)) : Int32).toNatClampNeg)) σ _ h)
          · exact FRM.tr FRM.rf (frX9_value_137 ih x2 (x3 + (-1)) x4 ((x3 + (-1)) - 1) ((gi σ 188 (((x3 + (-1)) - 1) : Int32).toNatClampNeg) * (gi σ 188 ((x3 + (-1)) : Int32).toNatClampNeg)) σ _ h)
      · obtain ⟨hi7, h⟩ := gd_some h
        rcases ite_some h with ⟨hc, h⟩ | ⟨hc, h⟩
        · obtain ⟨hi10, h⟩ := gd_some h
          exact FRM.tr FRM.rf (frX9_value_59 ih x2 x3 x4 x3 (gi σ 154 (x4 : Int32).toNatClampNeg) σ _ h)
        · obtain ⟨hi8, h⟩ := gd_some h
          obtain ⟨hi9, h⟩ := gd_some h
          exact FRM.tr FRM.rf (frX9_value_59 ih x2 x3 x4 x3 (gi σ 187 ((gi σ 154 (x4 : Int32).toNatClampNeg) : Int32).toNatClampNeg) σ _ h)
theorem frX9_value (a1 : Int32) (a2 : Int32) (σ : PS) (r : Int32 × PS) (h : fX9_value a1 a2 σ = some r) : FRM SX9_value σ r.2 := by
  unfold fX9_value at h
  exact FRM.tr FRM.rf (frX9_value_5 FU a2 0 a1 σ _ h)

def SX9_holds : List (Nat × Nat) := [(188, 188)]
theorem frX9_holds_213 {r26 : Int32 → Int32 → Int32 → PS → Option (Int32 × PS)} (hr_26 : ∀ (x1 : Int32) (x2 : Int32) (x3 : Int32) (σ : PS) (r : Int32 × PS), r26 x1 x2 x3 σ = some r → FRM SX9_holds σ r.2) (x1 : Int32) (x2 : Int32) (x3 : Int32) (σ : PS) (r : Int32 × PS) (h : fX9_holds_213 r26 x1 x2 x3 σ = some r) : FRM SX9_holds σ r.2 := by
  unfold fX9_holds_213 at h
  exact FRM.tr FRM.rf (hr_26 x1 x2 (x3 + 1) σ _ h)
theorem frX9_holds_212 {r26 : Int32 → Int32 → Int32 → PS → Option (Int32 × PS)} (hr_26 : ∀ (x1 : Int32) (x2 : Int32) (x3 : Int32) (σ : PS) (r : Int32 × PS), r26 x1 x2 x3 σ = some r → FRM SX9_holds σ r.2) (x1 : Int32) (x3 : Int32) (s0 : Int32) (σ : PS) (r : Int32 × PS) (h : fX9_holds_212 r26 x1 x3 s0 σ = some r) : FRM SX9_holds σ r.2 := by
  unfold fX9_holds_212 at h
  exact FRM.tr FRM.rf (frX9_holds_213 hr_26 x1 s0 x3 σ _ h)
theorem frX9_holds_76 {r26 : Int32 → Int32 → Int32 → PS → Option (Int32 × PS)} (hr_26 : ∀ (x1 : Int32) (x2 : Int32) (x3 : Int32) (σ : PS) (r : Int32 × PS), r26 x1 x2 x3 σ = some r → FRM SX9_holds σ r.2) (x1 : Int32) (x2 : Int32) (x3 : Int32) (x4 : Int32) (σ : PS) (r : Int32 × PS) (h : fX9_holds_76 r26 x1 x2 x3 x4 σ = some r) : FRM SX9_holds σ r.2 := by
  unfold fX9_holds_76 at h
  rcases ite_some h with ⟨hc, h⟩ | ⟨hc, h⟩
  · exact FRM.tr FRM.rf (frX9_holds_213 hr_26 x1 x2 x3 σ _ h)
  · obtain ⟨hi7, h⟩ := gd_some h
    obtain ⟨hi8, h⟩ := gd_some h
    obtain ⟨q9, e10, h⟩ := bind_some h
    try dsimp only at h
    have g11 := frX9_value _ _ _ _ e10
    obtain ⟨hi12, h⟩ := gd_some h
    obtain ⟨hi13, h⟩ := gd_some h
    obtain ⟨q14, e15, h⟩ := bind_some h
    try dsimp only at h
    have g16 := frX9_value _ _ _ _ e15
    obtain ⟨hi17, h⟩ := gd_some h
    rcases ite_some h with ⟨hc, h⟩ | ⟨hc, h⟩
    · rcases ite_some h with ⟨hc, h⟩ | ⟨hc, h⟩
      · exact FRM.tr (FRM.tr (FRM.tr FRM.rf (FRM.mono g11 (by decide))) (FRM.mono g16 (by decide))) (frX9_holds_212 hr_26 x1 x3 1 q14.2 _ h)
      · exact FRM.tr (FRM.tr (FRM.tr FRM.rf (FRM.mono g11 (by decide))) (FRM.mono g16 (by decide))) (frX9_holds_212 hr_26 x1 x3 0 q14.2 _ h)
    · obtain ⟨hi18, h⟩ := gd_some h
      rcases ite_some h with ⟨hc, h⟩ | ⟨hc, h⟩
      · rcases ite_some h with ⟨hc, h⟩ | ⟨hc, h⟩
        · exact FRM.tr (FRM.tr (FRM.tr FRM.rf (FRM.mono g11 (by decide))) (FRM.mono g16 (by decide))) (frX9_holds_212 hr_26 x1 x3 0 q14.2 _ h)
        · exact FRM.tr (FRM.tr (FRM.tr FRM.rf (FRM.mono g11 (by decide))) (FRM.mono g16 (by decide))) (frX9_holds_212 hr_26 x1 x3 1 q14.2 _ h)
      · obtain ⟨hi19, h⟩ := gd_some h
        rcases ite_some h with ⟨hc, h⟩ | ⟨hc, h⟩
        · rcases ite_some h with ⟨hc, h⟩ | ⟨hc, h⟩
          · exact FRM.tr (FRM.tr (FRM.tr FRM.rf (FRM.mono g11 (by decide))) (FRM.mono g16 (by decide))) (frX9_holds_212 hr_26 x1 x3 0 q14.2 _ h)
          · exact FRM.tr (FRM.tr (FRM.tr FRM.rf (FRM.mono g11 (by decide))) (FRM.mono g16 (by decide))) (frX9_holds_212 hr_26 x1 x3 1 q14.2 _ h)
        · rcases ite_some h with ⟨hc, h⟩ | ⟨hc, h⟩
          · exact FRM.tr (FRM.tr (FRM.tr FRM.rf (FRM.mono g11 (by decide))) (FRM.mono g16 (by decide))) (frX9_holds_212 hr_26 x1 x3 0 q14.2 _ h)
          · exact FRM.tr (FRM.tr (FRM.tr FRM.rf (FRM.mono g11 (by decide))) (FRM.mono g16 (by decide))) (frX9_holds_212 hr_26 x1 x3 1 q14.2 _ h)
theorem frX9_holds_64 {r26 : Int32 → Int32 → Int32 → PS → Option (Int32 × PS)} (hr_26 : ∀ (x1 : Int32) (x2 : Int32) (x3 : Int32) (σ : PS) (r : Int32 × PS), r26 x1 x2 x3 σ = some r → FRM SX9_holds σ r.2) (x1 : Int32) (x2 : Int32) (x3 : Int32) (x4 : Int32) (σ : PS) (r : Int32 × PS) (h : fX9_holds_64 r26 x1 x2 x3 x4 σ = some r) : FRM SX9_holds σ r.2 := by
  unfold fX9_holds_64 at h
  obtain ⟨hi6, h⟩ := gd_some h
  rcases ite_some h with ⟨hc, h⟩ | ⟨hc, h⟩
  · exact FRM.tr FRM.rf (frX9_holds_76 hr_26 x1 x2 x3 x4 σ _ h)
  · exact FRM.tr FRM.rf (frX9_holds_76 hr_26 x1 1 x3 x4 σ _ h)
theorem frX9_holds_26 : ∀ (n : Nat) (x1 : Int32) (x2 : Int32) (x3 : Int32) (σ : PS) (r : Int32 × PS), fX9_holds_26 n x1 x2 x3 σ = some r → FRM SX9_holds σ r.2 := by
  intro n
  induction n with
  | zero =>
    intro x1 x2 x3 σ r h
    rw [fX9_holds_26] at h
    cases h
  | succ n ih =>
    intro x1 x2 x3 σ r h
    rw [fX9_holds_26] at h
    obtain ⟨hi4, h⟩ := gd_some h
    rcases ite_some h with ⟨hc, h⟩ | ⟨hc, h⟩
    · obtain ⟨-, h⟩ := gd_some h
      cases h
      exact FRM.rf
    · obtain ⟨hi5, h⟩ := gd_some h
      rcases ite_some h with ⟨hc, h⟩ | ⟨hc, h⟩
      · exact FRM.tr FRM.rf (frX9_holds_64 ih x1 x2 x3 ((200 * (gi σ 132 18)) + x3) σ _ h)
      · rcases ite_some h with ⟨hc, h⟩ | ⟨hc, h⟩
        · exact FRM.tr FRM.rf (frX9_holds_64 ih x1 x2 x3 ((200 * (gi σ 132 18)) + x3) σ _ h)
        · cases h
          exact FRM.rf
theorem frX9_holds (a1 : Int32) (σ : PS) (r : Int32 × PS) (h : fX9_holds a1 σ = some r) : FRM SX9_holds σ r.2 := by
  unfold fX9_holds at h
  obtain ⟨hi1, h⟩ := gd_some h
  obtain ⟨hi2, h⟩ := gd_some h
  rcases ite_some h with ⟨hc, h⟩ | ⟨hc, h⟩
  · cases h
    exact FRM.rf
  · obtain ⟨hi3, h⟩ := gd_some h
    exact FRM.tr FRM.rf (frX9_holds_26 FU a1 0 (gi σ 145 (a1 : Int32).toNatClampNeg) σ _ h)

def SX9_says : List (Nat × Nat) := [(188, 188)]
theorem frX9_says_74 {r8 : Int32 → Int32 → Int32 → PS → Option (Int32 × PS)} (hr_8 : ∀ (x1 : Int32) (x2 : Int32) (x3 : Int32) (σ : PS) (r : Int32 × PS), r8 x1 x2 x3 σ = some r → FRM SX9_says σ r.2) (x1 : Int32) (x2 : Int32) (x3 : Int32) (σ : PS) (r : Int32 × PS) (h : fX9_says_74 r8 x1 x2 x3 σ = some r) : FRM SX9_says σ r.2 := by
  unfold fX9_says_74 at h
  exact FRM.tr FRM.rf (hr_8 x1 x2 (x3 + 1) σ _ h)
theorem frX9_says_8 : ∀ (n : Nat) (x1 : Int32) (x2 : Int32) (x3 : Int32) (σ : PS) (r : Int32 × PS), fX9_says_8 n x1 x2 x3 σ = some r → FRM SX9_says σ r.2 := by
  intro n
  induction n with
  | zero =>
    intro x1 x2 x3 σ r h
    rw [fX9_says_8] at h
    cases h
  | succ n ih =>
    intro x1 x2 x3 σ r h
    rw [fX9_says_8] at h
    obtain ⟨hi1, h⟩ := gd_some h
    rcases ite_some h with ⟨hc, h⟩ | ⟨hc, h⟩
    · cases h
      exact FRM.rf
    · obtain ⟨hi2, h⟩ := gd_some h
      rcases ite_some h with ⟨hc, h⟩ | ⟨hc, h⟩
      · obtain ⟨hi3, h⟩ := gd_some h
        rcases ite_some h with ⟨hc, h⟩ | ⟨hc, h⟩
        · obtain ⟨q4, e5, h⟩ := bind_some h
          try dsimp only at h
          have g6 := frX9_holds _ _ _ e5
          rcases ite_some h with ⟨hc, h⟩ | ⟨hc, h⟩
          · exact FRM.tr (FRM.tr FRM.rf (FRM.mono g6 (by decide))) (frX9_says_74 ih x1 x2 x3 q4.2 _ h)
          · obtain ⟨hi7, h⟩ := gd_some h
            obtain ⟨hi8, h⟩ := gd_some h
            obtain ⟨q9, e10, h⟩ := bind_some h
            try dsimp only at h
            have g11 := frX9_value _ _ _ _ e10
            cases h
            exact (FRM.tr (FRM.tr FRM.rf (FRM.mono g6 (by decide))) (FRM.mono g11 (by decide)))
        · exact FRM.tr FRM.rf (frX9_says_74 ih x1 x2 x3 σ _ h)
      · exact FRM.tr FRM.rf (frX9_says_74 ih x1 x2 x3 σ _ h)
theorem frX9_says (a1 : Int32) (a2 : Int32) (σ : PS) (r : Int32 × PS) (h : fX9_says a1 a2 σ = some r) : FRM SX9_says σ r.2 := by
  unfold fX9_says at h
  exact FRM.tr FRM.rf (frX9_says_8 FU a1 a2 (20 * (gi σ 132 18)) σ _ h)

def SX9_barOf : List (Nat × Nat) := [(188, 188)]
theorem frX9_barOf_69 {r2 : Int32 → Int32 → PS → Option (Int32 × PS)} (hr_2 : ∀ (x1 : Int32) (x2 : Int32) (σ : PS) (r : Int32 × PS), r2 x1 x2 σ = some r → FRM SX9_barOf σ r.2) (x1 : Int32) (x2 : Int32) (σ : PS) (r : Int32 × PS) (h : fX9_barOf_69 r2 x1 x2 σ = some r) : FRM SX9_barOf σ r.2 := by
  unfold fX9_barOf_69 at h
  exact FRM.tr FRM.rf (hr_2 x1 (x2 + 1) σ _ h)
theorem frX9_barOf_2 : ∀ (n : Nat) (x1 : Int32) (x2 : Int32) (σ : PS) (r : Int32 × PS), fX9_barOf_2 n x1 x2 σ = some r → FRM SX9_barOf σ r.2 := by
  intro n
  induction n with
  | zero =>
    intro x1 x2 σ r h
    rw [fX9_barOf_2] at h
    cases h
  | succ n ih =>
    intro x1 x2 σ r h
    rw [fX9_barOf_2] at h
    obtain ⟨hi1, h⟩ := gd_some h
    rcases ite_some h with ⟨hc, h⟩ | ⟨hc, h⟩
    · cases h
      exact FRM.rf
    · obtain ⟨hi2, h⟩ := gd_some h
      rcases ite_some h with ⟨hc, h⟩ | ⟨hc, h⟩
      · obtain ⟨hi3, h⟩ := gd_some h
        rcases ite_some h with ⟨hc, h⟩ | ⟨hc, h⟩
        · obtain ⟨q4, e5, h⟩ := bind_some h
          try dsimp only at h
          have g6 := frX9_holds _ _ _ e5
          rcases ite_some h with ⟨hc, h⟩ | ⟨hc, h⟩
          · exact FRM.tr (FRM.tr FRM.rf (FRM.mono g6 (by decide))) (frX9_barOf_69 ih x1 x2 q4.2 _ h)
          · cases h
            exact (FRM.tr FRM.rf (FRM.mono g6 (by decide)))
        · exact FRM.tr FRM.rf (frX9_barOf_69 ih x1 x2 σ _ h)
      · exact FRM.tr FRM.rf (frX9_barOf_69 ih x1 x2 σ _ h)
theorem frX9_barOf (a1 : Int32) (σ : PS) (r : Int32 × PS) (h : fX9_barOf a1 σ = some r) : FRM SX9_barOf σ r.2 := by
  unfold fX9_barOf at h
  exact FRM.tr FRM.rf (frX9_barOf_2 FU a1 0 σ _ h)

def SX9_isAhead : List (Nat × Nat) := []
theorem frX9_isAhead_91 : ∀ (n : Nat) (x2 : Int32) (x3 : Int32) (σ : PS) (r : Int32 × PS), fX9_isAhead_91 n x2 x3 σ = some r → FRM SX9_isAhead σ r.2 := by
  intro n
  induction n with
  | zero =>
    intro x2 x3 σ r h
    rw [fX9_isAhead_91] at h
    cases h
  | succ n ih =>
    intro x2 x3 σ r h
    rw [fX9_isAhead_91] at h
    rcases ite_some h with ⟨hc, h⟩ | ⟨hc, h⟩
    · cases h
      exact FRM.rf
    · obtain ⟨hi6, h⟩ := gd_some h
      obtain ⟨hi7, h⟩ := gd_some h
      rcases ite_some h with ⟨hc, h⟩ | ⟨hc, h⟩
      · exact FRM.tr FRM.rf (ih x2 (x3 + 1) σ _ h)
      · obtain ⟨hi8, h⟩ := gd_some h
        obtain ⟨hi9, h⟩ := gd_some h
        rcases ite_some h with ⟨hc, h⟩ | ⟨hc, h⟩
        · cases h
          exact FRM.rf
        · cases h
          exact FRM.rf
theorem frX9_isAhead_59 {r14 : Int32 → Int32 → Int32 → PS → Option (Int32 × PS)} (hr_14 : ∀ (x1 : Int32) (x2 : Int32) (x3 : Int32) (σ : PS) (r : Int32 × PS), r14 x1 x2 x3 σ = some r → FRM SX9_isAhead σ r.2) (x1 : Int32) (x2 : Int32) (x3 : Int32) (s0 : Int32) (s1 : Int32) (σ : PS) (r : Int32 × PS) (h : fX9_isAhead_59 r14 x1 x2 x3 s0 s1 σ = some r) : FRM SX9_isAhead σ r.2 := by
  unfold fX9_isAhead_59 at h
  rcases ite_some h with ⟨hc, h⟩ | ⟨hc, h⟩
  · exact FRM.tr FRM.rf (hr_14 x1 x2 (x3 + 1) σ _ h)
  · obtain ⟨hi10, h⟩ := gd_some h
    obtain ⟨hi11, h⟩ := gd_some h
    rcases ite_some h with ⟨hc, h⟩ | ⟨hc, h⟩
    · cases h
      exact FRM.rf
    · cases h
      exact FRM.rf
theorem frX9_isAhead_39 {r14 : Int32 → Int32 → Int32 → PS → Option (Int32 × PS)} (hr_14 : ∀ (x1 : Int32) (x2 : Int32) (x3 : Int32) (σ : PS) (r : Int32 × PS), r14 x1 x2 x3 σ = some r → FRM SX9_isAhead σ r.2) (x1 : Int32) (x2 : Int32) (x3 : Int32) (s0 : Int32) (σ : PS) (r : Int32 × PS) (h : fX9_isAhead_39 r14 x1 x2 x3 s0 σ = some r) : FRM SX9_isAhead σ r.2 := by
  unfold fX9_isAhead_39 at h
  obtain ⟨hi4, h⟩ := gd_some h
  obtain ⟨hi5, h⟩ := gd_some h
  rcases ite_some h with ⟨hc, h⟩ | ⟨hc, h⟩
  · exact FRM.tr FRM.rf (frX9_isAhead_59 hr_14 x1 x2 x3 s0 1 σ _ h)
  · exact FRM.tr FRM.rf (frX9_isAhead_59 hr_14 x1 x2 x3 s0 0 σ _ h)
theorem frX9_isAhead_14 : ∀ (n : Nat) (x1 : Int32) (x2 : Int32) (x3 : Int32) (σ : PS) (r : Int32 × PS), fX9_isAhead_14 n x1 x2 x3 σ = some r → FRM SX9_isAhead σ r.2 := by
  intro n
  induction n with
  | zero =>
    intro x1 x2 x3 σ r h
    rw [fX9_isAhead_14] at h
    cases h
  | succ n ih =>
    intro x1 x2 x3 σ r h
    rw [fX9_isAhead_14] at h
    rcases ite_some h with ⟨hc, h⟩ | ⟨hc, h⟩
    · exact FRM.tr FRM.rf (frX9_isAhead_91 FU x2 0 σ _ h)
    · obtain ⟨hi2, h⟩ := gd_some h
      obtain ⟨hi3, h⟩ := gd_some h
      rcases ite_some h with ⟨hc, h⟩ | ⟨hc, h⟩
      · exact FRM.tr FRM.rf (frX9_isAhead_39 ih x1 x2 x3 1 σ _ h)
      · exact FRM.tr FRM.rf (frX9_isAhead_39 ih x1 x2 x3 0 σ _ h)
theorem frX9_isAhead (a1 : Int32) (a2 : Int32) (σ : PS) (r : Int32 × PS) (h : fX9_isAhead a1 a2 σ = some r) : FRM SX9_isAhead σ r.2 := by
  unfold fX9_isAhead at h
  obtain ⟨hi1, h⟩ := gd_some h
  rcases ite_some h with ⟨hc, h⟩ | ⟨hc, h⟩
  · cases h
    exact FRM.rf
  · exact FRM.tr FRM.rf (frX9_isAhead_14 FU a1 a2 0 σ _ h)

def SX9_isWay : List (Nat × Nat) := []
theorem frX9_isWay_106 {r5 : Int32 → Int32 → Int32 → Int32 → PS → Option (Int32 × PS)} (hr_5 : ∀ (x1 : Int32) (x2 : Int32) (x3 : Int32) (x4 : Int32) (σ : PS) (r : Int32 × PS), r5 x1 x2 x3 x4 σ = some r → FRM SX9_isWay σ r.2) {r25 : Int32 → Int32 → Int32 → Int32 → Int32 → Int32 → Int32 → PS → Option (Int32 × PS)} (hr_25 : ∀ (x1 : Int32) (x2 : Int32) (x3 : Int32) (x4 : Int32) (x5 : Int32) (x6 : Int32) (x7 : Int32) (σ : PS) (r : Int32 × PS), r25 x1 x2 x3 x4 x5 x6 x7 σ = some r → FRM SX9_isWay σ r.2) (x1 : Int32) (x2 : Int32) (x3 : Int32) (x4 : Int32) (x5 : Int32) (x6 : Int32) (x7 : Int32) (σ : PS) (r : Int32 × PS) (h : fX9_isWay_106 r5 r25 x1 x2 x3 x4 x5 x6 x7 σ = some r) : FRM SX9_isWay σ r.2 := by
  unfold fX9_isWay_106 at h
  exact FRM.tr FRM.rf (hr_25 x1 x2 x3 x4 x5 x6 (x7 + 1) σ _ h)
theorem frX9_isWay_70 {r5 : Int32 → Int32 → Int32 → Int32 → PS → Option (Int32 × PS)} (hr_5 : ∀ (x1 : Int32) (x2 : Int32) (x3 : Int32) (x4 : Int32) (σ : PS) (r : Int32 × PS), r5 x1 x2 x3 x4 σ = some r → FRM SX9_isWay σ r.2) {r25 : Int32 → Int32 → Int32 → Int32 → Int32 → Int32 → Int32 → PS → Option (Int32 × PS)} (hr_25 : ∀ (x1 : Int32) (x2 : Int32) (x3 : Int32) (x4 : Int32) (x5 : Int32) (x6 : Int32) (x7 : Int32) (σ : PS) (r : Int32 × PS), r25 x1 x2 x3 x4 x5 x6 x7 σ = some r → FRM SX9_isWay σ r.2) (x1 : Int32) (x2 : Int32) (x3 : Int32) (x4 : Int32) (x5 : Int32) (x6 : Int32) (x7 : Int32) (x8 : Int32) (σ : PS) (r : Int32 × PS) (h : fX9_isWay_70 r5 r25 x1 x2 x3 x4 x5 x6 x7 x8 σ = some r) : FRM SX9_isWay σ r.2 := by
  unfold fX9_isWay_70 at h
  obtain ⟨hi7, h⟩ := gd_some h
  rcases ite_some h with ⟨hc, h⟩ | ⟨hc, h⟩
  · obtain ⟨hi8, h⟩ := gd_some h
    obtain ⟨hi9, h⟩ := gd_some h
    exact FRM.tr FRM.rf (frX9_isWay_106 hr_5 hr_25 x1 x2 (x3 + (gi σ 162 (x8 : Int32).toNatClampNeg)) x4 (x5 + (gi σ 163 (x8 : Int32).toNatClampNeg)) x6 x7 σ _ h)
  · cases h
    exact FRM.rf
theorem frX9_isWay_25 {r5 : Int32 → Int32 → Int32 → Int32 → PS → Option (Int32 × PS)} (hr_5 : ∀ (x1 : Int32) (x2 : Int32) (x3 : Int32) (x4 : Int32) (σ : PS) (r : Int32 × PS), r5 x1 x2 x3 x4 σ = some r → FRM SX9_isWay σ r.2) : ∀ (n : Nat) (x1 : Int32) (x2 : Int32) (x3 : Int32) (x4 : Int32) (x5 : Int32) (x6 : Int32) (x7 : Int32) (σ : PS) (r : Int32 × PS), fX9_isWay_25 r5 n x1 x2 x3 x4 x5 x6 x7 σ = some r → FRM SX9_isWay σ r.2 := by
  intro n
  induction n with
  | zero =>
    intro x1 x2 x3 x4 x5 x6 x7 σ r h
    rw [fX9_isWay_25] at h
    cases h
  | succ n ih =>
    intro x1 x2 x3 x4 x5 x6 x7 σ r h
    rw [fX9_isWay_25] at h
    rcases ite_some h with ⟨hc, h⟩ | ⟨hc, h⟩
    · obtain ⟨hi3, h⟩ := gd_some h
      rcases ite_some h with ⟨hc, h⟩ | ⟨hc, h⟩
      · exact FRM.tr FRM.rf (hr_5 x1 x2 x3 (x4 + 1) σ _ h)
      · cases h
        exact FRM.rf
    · obtain ⟨hi4, h⟩ := gd_some h
      rcases ite_some h with ⟨hc, h⟩ | ⟨hc, h⟩
      · obtain ⟨hi5, h⟩ := gd_some h
        rcases ite_some h with ⟨hc, h⟩ | ⟨hc, h⟩
        · obtain ⟨hi6, h⟩ := gd_some h
          exact FRM.tr FRM.rf (frX9_isWay_70 hr_5 ih x1 x2 x3 x4 x5 (gi σ 161 ((gi σ 189 (x7 : Int32).toNatClampNeg) : Int32).toNatClampNeg) x7 (gi σ 189 (x7 : Int32).toNatClampNeg) σ _ h)
        · exact FRM.tr FRM.rf (frX9_isWay_70 hr_5 ih x1 x2 x3 x4 x5 x6 x7 (gi σ 189 (x7 : Int32).toNatClampNeg) σ _ h)
      · exact FRM.tr FRM.rf (frX9_isWay_106 hr_5 ih x1 x2 x3 x4 x5 x6 x7 σ _ h)
theorem frX9_isWay_5 : ∀ (n : Nat) (x1 : Int32) (x2 : Int32) (x3 : Int32) (x4 : Int32) (σ : PS) (r : Int32 × PS), fX9_isWay_5 n x1 x2 x3 x4 σ = some r → FRM SX9_isWay σ r.2 := by
  intro n
  induction n with
  | zero =>
    intro x1 x2 x3 x4 σ r h
    rw [fX9_isWay_5] at h
    cases h
  | succ n ih =>
    intro x1 x2 x3 x4 σ r h
    rw [fX9_isWay_5] at h
    obtain ⟨hi1, h⟩ := gd_some h
    rcases ite_some h with ⟨hc, h⟩ | ⟨hc, h⟩
    · obtain ⟨hi2, h⟩ := gd_some h
      rcases ite_some h with ⟨hc, h⟩ | ⟨hc, h⟩
      · cases h
        exact FRM.rf
      · cases h
        exact FRM.rf
    · exact FRM.tr FRM.rf (frX9_isWay_25 ih FU x1 x2 x3 x4 0 (-1) 0 σ _ h)
theorem frX9_isWay (a1 : Int32) (a2 : Int32) (σ : PS) (r : Int32 × PS) (h : fX9_isWay a1 a2 σ = some r) : FRM SX9_isWay σ r.2 := by
  unfold fX9_isWay at h
  exact FRM.tr FRM.rf (frX9_isWay_5 FU a1 a2 0 0 σ _ h)

def SX9_lays : List (Nat × Nat) := [(190, 191)]
theorem frX9_lays_154 {r37 : Int32 → Int32 → Int32 → PS → Option (PS)} (hr_37 : ∀ (x1 : Int32) (x2 : Int32) (x3 : Int32) (σ : PS) (r : PS), r37 x1 x2 x3 σ = some r → FRM SX9_lays σ r) (x1 : Int32) (x2 : Int32) (x3 : Int32) (σ : PS) (r : PS) (h : fX9_lays_154 r37 x1 x2 x3 σ = some r) : FRM SX9_lays σ r := by
  unfold fX9_lays_154 at h
  exact FRM.tr FRM.rf (hr_37 x1 x2 x3 σ _ h)
theorem frX9_lays_138 {r37 : Int32 → Int32 → Int32 → PS → Option (PS)} (hr_37 : ∀ (x1 : Int32) (x2 : Int32) (x3 : Int32) (σ : PS) (r : PS), r37 x1 x2 x3 σ = some r → FRM SX9_lays σ r) (x1 : Int32) (x2 : Int32) (x4 : Int32) (s0 : Int32) (σ : PS) (r : PS) (h : fX9_lays_138 r37 x1 x2 x4 s0 σ = some r) : FRM SX9_lays σ r := by
  unfold fX9_lays_138 at h
  rcases ite_some h with ⟨hc, h⟩ | ⟨hc, h⟩
  · exact FRM.tr FRM.rf (frX9_lays_154 hr_37 x1 x2 s0 σ _ h)
  · obtain ⟨hi14, h⟩ := gd_some h
    obtain ⟨hi15, h⟩ := gd_some h
    exact FRM.tr (FRM.i FRM.rf (by decide)) (frX9_lays_154 hr_37 x1 x2 s0 (sI σ 190 (x4 : Int32).toNatClampNeg ((gi σ 190 (x4 : Int32).toNatClampNeg) + 1)) _ h)
theorem frX9_lays_128 {r37 : Int32 → Int32 → Int32 → PS → Option (PS)} (hr_37 : ∀ (x1 : Int32) (x2 : Int32) (x3 : Int32) (σ : PS) (r : PS), r37 x1 x2 x3 σ = some r → FRM SX9_lays σ r) (x1 : Int32) (x2 : Int32) (x4 : Int32) (σ : PS) (r : PS) (h : fX9_lays_128 r37 x1 x2 x4 σ = some r) : FRM SX9_lays σ r := by
  unfold fX9_lays_128 at h
  rcases ite_some h with ⟨hc, h⟩ | ⟨hc, h⟩
  · exact FRM.tr FRM.rf (frX9_lays_138 hr_37 x1 x2 x4 0 σ _ h)
  · exact FRM.tr FRM.rf (frX9_lays_138 hr_37 x1 x2 x4 1 σ _ h)
theorem frX9_lays_93 {r37 : Int32 → Int32 → Int32 → PS → Option (PS)} (hr_37 : ∀ (x1 : Int32) (x2 : Int32) (x3 : Int32) (σ : PS) (r : PS), r37 x1 x2 x3 σ = some r → FRM SX9_lays σ r) : ∀ (n : Nat) (x1 : Int32) (x2 : Int32) (x4 : Int32) (σ : PS) (r : PS), fX9_lays_93 r37 n x1 x2 x4 σ = some r → FRM SX9_lays σ r := by
  intro n
  induction n with
  | zero =>
    intro x1 x2 x4 σ r h
    rw [fX9_lays_93] at h
    cases h
  | succ n ih =>
    intro x1 x2 x4 σ r h
    rw [fX9_lays_93] at h
    rcases ite_some h with ⟨hc, h⟩ | ⟨hc, h⟩
    · exact FRM.tr FRM.rf (frX9_lays_128 hr_37 x1 x2 x4 σ _ h)
    · obtain ⟨hi11, h⟩ := gd_some h
      obtain ⟨hi12, h⟩ := gd_some h
      rcases ite_some h with ⟨hc, h⟩ | ⟨hc, h⟩
      · obtain ⟨hi13, h⟩ := gd_some h
        exact FRM.tr (FRM.i FRM.rf (by decide)) (ih x1 x2 (x4 + (-1)) (sI σ 190 (x4 : Int32).toNatClampNeg 0) _ h)
      · exact FRM.tr FRM.rf (frX9_lays_128 hr_37 x1 x2 x4 σ _ h)
theorem frX9_lays_88 {r37 : Int32 → Int32 → Int32 → PS → Option (PS)} (hr_37 : ∀ (x1 : Int32) (x2 : Int32) (x3 : Int32) (σ : PS) (r : PS), r37 x1 x2 x3 σ = some r → FRM SX9_lays σ r) (x1 : Int32) (x2 : Int32) (σ : PS) (r : PS) (h : fX9_lays_88 r37 x1 x2 σ = some r) : FRM SX9_lays σ r := by
  unfold fX9_lays_88 at h
  exact FRM.tr FRM.rf (frX9_lays_93 hr_37 FU x1 x2 (x2 - 1) σ _ h)
theorem frX9_lays_62 {r37 : Int32 → Int32 → Int32 → PS → Option (PS)} (hr_37 : ∀ (x1 : Int32) (x2 : Int32) (x3 : Int32) (σ : PS) (r : PS), r37 x1 x2 x3 σ = some r → FRM SX9_lays σ r) : ∀ (n : Nat) (x1 : Int32) (x2 : Int32) (x4 : Int32) (σ : PS) (r : PS), fX9_lays_62 r37 n x1 x2 x4 σ = some r → FRM SX9_lays σ r := by
  intro n
  induction n with
  | zero =>
    intro x1 x2 x4 σ r h
    rw [fX9_lays_62] at h
    cases h
  | succ n ih =>
    intro x1 x2 x4 σ r h
    rw [fX9_lays_62] at h
    rcases ite_some h with ⟨hc, h⟩ | ⟨hc, h⟩
    · exact FRM.tr FRM.rf (frX9_lays_88 hr_37 x1 x2 σ _ h)
    · obtain ⟨hi9, h⟩ := gd_some h
      obtain ⟨hi10, h⟩ := gd_some h
      exact FRM.tr (FRM.i FRM.rf (by decide)) (ih x1 x2 (x4 + 1) (sI σ 191 (x4 : Int32).toNatClampNeg (gi σ 190 (x4 : Int32).toNatClampNeg)) _ h)
theorem frX9_lays_37 : ∀ (n : Nat) (x1 : Int32) (x2 : Int32) (x3 : Int32) (σ : PS) (r : PS), fX9_lays_37 n x1 x2 x3 σ = some r → FRM SX9_lays σ r := by
  intro n
  induction n with
  | zero =>
    intro x1 x2 x3 σ r h
    rw [fX9_lays_37] at h
    cases h
  | succ n ih =>
    intro x1 x2 x3 σ r h
    rw [fX9_lays_37] at h
    rcases ite_some h with ⟨hc, h⟩ | ⟨hc, h⟩
    · cases h
      exact FRM.rf
    · obtain ⟨q3, e4, h⟩ := bind_some h
      try dsimp only at h
      have g5 := frX9_isWay _ _ _ _ e4
      rcases ite_some h with ⟨hc, h⟩ | ⟨hc, h⟩
      · exact FRM.tr (FRM.tr FRM.rf (FRM.mono g5 (by decide))) (frX9_lays_88 ih x1 x2 q3.2 _ h)
      · obtain ⟨q6, e7, h⟩ := bind_some h
        try dsimp only at h
        have g8 := frX9_isAhead _ _ _ _ e7
        rcases ite_some h with ⟨hc, h⟩ | ⟨hc, h⟩
        · exact FRM.tr (FRM.tr (FRM.tr FRM.rf (FRM.mono g5 (by decide))) (FRM.mono g8 (by decide))) (frX9_lays_88 ih x1 x2 q6.2 _ h)
        · exact FRM.tr (FRM.tr (FRM.tr FRM.rf (FRM.mono g5 (by decide))) (FRM.mono g8 (by decide))) (frX9_lays_62 ih FU x1 x2 0 q6.2 _ h)
theorem frX9_lays_36 (x1 : Int32) (x2 : Int32) (s0 : Int32) (σ : PS) (r : PS) (h : fX9_lays_36 x1 x2 s0 σ = some r) : FRM SX9_lays σ r := by
  unfold fX9_lays_36 at h
  exact FRM.tr FRM.rf (frX9_lays_37 FU x1 x2 s0 σ _ h)
theorem frX9_lays_2 : ∀ (n : Nat) (x1 : Int32) (x2 : Int32) (x3 : Int32) (σ : PS) (r : PS), fX9_lays_2 n x1 x2 x3 σ = some r → FRM SX9_lays σ r := by
  intro n
  induction n with
  | zero =>
    intro x1 x2 x3 σ r h
    rw [fX9_lays_2] at h
    cases h
  | succ n ih =>
    intro x1 x2 x3 σ r h
    rw [fX9_lays_2] at h
    rcases ite_some h with ⟨hc, h⟩ | ⟨hc, h⟩
    · rcases ite_some h with ⟨hc, h⟩ | ⟨hc, h⟩
      · exact FRM.tr FRM.rf (frX9_lays_36 x1 x2 0 σ _ h)
      · exact FRM.tr FRM.rf (frX9_lays_36 x1 x2 1 σ _ h)
    · obtain ⟨hi1, h⟩ := gd_some h
      obtain ⟨hi2, h⟩ := gd_some h
      exact FRM.tr (FRM.i (FRM.i FRM.rf (by decide)) (by decide)) (ih x1 x2 (x3 + 1) (sI (sI σ 190 (x3 : Int32).toNatClampNeg 0) 191 (x3 : Int32).toNatClampNeg (-1)) _ h)
theorem frX9_lays (a1 : Int32) (a2 : Int32) (σ : PS) (r : PS) (h : fX9_lays a1 a2 σ = some r) : FRM SX9_lays σ r := by
  unfold fX9_lays at h
  exact FRM.tr FRM.rf (frX9_lays_2 FU a1 a2 0 σ _ h)

def SX9_evening : List (Nat × Nat) := [(173, 173), (177, 177), (179, 179), (183, 184), (187, 192)]
theorem frX9_evening_343 {r282 : Int32 → Int32 → Int32 → Int32 → Int32 → PS → Option (PS)} (hr_282 : ∀ (x1 : Int32) (x2 : Int32) (x3 : Int32) (x4 : Int32) (x5 : Int32) (σ : PS) (r : PS), r282 x1 x2 x3 x4 x5 σ = some r → FRM SX9_evening σ r) (x1 : Int32) (x2 : Int32) (x3 : Int32) (x4 : Int32) (x5 : Int32) (σ : PS) (r : PS) (h : fX9_evening_343 r282 x1 x2 x3 x4 x5 σ = some r) : FRM SX9_evening σ r := by
  unfold fX9_evening_343 at h
  exact FRM.tr FRM.rf (hr_282 x1 x2 x3 x4 (x5 + 1) σ _ h)
theorem frX9_evening_282 : ∀ (n : Nat) (x1 : Int32) (x2 : Int32) (x3 : Int32) (x4 : Int32) (x5 : Int32) (σ : PS) (r : PS), fX9_evening_282 n x1 x2 x3 x4 x5 σ = some r → FRM SX9_evening σ r := by
  intro n
  induction n with
  | zero =>
    intro x1 x2 x3 x4 x5 σ r h
    rw [fX9_evening_282] at h
    cases h
  | succ n ih =>
    intro x1 x2 x3 x4 x5 σ r h
    rw [fX9_evening_282] at h
    rcases ite_some h with ⟨hc, h⟩ | ⟨hc, h⟩
    · obtain ⟨hi31, h⟩ := gd_some h
      cases h
      exact (FRM.i FRM.rf (by decide))
    · obtain ⟨hi32, h⟩ := gd_some h
      obtain ⟨hi33, h⟩ := gd_some h
      rcases ite_some h with ⟨hc, h⟩ | ⟨hc, h⟩
      · obtain ⟨hi34, h⟩ := gd_some h
        obtain ⟨hi35, h⟩ := gd_some h
        exact FRM.tr (FRM.i FRM.rf (by decide)) (frX9_evening_343 ih x1 x2 x3 (x4 - (gi σ 162 ((gi σ 189 (x5 : Int32).toNatClampNeg) : Int32).toNatClampNeg)) x5 (sI σ 183 ((gi σ 189 (x5 : Int32).toNatClampNeg) : Int32).toNatClampNeg 0) _ h)
      · obtain ⟨hi36, h⟩ := gd_some h
        obtain ⟨hi37, h⟩ := gd_some h
        exact FRM.tr (FRM.i FRM.rf (by decide)) (frX9_evening_343 ih x1 x2 x3 x4 x5 (sI σ 183 ((gi σ 189 (x5 : Int32).toNatClampNeg) : Int32).toNatClampNeg ((gi σ 183 ((gi σ 189 (x5 : Int32).toNatClampNeg) : Int32).toNatClampNeg) + 1)) _ h)
theorem frX9_evening_279 (x1 : Int32) (x2 : Int32) (x3 : Int32) (x4 : Int32) (σ : PS) (r : PS) (h : fX9_evening_279 x1 x2 x3 x4 σ = some r) : FRM SX9_evening σ r := by
  unfold fX9_evening_279 at h
  exact FRM.tr FRM.rf (frX9_evening_282 FU x1 x2 x3 x4 0 σ _ h)
theorem frX9_evening_257 (x1 : Int32) (x2 : Int32) (x3 : Int32) (s0 : Int32) (σ : PS) (r : PS) (h : fX9_evening_257 x1 x2 x3 s0 σ = some r) : FRM SX9_evening σ r := by
  unfold fX9_evening_257 at h
  obtain ⟨hi30, h⟩ := gd_some h
  rcases ite_some h with ⟨hc, h⟩ | ⟨hc, h⟩
  · exact FRM.tr FRM.rf (frX9_evening_279 x1 x2 x3 (s0 + (gi σ 158 (x1 : Int32).toNatClampNeg)) σ _ h)
  · exact FRM.tr FRM.rf (frX9_evening_279 x1 x2 x3 200 σ _ h)
theorem frX9_evening_230 {r149 : Int32 → Int32 → Int32 → Int32 → PS → Option (PS)} (hr_149 : ∀ (x1 : Int32) (x2 : Int32) (x3 : Int32) (x4 : Int32) (σ : PS) (r : PS), r149 x1 x2 x3 x4 σ = some r → FRM SX9_evening σ r) (x1 : Int32) (x2 : Int32) (x3 : Int32) (x4 : Int32) (σ : PS) (r : PS) (h : fX9_evening_230 r149 x1 x2 x3 x4 σ = some r) : FRM SX9_evening σ r := by
  unfold fX9_evening_230 at h
  exact FRM.tr FRM.rf (hr_149 x1 x2 x3 (x4 + 1) σ _ h)
theorem frX9_evening_202 {r149 : Int32 → Int32 → Int32 → Int32 → PS → Option (PS)} (hr_149 : ∀ (x1 : Int32) (x2 : Int32) (x3 : Int32) (x4 : Int32) (σ : PS) (r : PS), r149 x1 x2 x3 x4 σ = some r → FRM SX9_evening σ r) (x1 : Int32) (x2 : Int32) (x3 : Int32) (x4 : Int32) (x5 : Int32) (s1 : Int32) (s2 : Int32) (σ : PS) (r : PS) (h : fX9_evening_202 r149 x1 x2 x3 x4 x5 s1 s2 σ = some r) : FRM SX9_evening σ r := by
  unfold fX9_evening_202 at h
  obtain ⟨hi25, h⟩ := gd_some h
  obtain ⟨hi26, h⟩ := gd_some h
  obtain ⟨hi27, h⟩ := gd_some h
  rcases ite_some h with ⟨hc, h⟩ | ⟨hc, h⟩
  · obtain ⟨hi28, h⟩ := gd_some h
    obtain ⟨hi29, h⟩ := gd_some h
    exact FRM.tr (FRM.i (FRM.i FRM.rf (by decide)) (by decide)) (frX9_evening_230 hr_149 x1 x2 x3 x4 (sI (sI σ 173 (s1 : Int32).toNatClampNeg s2) 184 (x5 : Int32).toNatClampNeg ((gi (sI σ 173 (s1 : Int32).toNatClampNeg s2) 184 (x5 : Int32).toNatClampNeg) + 1)) _ h)
  · exact FRM.tr (FRM.i FRM.rf (by decide)) (frX9_evening_230 hr_149 x1 x2 x3 x4 (sI σ 173 (s1 : Int32).toNatClampNeg s2) _ h)
theorem frX9_evening_149 : ∀ (n : Nat) (x1 : Int32) (x2 : Int32) (x3 : Int32) (x4 : Int32) (σ : PS) (r : PS), fX9_evening_149 n x1 x2 x3 x4 σ = some r → FRM SX9_evening σ r := by
  intro n
  induction n with
  | zero =>
    intro x1 x2 x3 x4 σ r h
    rw [fX9_evening_149] at h
    cases h
  | succ n ih =>
    intro x1 x2 x3 x4 σ r h
    rw [fX9_evening_149] at h
    rcases ite_some h with ⟨hc, h⟩ | ⟨hc, h⟩
    · rcases ite_some h with ⟨hc, h⟩ | ⟨hc, h⟩
      · exact FRM.tr FRM.rf (frX9_evening_257 x1 x2 x3 0 σ _ h)
      · obtain ⟨hi19, h⟩ := gd_some h
        exact FRM.tr FRM.rf (frX9_evening_257 x1 x2 x3 (gi σ 179 ((((60 * x1) + x2) - 1) : Int32).toNatClampNeg) σ _ h)
    · obtain ⟨hi20, h⟩ := gd_some h
      obtain ⟨hi21, h⟩ := gd_some h
      obtain ⟨hi22, h⟩ := gd_some h
      rcases ite_some h with ⟨hc, h⟩ | ⟨hc, h⟩
      · exact FRM.tr FRM.rf (frX9_evening_202 ih x1 x2 x3 x4 (gi σ 189 (x4 : Int32).toNatClampNeg) ((60 * (gi σ 189 (x4 : Int32).toNatClampNeg)) + x2) (-1) σ _ h)
      · obtain ⟨hi23, h⟩ := gd_some h
        exact FRM.tr FRM.rf (frX9_evening_202 ih x1 x2 x3 x4 (gi σ 189 (x4 : Int32).toNatClampNeg) ((60 * (gi σ 189 (x4 : Int32).toNatClampNeg)) + x2) (gi σ 191 (x4 : Int32).toNatClampNeg) σ _ h)
theorem frX9_evening_134 {r5 : Int32 → Int32 → Int32 → Int32 → PS → Option (PS)} (hr_5 : ∀ (x1 : Int32) (x2 : Int32) (x3 : Int32) (x4 : Int32) (σ : PS) (r : PS), r5 x1 x2 x3 x4 σ = some r → FRM SX9_evening σ r) (x1 : Int32) (x2 : Int32) (x3 : Int32) (x4 : Int32) (σ : PS) (r : PS) (h : fX9_evening_134 r5 x1 x2 x3 x4 σ = some r) : FRM SX9_evening σ r := by
  unfold fX9_evening_134 at h
  exact FRM.tr FRM.rf (hr_5 x1 x2 x3 (x4 + 1) σ _ h)
theorem frX9_evening_122 {r5 : Int32 → Int32 → Int32 → Int32 → PS → Option (PS)} (hr_5 : ∀ (x1 : Int32) (x2 : Int32) (x3 : Int32) (x4 : Int32) (σ : PS) (r : PS), r5 x1 x2 x3 x4 σ = some r → FRM SX9_evening σ r) (x1 : Int32) (x2 : Int32) (x3 : Int32) (x4 : Int32) (x5 : Int32) (σ : PS) (r : PS) (h : fX9_evening_122 r5 x1 x2 x3 x4 x5 σ = some r) : FRM SX9_evening σ r := by
  unfold fX9_evening_122 at h
  obtain ⟨hi24, h⟩ := gd_some h
  exact FRM.tr (FRM.i FRM.rf (by decide)) (frX9_evening_134 hr_5 x1 x2 (x3 + 1) x4 (sI σ 189 (x5 : Int32).toNatClampNeg x4) _ h)
theorem frX9_evening_71 {r5 : Int32 → Int32 → Int32 → Int32 → PS → Option (PS)} (hr_5 : ∀ (x1 : Int32) (x2 : Int32) (x3 : Int32) (x4 : Int32) (σ : PS) (r : PS), r5 x1 x2 x3 x4 σ = some r → FRM SX9_evening σ r) : ∀ (n : Nat) (x1 : Int32) (x2 : Int32) (x3 : Int32) (x4 : Int32) (x5 : Int32) (σ : PS) (r : PS), fX9_evening_71 r5 n x1 x2 x3 x4 x5 σ = some r → FRM SX9_evening σ r := by
  intro n
  induction n with
  | zero =>
    intro x1 x2 x3 x4 x5 σ r h
    rw [fX9_evening_71] at h
    cases h
  | succ n ih =>
    intro x1 x2 x3 x4 x5 σ r h
    rw [fX9_evening_71] at h
    rcases ite_some h with ⟨hc, h⟩ | ⟨hc, h⟩
    · exact FRM.tr FRM.rf (frX9_evening_122 hr_5 x1 x2 x3 x4 x5 σ _ h)
    · obtain ⟨hi14, h⟩ := gd_some h
      obtain ⟨hi15, h⟩ := gd_some h
      obtain ⟨hi16, h⟩ := gd_some h
      rcases ite_some h with ⟨hc, h⟩ | ⟨hc, h⟩
      · exact FRM.tr FRM.rf (frX9_evening_122 hr_5 x1 x2 x3 x4 x5 σ _ h)
      · obtain ⟨hi17, h⟩ := gd_some h
        obtain ⟨hi18, h⟩ := gd_some h
        exact FRM.tr (FRM.i FRM.rf (by decide)) (ih x1 x2 x3 x4 (x5 + (-1)) (sI σ 189 (x5 : Int32).toNatClampNeg (gi σ 189 ((x5 - 1) : Int32).toNatClampNeg)) _ h)
theorem frX9_evening_5 : ∀ (n : Nat) (x1 : Int32) (x2 : Int32) (x3 : Int32) (x4 : Int32) (σ : PS) (r : PS), fX9_evening_5 n x1 x2 x3 x4 σ = some r → FRM SX9_evening σ r := by
  intro n
  induction n with
  | zero =>
    intro x1 x2 x3 x4 σ r h
    rw [fX9_evening_5] at h
    cases h
  | succ n ih =>
    intro x1 x2 x3 x4 σ r h
    rw [fX9_evening_5] at h
    rcases ite_some h with ⟨hc, h⟩ | ⟨hc, h⟩
    · obtain ⟨q1, e2, h⟩ := bind_some h
      try dsimp only at h
      have g3 := frX9_lays _ _ _ _ e2
      exact FRM.tr (FRM.tr FRM.rf (FRM.mono g3 (by decide))) (frX9_evening_149 FU x1 x2 x3 0 q1 _ h)
    · obtain ⟨hi4, h⟩ := gd_some h
      rcases ite_some h with ⟨hc, h⟩ | ⟨hc, h⟩
      · obtain ⟨q5, e6, h⟩ := bind_some h
        try dsimp only at h
        have g7 := frX9_asks _ _ _ _ _ e6
        obtain ⟨q8, e9, h⟩ := bind_some h
        try dsimp only at h
        have g10 := frX9_says _ _ _ _ e9
        obtain ⟨hi11, h⟩ := gd_some h
        obtain ⟨hi12, h⟩ := gd_some h
        obtain ⟨hi13, h⟩ := gd_some h
        exact FRM.tr (FRM.i (FRM.i (FRM.tr (FRM.tr FRM.rf (FRM.mono g7 (by decide))) (FRM.mono g10 (by decide))) (by decide)) (by decide)) (frX9_evening_71 ih FU x1 x2 x3 x4 x3 (sI (sI q8.2 192 (x4 : Int32).toNatClampNeg q8.1) 177 (((60 * x4) + x2) : Int32).toNatClampNeg (gi (sI q8.2 192 (x4 : Int32).toNatClampNeg q8.1) 192 (x4 : Int32).toNatClampNeg)) _ h)
      · exact FRM.tr FRM.rf (frX9_evening_134 ih x1 x2 x3 x4 σ _ h)
theorem frX9_evening (a1 : Int32) (a2 : Int32) (σ : PS) (r : PS) (h : fX9_evening a1 a2 σ = some r) : FRM SX9_evening σ r := by
  unfold fX9_evening at h
  exact FRM.tr FRM.rf (frX9_evening_5 FU a1 a2 0 0 σ _ h)

def SX9_morning : List (Nat × Nat) := [(178, 178), (182, 182), (185, 188)]
theorem frX9_morning_78 (x1 : Int32) (x2 : Int32) (x3 : Int32) (s0 : Int32) (σ : PS) (r : PS) (h : fX9_morning_78 x1 x2 x3 s0 σ = some r) : FRM SX9_morning σ r := by
  unfold fX9_morning_78 at h
  obtain ⟨q9, e10, h⟩ := bind_some h
  try dsimp only at h
  have g11 := frX9_asks _ _ _ _ _ e10
  obtain ⟨hi12, h⟩ := gd_some h
  obtain ⟨q13, e14, h⟩ := bind_some h
  try dsimp only at h
  have g15 := frX9_barOf _ _ _ e14
  obtain ⟨hi16, h⟩ := gd_some h
  obtain ⟨hi17, h⟩ := gd_some h
  rcases ite_some h with ⟨hc, h⟩ | ⟨hc, h⟩
  · obtain ⟨hi18, h⟩ := gd_some h
    rcases ite_some h with ⟨hc, h⟩ | ⟨hc, h⟩
    · obtain ⟨hi19, h⟩ := gd_some h
      rcases ite_some h with ⟨hc, h⟩ | ⟨hc, h⟩
      · obtain ⟨hi20, h⟩ := gd_some h
        obtain ⟨hi21, h⟩ := gd_some h
        obtain ⟨hi22, h⟩ := gd_some h
        rcases ite_some h with ⟨hc, h⟩ | ⟨hc, h⟩
        · obtain ⟨hi23, h⟩ := gd_some h
          cases h
          exact (FRM.i (FRM.i (FRM.tr (FRM.tr FRM.rf (FRM.mono g11 (by decide))) (FRM.mono g15 (by decide))) (by decide)) (by decide))
        · obtain ⟨hi24, h⟩ := gd_some h
          obtain ⟨q25, e26, h⟩ := bind_some h
          try dsimp only at h
          have g27 := frX9_says _ _ _ _ e26
          rcases ite_some h with ⟨hc, h⟩ | ⟨hc, h⟩
          · obtain ⟨hi28, h⟩ := gd_some h
            cases h
            exact (FRM.i (FRM.tr (FRM.i (FRM.tr (FRM.tr FRM.rf (FRM.mono g11 (by decide))) (FRM.mono g15 (by decide))) (by decide)) (FRM.mono g27 (by decide))) (by decide))
          · obtain ⟨hi29, h⟩ := gd_some h
            obtain ⟨hi30, h⟩ := gd_some h
            obtain ⟨hi31, h⟩ := gd_some h
            obtain ⟨hi32, h⟩ := gd_some h
            obtain ⟨hi33, h⟩ := gd_some h
            obtain ⟨hi34, h⟩ := gd_some h
            cases h
            exact (FRM.i (FRM.i (FRM.i (FRM.tr (FRM.i (FRM.tr (FRM.tr FRM.rf (FRM.mono g11 (by decide))) (FRM.mono g15 (by decide))) (by decide)) (FRM.mono g27 (by decide))) (by decide)) (by decide)) (by decide))
      · cases h
        exact (FRM.i (FRM.tr (FRM.tr FRM.rf (FRM.mono g11 (by decide))) (FRM.mono g15 (by decide))) (by decide))
    · cases h
      exact (FRM.i (FRM.tr (FRM.tr FRM.rf (FRM.mono g11 (by decide))) (FRM.mono g15 (by decide))) (by decide))
  · cases h
    exact (FRM.i (FRM.tr (FRM.tr FRM.rf (FRM.mono g11 (by decide))) (FRM.mono g15 (by decide))) (by decide))
theorem frX9_morning_57 (x1 : Int32) (x2 : Int32) (s0 : Int32) (σ : PS) (r : PS) (h : fX9_morning_57 x1 x2 s0 σ = some r) : FRM SX9_morning σ r := by
  unfold fX9_morning_57 at h
  obtain ⟨hi7, h⟩ := gd_some h
  rcases ite_some h with ⟨hc, h⟩ | ⟨hc, h⟩
  · exact FRM.tr FRM.rf (frX9_morning_78 x1 x2 s0 s0 σ _ h)
  · obtain ⟨hi8, h⟩ := gd_some h
    exact FRM.tr FRM.rf (frX9_morning_78 x1 x2 s0 (gi σ 182 (x1 : Int32).toNatClampNeg) σ _ h)
theorem frX9_morning (a1 : Int32) (a2 : Int32) (σ : PS) (r : PS) (h : fX9_morning a1 a2 σ = some r) : FRM SX9_morning σ r := by
  unfold fX9_morning at h
  obtain ⟨hi1, h⟩ := gd_some h
  obtain ⟨hi2, h⟩ := gd_some h
  rcases ite_some h with ⟨hc, h⟩ | ⟨hc, h⟩
  · cases h
    exact (FRM.i FRM.rf (by decide))
  · obtain ⟨hi3, h⟩ := gd_some h
    obtain ⟨hi4, h⟩ := gd_some h
    rcases ite_some h with ⟨hc, h⟩ | ⟨hc, h⟩
    · obtain ⟨hi5, h⟩ := gd_some h
      exact FRM.tr (FRM.i FRM.rf (by decide)) (frX9_morning_57 a1 a2 ((gi (sI σ 178 (((60 * a1) + a2) : Int32).toNatClampNeg (-1)) 182 (a1 : Int32).toNatClampNeg) - 1) (sI σ 178 (((60 * a1) + a2) : Int32).toNatClampNeg (-1)) _ h)
    · obtain ⟨hi6, h⟩ := gd_some h
      exact FRM.tr (FRM.i FRM.rf (by decide)) (frX9_morning_57 a1 a2 ((gi (sI σ 178 (((60 * a1) + a2) : Int32).toNatClampNeg (-1)) 182 (a1 : Int32).toNatClampNeg) + 1) (sI σ 178 (((60 * a1) + a2) : Int32).toNatClampNeg (-1)) _ h)

def SX9_goes : List (Nat × Nat) := [(132, 132), (172, 192)]
theorem frX9_goes_361 {r144 : Int32 → PS → Option (PS)} (hr_144 : ∀ (x2 : Int32) (σ : PS) (r : PS), r144 x2 σ = some r → FRM SX9_goes σ r) : ∀ (n : Nat) (x2 : Int32) (x3 : Int32) (σ : PS) (r : PS), fX9_goes_361 r144 n x2 x3 σ = some r → FRM SX9_goes σ r := by
  intro n
  induction n with
  | zero =>
    intro x2 x3 σ r h
    rw [fX9_goes_361] at h
    cases h
  | succ n ih =>
    intro x2 x3 σ r h
    rw [fX9_goes_361] at h
    rcases ite_some h with ⟨hc, h⟩ | ⟨hc, h⟩
    · exact FRM.tr FRM.rf (hr_144 (x2 + 1) σ _ h)
    · obtain ⟨hi34, h⟩ := gd_some h
      obtain ⟨hi35, h⟩ := gd_some h
      exact FRM.tr (FRM.i FRM.rf (by decide)) (ih x2 (x3 + 1) (sI σ 180 (((60 * x3) + x2) : Int32).toNatClampNeg (gi σ 186 (x3 : Int32).toNatClampNeg)) _ h)
theorem frX9_goes_353 {r144 : Int32 → PS → Option (PS)} (hr_144 : ∀ (x2 : Int32) (σ : PS) (r : PS), r144 x2 σ = some r → FRM SX9_goes σ r) {r234 : Int32 → Int32 → PS → Option (PS)} (hr_234 : ∀ (x2 : Int32) (x3 : Int32) (σ : PS) (r : PS), r234 x2 x3 σ = some r → FRM SX9_goes σ r) (x2 : Int32) (x3 : Int32) (σ : PS) (r : PS) (h : fX9_goes_353 r144 r234 x2 x3 σ = some r) : FRM SX9_goes σ r := by
  unfold fX9_goes_353 at h
  exact FRM.tr FRM.rf (hr_234 x2 (x3 + 1) σ _ h)
theorem frX9_goes_328 {r144 : Int32 → PS → Option (PS)} (hr_144 : ∀ (x2 : Int32) (σ : PS) (r : PS), r144 x2 σ = some r → FRM SX9_goes σ r) {r234 : Int32 → Int32 → PS → Option (PS)} (hr_234 : ∀ (x2 : Int32) (x3 : Int32) (σ : PS) (r : PS), r234 x2 x3 σ = some r → FRM SX9_goes σ r) (x2 : Int32) (x3 : Int32) (σ : PS) (r : PS) (h : fX9_goes_328 r144 r234 x2 x3 σ = some r) : FRM SX9_goes σ r := by
  unfold fX9_goes_328 at h
  obtain ⟨hi31, h⟩ := gd_some h
  obtain ⟨hi32, h⟩ := gd_some h
  rcases ite_some h with ⟨hc, h⟩ | ⟨hc, h⟩
  · obtain ⟨hi33, h⟩ := gd_some h
    exact FRM.tr (FRM.i FRM.rf (by decide)) (frX9_goes_353 hr_144 hr_234 x2 x3 (sI σ 182 (x3 : Int32).toNatClampNeg (-1)) _ h)
  · exact FRM.tr FRM.rf (frX9_goes_353 hr_144 hr_234 x2 x3 σ _ h)
theorem frX9_goes_234 {r144 : Int32 → PS → Option (PS)} (hr_144 : ∀ (x2 : Int32) (σ : PS) (r : PS), r144 x2 σ = some r → FRM SX9_goes σ r) : ∀ (n : Nat) (x2 : Int32) (x3 : Int32) (σ : PS) (r : PS), fX9_goes_234 r144 n x2 x3 σ = some r → FRM SX9_goes σ r := by
  intro n
  induction n with
  | zero =>
    intro x2 x3 σ r h
    rw [fX9_goes_234] at h
    cases h
  | succ n ih =>
    intro x2 x3 σ r h
    rw [fX9_goes_234] at h
    rcases ite_some h with ⟨hc, h⟩ | ⟨hc, h⟩
    · exact FRM.tr FRM.rf (frX9_goes_361 hr_144 FU x2 0 σ _ h)
    · obtain ⟨hi20, h⟩ := gd_some h
      obtain ⟨hi21, h⟩ := gd_some h
      obtain ⟨hi22, h⟩ := gd_some h
      obtain ⟨hi23, h⟩ := gd_some h
      obtain ⟨hi24, h⟩ := gd_some h
      obtain ⟨hi25, h⟩ := gd_some h
      obtain ⟨hi26, h⟩ := gd_some h
      obtain ⟨hi27, h⟩ := gd_some h
      obtain ⟨hi28, h⟩ := gd_some h
      rcases ite_some h with ⟨hc, h⟩ | ⟨hc, h⟩
      · obtain ⟨hi29, h⟩ := gd_some h
        obtain ⟨hi30, h⟩ := gd_some h
        exact FRM.tr (FRM.i (FRM.i (FRM.i (FRM.i (FRM.i (FRM.i FRM.rf (by decide)) (by decide)) (by decide)) (by decide)) (by decide)) (by decide)) (frX9_goes_328 hr_144 ih x2 x3 (sI (sI (sI (sI (sI (sI σ 172 (((60 * x3) + x2) : Int32).toNatClampNeg (gi σ 182 (x3 : Int32).toNatClampNeg)) 174 (((60 * x3) + x2) : Int32).toNatClampNeg (gi (sI σ 172 (((60 * x3) + x2) : Int32).toNatClampNeg (gi σ 182 (x3 : Int32).toNatClampNeg)) 183 (x3 : Int32).toNatClampNeg)) 175 (((60 * x3) + x2) : Int32).toNatClampNeg (gi (sI (sI σ 172 (((60 * x3) + x2) : Int32).toNatClampNeg (gi σ 182 (x3 : Int32).toNatClampNeg)) 174 (((60 * x3) + x2) : Int32).toNatClampNeg (gi (sI σ 172 (((60 * x3) + x2) : Int32).toNatClampNeg (gi σ 182 (x3 : Int32).toNatClampNeg)) 183 (x3 : Int32).toNatClampNeg)) 184 (x3 : Int32).toNatClampNeg)) 176 (((60 * x3) + x2) : Int32).toNatClampNeg (gi (sI (sI (sI σ 172 (((60 * x3) + x2) : Int32).toNatClampNeg (gi σ 182 (x3 : Int32).toNatClampNeg)) 174 (((60 * x3) + x2) : Int32).toNatClampNeg (gi (sI σ 172 (((60 * x3) + x2) : Int32).toNatClampNeg (gi σ 182 (x3 : Int32).toNatClampNeg)) 183 (x3 : Int32).toNatClampNeg)) 175 (((60 * x3) + x2) : Int32).toNatClampNeg (gi (sI (sI σ 172 (((60 * x3) + x2) : Int32).toNatClampNeg (gi σ 182 (x3 : Int32).toNatClampNeg)) 174 (((60 * x3) + x2) : Int32).toNatClampNeg (gi (sI σ 172 (((60 * x3) + x2) : Int32).toNatClampNeg (gi σ 182 (x3 : Int32).toNatClampNeg)) 183 (x3 : Int32).toNatClampNeg)) 184 (x3 : Int32).toNatClampNeg)) 185 (x3 : Int32).toNatClampNeg)) 173 (((60 * x3) + x2) : Int32).toNatClampNeg (-1)) 177 (((60 * x3) + x2) : Int32).toNatClampNeg 0) _ h)
      · exact FRM.tr (FRM.i (FRM.i (FRM.i (FRM.i FRM.rf (by decide)) (by decide)) (by decide)) (by decide)) (frX9_goes_328 hr_144 ih x2 x3 (sI (sI (sI (sI σ 172 (((60 * x3) + x2) : Int32).toNatClampNeg (gi σ 182 (x3 : Int32).toNatClampNeg)) 174 (((60 * x3) + x2) : Int32).toNatClampNeg (gi (sI σ 172 (((60 * x3) + x2) : Int32).toNatClampNeg (gi σ 182 (x3 : Int32).toNatClampNeg)) 183 (x3 : Int32).toNatClampNeg)) 175 (((60 * x3) + x2) : Int32).toNatClampNeg (gi (sI (sI σ 172 (((60 * x3) + x2) : Int32).toNatClampNeg (gi σ 182 (x3 : Int32).toNatClampNeg)) 174 (((60 * x3) + x2) : Int32).toNatClampNeg (gi (sI σ 172 (((60 * x3) + x2) : Int32).toNatClampNeg (gi σ 182 (x3 : Int32).toNatClampNeg)) 183 (x3 : Int32).toNatClampNeg)) 184 (x3 : Int32).toNatClampNeg)) 176 (((60 * x3) + x2) : Int32).toNatClampNeg (gi (sI (sI (sI σ 172 (((60 * x3) + x2) : Int32).toNatClampNeg (gi σ 182 (x3 : Int32).toNatClampNeg)) 174 (((60 * x3) + x2) : Int32).toNatClampNeg (gi (sI σ 172 (((60 * x3) + x2) : Int32).toNatClampNeg (gi σ 182 (x3 : Int32).toNatClampNeg)) 183 (x3 : Int32).toNatClampNeg)) 175 (((60 * x3) + x2) : Int32).toNatClampNeg (gi (sI (sI σ 172 (((60 * x3) + x2) : Int32).toNatClampNeg (gi σ 182 (x3 : Int32).toNatClampNeg)) 174 (((60 * x3) + x2) : Int32).toNatClampNeg (gi (sI σ 172 (((60 * x3) + x2) : Int32).toNatClampNeg (gi σ 182 (x3 : Int32).toNatClampNeg)) 183 (x3 : Int32).toNatClampNeg)) 184 (x3 : Int32).toNatClampNeg)) 185 (x3 : Int32).toNatClampNeg)) _ h)
theorem frX9_goes_212 {r144 : Int32 → PS → Option (PS)} (hr_144 : ∀ (x2 : Int32) (σ : PS) (r : PS), r144 x2 σ = some r → FRM SX9_goes σ r) : ∀ (n : Nat) (x2 : Int32) (x3 : Int32) (σ : PS) (r : PS), fX9_goes_212 r144 n x2 x3 σ = some r → FRM SX9_goes σ r := by
  intro n
  induction n with
  | zero =>
    intro x2 x3 σ r h
    rw [fX9_goes_212] at h
    cases h
  | succ n ih =>
    intro x2 x3 σ r h
    rw [fX9_goes_212] at h
    rcases ite_some h with ⟨hc, h⟩ | ⟨hc, h⟩
    · exact FRM.tr FRM.rf (frX9_goes_234 hr_144 FU x2 0 σ _ h)
    · obtain ⟨q17, e18, h⟩ := bind_some h
      try dsimp only at h
      have g19 := frX9_evening _ _ _ _ e18
      exact FRM.tr (FRM.tr FRM.rf (FRM.mono g19 (by decide))) (ih x2 (x3 + 1) q17 _ h)
theorem frX9_goes_204 {r144 : Int32 → PS → Option (PS)} (hr_144 : ∀ (x2 : Int32) (σ : PS) (r : PS), r144 x2 σ = some r → FRM SX9_goes σ r) {r174 : Int32 → Int32 → PS → Option (PS)} (hr_174 : ∀ (x2 : Int32) (x3 : Int32) (σ : PS) (r : PS), r174 x2 x3 σ = some r → FRM SX9_goes σ r) (x2 : Int32) (x3 : Int32) (σ : PS) (r : PS) (h : fX9_goes_204 r144 r174 x2 x3 σ = some r) : FRM SX9_goes σ r := by
  unfold fX9_goes_204 at h
  exact FRM.tr FRM.rf (hr_174 x2 (x3 + 1) σ _ h)
theorem frX9_goes_174 {r144 : Int32 → PS → Option (PS)} (hr_144 : ∀ (x2 : Int32) (σ : PS) (r : PS), r144 x2 σ = some r → FRM SX9_goes σ r) : ∀ (n : Nat) (x2 : Int32) (x3 : Int32) (σ : PS) (r : PS), fX9_goes_174 r144 n x2 x3 σ = some r → FRM SX9_goes σ r := by
  intro n
  induction n with
  | zero =>
    intro x2 x3 σ r h
    rw [fX9_goes_174] at h
    cases h
  | succ n ih =>
    intro x2 x3 σ r h
    rw [fX9_goes_174] at h
    rcases ite_some h with ⟨hc, h⟩ | ⟨hc, h⟩
    · exact FRM.tr FRM.rf (frX9_goes_212 hr_144 FU x2 0 σ _ h)
    · obtain ⟨hi14, h⟩ := gd_some h
      rcases ite_some h with ⟨hc, h⟩ | ⟨hc, h⟩
      · obtain ⟨hi15, h⟩ := gd_some h
        obtain ⟨hi16, h⟩ := gd_some h
        exact FRM.tr (FRM.i FRM.rf (by decide)) (frX9_goes_204 hr_144 ih x2 x3 (sI σ 182 (x3 : Int32).toNatClampNeg (gi σ 164 (x3 : Int32).toNatClampNeg)) _ h)
      · exact FRM.tr FRM.rf (frX9_goes_204 hr_144 ih x2 x3 σ _ h)
theorem frX9_goes_152 {r144 : Int32 → PS → Option (PS)} (hr_144 : ∀ (x2 : Int32) (σ : PS) (r : PS), r144 x2 σ = some r → FRM SX9_goes σ r) : ∀ (n : Nat) (x2 : Int32) (x3 : Int32) (σ : PS) (r : PS), fX9_goes_152 r144 n x2 x3 σ = some r → FRM SX9_goes σ r := by
  intro n
  induction n with
  | zero =>
    intro x2 x3 σ r h
    rw [fX9_goes_152] at h
    cases h
  | succ n ih =>
    intro x2 x3 σ r h
    rw [fX9_goes_152] at h
    rcases ite_some h with ⟨hc, h⟩ | ⟨hc, h⟩
    · exact FRM.tr FRM.rf (frX9_goes_174 hr_144 FU x2 0 σ _ h)
    · obtain ⟨q11, e12, h⟩ := bind_some h
      try dsimp only at h
      have g13 := frX9_morning _ _ _ _ e12
      exact FRM.tr (FRM.tr FRM.rf (FRM.mono g13 (by decide))) (ih x2 (x3 + 1) q11 _ h)
theorem frX9_goes_144 : ∀ (n : Nat) (x2 : Int32) (σ : PS) (r : PS), fX9_goes_144 n x2 σ = some r → FRM SX9_goes σ r := by
  intro n
  induction n with
  | zero =>
    intro x2 σ r h
    rw [fX9_goes_144] at h
    cases h
  | succ n ih =>
    intro x2 σ r h
    rw [fX9_goes_144] at h
    rcases ite_some h with ⟨hc, h⟩ | ⟨hc, h⟩
    · cases h
      exact FRM.rf
    · exact FRM.tr FRM.rf (frX9_goes_152 ih FU x2 0 σ _ h)
theorem frX9_goes_124 : ∀ (n : Nat) (x2 : Int32) (σ : PS) (r : PS), fX9_goes_124 n x2 σ = some r → FRM SX9_goes σ r := by
  intro n
  induction n with
  | zero =>
    intro x2 σ r h
    rw [fX9_goes_124] at h
    cases h
  | succ n ih =>
    intro x2 σ r h
    rw [fX9_goes_124] at h
    rcases ite_some h with ⟨hc, h⟩ | ⟨hc, h⟩
    · exact FRM.tr FRM.rf (frX9_goes_144 FU 0 σ _ h)
    · obtain ⟨hi10, h⟩ := gd_some h
      exact FRM.tr (FRM.i FRM.rf (by decide)) (ih (x2 + 1) (sI σ 186 (x2 : Int32).toNatClampNeg 0) _ h)
theorem frX9_goes_82 : ∀ (n : Nat) (x2 : Int32) (σ : PS) (r : PS), fX9_goes_82 n x2 σ = some r → FRM SX9_goes σ r := by
  intro n
  induction n with
  | zero =>
    intro x2 σ r h
    rw [fX9_goes_82] at h
    cases h
  | succ n ih =>
    intro x2 σ r h
    rw [fX9_goes_82] at h
    rcases ite_some h with ⟨hc, h⟩ | ⟨hc, h⟩
    · exact FRM.tr FRM.rf (frX9_goes_124 FU 0 σ _ h)
    · obtain ⟨hi6, h⟩ := gd_some h
      obtain ⟨hi7, h⟩ := gd_some h
      obtain ⟨hi8, h⟩ := gd_some h
      obtain ⟨hi9, h⟩ := gd_some h
      exact FRM.tr (FRM.i (FRM.i (FRM.i (FRM.i FRM.rf (by decide)) (by decide)) (by decide)) (by decide)) (ih (x2 + 1) (sI (sI (sI (sI σ 182 (x2 : Int32).toNatClampNeg (-1)) 183 (x2 : Int32).toNatClampNeg 0) 184 (x2 : Int32).toNatClampNeg 0) 185 (x2 : Int32).toNatClampNeg 0) _ h)
theorem frX9_goes_74 {r38 : Int32 → Int32 → PS → Option (PS)} (hr_38 : ∀ (x1 : Int32) (x2 : Int32) (σ : PS) (r : PS), r38 x1 x2 σ = some r → FRM SX9_goes σ r) (x1 : Int32) (x2 : Int32) (σ : PS) (r : PS) (h : fX9_goes_74 r38 x1 x2 σ = some r) : FRM SX9_goes σ r := by
  unfold fX9_goes_74 at h
  exact FRM.tr FRM.rf (hr_38 x1 (x2 + 1) σ _ h)
theorem frX9_goes_38 : ∀ (n : Nat) (x1 : Int32) (x2 : Int32) (σ : PS) (r : PS), fX9_goes_38 n x1 x2 σ = some r → FRM SX9_goes σ r := by
  intro n
  induction n with
  | zero =>
    intro x1 x2 σ r h
    rw [fX9_goes_38] at h
    cases h
  | succ n ih =>
    intro x1 x2 σ r h
    rw [fX9_goes_38] at h
    rcases ite_some h with ⟨hc, h⟩ | ⟨hc, h⟩
    · exact FRM.tr FRM.rf (frX9_goes_82 FU 0 σ _ h)
    · obtain ⟨hi2, h⟩ := gd_some h
      rcases ite_some h with ⟨hc, h⟩ | ⟨hc, h⟩
      · obtain ⟨hi3, h⟩ := gd_some h
        obtain ⟨hi4, h⟩ := gd_some h
        obtain ⟨hi5, h⟩ := gd_some h
        exact FRM.tr (FRM.i FRM.rf (by decide)) (frX9_goes_74 ih x1 x2 (sI σ 181 (((60 * (gi σ 170 (x2 : Int32).toNatClampNeg)) + (gi σ 171 (x2 : Int32).toNatClampNeg)) : Int32).toNatClampNeg (vp_nar .boolean 1)) _ h)
      · exact FRM.tr FRM.rf (frX9_goes_74 ih x1 x2 σ _ h)
theorem frX9_goes_16 : ∀ (n : Nat) (x1 : Int32) (x2 : Int32) (σ : PS) (r : PS), fX9_goes_16 n x1 x2 σ = some r → FRM SX9_goes σ r := by
  intro n
  induction n with
  | zero =>
    intro x1 x2 σ r h
    rw [fX9_goes_16] at h
    cases h
  | succ n ih =>
    intro x1 x2 σ r h
    rw [fX9_goes_16] at h
    rcases ite_some h with ⟨hc, h⟩ | ⟨hc, h⟩
    · exact FRM.tr FRM.rf (frX9_goes_38 FU x1 0 σ _ h)
    · obtain ⟨hi1, h⟩ := gd_some h
      exact FRM.tr (FRM.i FRM.rf (by decide)) (ih x1 (x2 + 1) (sI σ 181 (x2 : Int32).toNatClampNeg (vp_nar .boolean 0)) _ h)
theorem frX9_goes (a1 : Int32) (σ : PS) (r : PS) (h : fX9_goes a1 σ = some r) : FRM SX9_goes σ r := by
  unfold fX9_goes at h
  rcases ite_some h with ⟨hc, h⟩ | ⟨hc, h⟩
  · cases h
    exact FRM.rf
  · exact FRM.tr (FRM.i FRM.rf (by decide)) (frX9_goes_16 FU a1 0 (sI σ 132 58 a1) _ h)

def SX9_isOutside : List (Nat × Nat) := []
theorem frX9_isOutside (a1 : Int32) (a2 : Int32) (σ : PS) (r : Int32 × PS) (h : fX9_isOutside a1 a2 σ = some r) : FRM SX9_isOutside σ r.2 := by
  unfold fX9_isOutside at h
  obtain ⟨hi1, h⟩ := gd_some h
  rcases ite_some h with ⟨hc, h⟩ | ⟨hc, h⟩
  · cases h
    exact FRM.rf
  · obtain ⟨hi2, h⟩ := gd_some h
    rcases ite_some h with ⟨hc, h⟩ | ⟨hc, h⟩
    · cases h
      exact FRM.rf
    · cases h
      exact FRM.rf

def SX9_state : List (Nat × Nat) := [(132, 132), (172, 192)]
theorem frX9_state (a1 : Int32) (a2 : Int32) (a3 : Int32) (a4 : Int32) (σ : PS) (r : Int32 × PS) (h : fX9_state a1 a2 a3 a4 σ = some r) : FRM SX9_state σ r.2 := by
  unfold fX9_state at h
  obtain ⟨q1, e2, h⟩ := bind_some h
  try dsimp only at h
  have g3 := frX9_isCaravan _ _ _ e2
  rcases ite_some h with ⟨hc, h⟩ | ⟨hc, h⟩
  · cases h
    exact (FRM.tr FRM.rf (FRM.mono g3 (by decide)))
  · obtain ⟨q4, e5, h⟩ := bind_some h
    try dsimp only at h
    have g6 := frX9_isDay _ _ _ e5
    rcases ite_some h with ⟨hc, h⟩ | ⟨hc, h⟩
    · cases h
      exact (FRM.tr (FRM.tr FRM.rf (FRM.mono g3 (by decide))) (FRM.mono g6 (by decide)))
    · obtain ⟨q7, e8, h⟩ := bind_some h
      try dsimp only at h
      have g9 := frX9_isKnown _ _ _ e8
      rcases ite_some h with ⟨hc, h⟩ | ⟨hc, h⟩
      · cases h
        exact (FRM.tr (FRM.tr (FRM.tr FRM.rf (FRM.mono g3 (by decide))) (FRM.mono g6 (by decide))) (FRM.mono g9 (by decide)))
      · rcases ite_some h with ⟨hc, h⟩ | ⟨hc, h⟩
        · cases h
          exact (FRM.tr (FRM.tr (FRM.tr FRM.rf (FRM.mono g3 (by decide))) (FRM.mono g6 (by decide))) (FRM.mono g9 (by decide)))
        · rcases ite_some h with ⟨hc, h⟩ | ⟨hc, h⟩
          · obtain ⟨q10, e11, h⟩ := bind_some h
            try dsimp only at h
            have g12 := frX9_goes _ _ _ e11
            rcases ite_some h with ⟨hc, h⟩ | ⟨hc, h⟩
            · obtain ⟨hi13, h⟩ := gd_some h
              cases h
              exact (FRM.tr (FRM.tr (FRM.tr (FRM.tr FRM.rf (FRM.mono g3 (by decide))) (FRM.mono g6 (by decide))) (FRM.mono g9 (by decide))) (FRM.mono g12 (by decide)))
            rcases ite_some h with ⟨hc, h⟩ | ⟨hc, h⟩
            · obtain ⟨hi14, h⟩ := gd_some h
              cases h
              exact (FRM.tr (FRM.tr (FRM.tr (FRM.tr FRM.rf (FRM.mono g3 (by decide))) (FRM.mono g6 (by decide))) (FRM.mono g9 (by decide))) (FRM.mono g12 (by decide)))
            rcases ite_some h with ⟨hc, h⟩ | ⟨hc, h⟩
            · obtain ⟨hi15, h⟩ := gd_some h
              cases h
              exact (FRM.tr (FRM.tr (FRM.tr (FRM.tr FRM.rf (FRM.mono g3 (by decide))) (FRM.mono g6 (by decide))) (FRM.mono g9 (by decide))) (FRM.mono g12 (by decide)))
            rcases ite_some h with ⟨hc, h⟩ | ⟨hc, h⟩
            · obtain ⟨hi16, h⟩ := gd_some h
              cases h
              exact (FRM.tr (FRM.tr (FRM.tr (FRM.tr FRM.rf (FRM.mono g3 (by decide))) (FRM.mono g6 (by decide))) (FRM.mono g9 (by decide))) (FRM.mono g12 (by decide)))
            rcases ite_some h with ⟨hc, h⟩ | ⟨hc, h⟩
            · obtain ⟨hi17, h⟩ := gd_some h
              cases h
              exact (FRM.tr (FRM.tr (FRM.tr (FRM.tr FRM.rf (FRM.mono g3 (by decide))) (FRM.mono g6 (by decide))) (FRM.mono g9 (by decide))) (FRM.mono g12 (by decide)))
            rcases ite_some h with ⟨hc, h⟩ | ⟨hc, h⟩
            · obtain ⟨q18, e19, h⟩ := bind_some h
              try dsimp only at h
              have g20 := frX9_isOutside _ _ _ _ e19
              rcases ite_some h with ⟨hc, h⟩ | ⟨hc, h⟩
              · cases h
                exact (FRM.tr (FRM.tr (FRM.tr (FRM.tr (FRM.tr FRM.rf (FRM.mono g3 (by decide))) (FRM.mono g6 (by decide))) (FRM.mono g9 (by decide))) (FRM.mono g12 (by decide))) (FRM.mono g20 (by decide)))
              · cases h
                exact (FRM.tr (FRM.tr (FRM.tr (FRM.tr (FRM.tr FRM.rf (FRM.mono g3 (by decide))) (FRM.mono g6 (by decide))) (FRM.mono g9 (by decide))) (FRM.mono g12 (by decide))) (FRM.mono g20 (by decide)))
            obtain ⟨hi21, h⟩ := gd_some h
            cases h
            exact (FRM.tr (FRM.tr (FRM.tr (FRM.tr FRM.rf (FRM.mono g3 (by decide))) (FRM.mono g6 (by decide))) (FRM.mono g9 (by decide))) (FRM.mono g12 (by decide)))
          · cases h
            exact (FRM.tr (FRM.tr (FRM.tr FRM.rf (FRM.mono g3 (by decide))) (FRM.mono g6 (by decide))) (FRM.mono g9 (by decide)))

def SX9_house : List (Nat × Nat) := [(132, 132), (172, 192)]
theorem frX9_house_132 {r73 : Int32 → Int32 → Int32 → Int32 → Int32 → Int32 → Int32 → PS → Option (Int32 × PS)} (hr_73 : ∀ (x1 : Int32) (x2 : Int32) (x4 : Int32) (x5 : Int32) (x6 : Int32) (x7 : Int32) (x8 : Int32) (σ : PS) (r : Int32 × PS), r73 x1 x2 x4 x5 x6 x7 x8 σ = some r → FRM SX9_house σ r.2) (x1 : Int32) (x2 : Int32) (x4 : Int32) (x5 : Int32) (x6 : Int32) (x7 : Int32) (x8 : Int32) (σ : PS) (r : Int32 × PS) (h : fX9_house_132 r73 x1 x2 x4 x5 x6 x7 x8 σ = some r) : FRM SX9_house σ r.2 := by
  unfold fX9_house_132 at h
  exact FRM.tr FRM.rf (hr_73 x1 x2 x4 x5 x6 x7 (x8 + 1) σ _ h)
theorem frX9_house_73 : ∀ (n : Nat) (x1 : Int32) (x2 : Int32) (x4 : Int32) (x5 : Int32) (x6 : Int32) (x7 : Int32) (x8 : Int32) (σ : PS) (r : Int32 × PS), fX9_house_73 n x1 x2 x4 x5 x6 x7 x8 σ = some r → FRM SX9_house σ r.2 := by
  intro n
  induction n with
  | zero =>
    intro x1 x2 x4 x5 x6 x7 x8 σ r h
    rw [fX9_house_73] at h
    cases h
  | succ n ih =>
    intro x1 x2 x4 x5 x6 x7 x8 σ r h
    rw [fX9_house_73] at h
    rcases ite_some h with ⟨hc, h⟩ | ⟨hc, h⟩
    · rcases ite_some h with ⟨hc, h⟩ | ⟨hc, h⟩
      · cases h
        exact FRM.rf
      · rcases ite_some h with ⟨hc, h⟩ | ⟨hc, h⟩
        · cases h
          exact FRM.rf
        · cases h
          exact FRM.rf
    · obtain ⟨hi14, h⟩ := gd_some h
      rcases ite_some h with ⟨hc, h⟩ | ⟨hc, h⟩
      · obtain ⟨q15, e16, h⟩ := bind_some h
        try dsimp only at h
        have g17 := frX9_isOutside _ _ _ _ e16
        rcases ite_some h with ⟨hc, h⟩ | ⟨hc, h⟩
        · obtain ⟨hi18, h⟩ := gd_some h
          exact FRM.tr (FRM.tr FRM.rf (FRM.mono g17 (by decide))) (frX9_house_132 ih x1 x2 x4 (x5 + (gi q15.2 162 (x8 : Int32).toNatClampNeg)) (x6 + 1) x7 x8 q15.2 _ h)
        · exact FRM.tr (FRM.tr FRM.rf (FRM.mono g17 (by decide))) (frX9_house_132 ih x1 x2 x4 x5 x6 (x7 + 1) x8 q15.2 _ h)
      · exact FRM.tr FRM.rf (frX9_house_132 ih x1 x2 x4 x5 x6 x7 x8 σ _ h)
theorem frX9_house (a1 : Int32) (a2 : Int32) (a3 : Int32) (a4 : Int32) (σ : PS) (r : Int32 × PS) (h : fX9_house a1 a2 a3 a4 σ = some r) : FRM SX9_house σ r.2 := by
  unfold fX9_house at h
  obtain ⟨q1, e2, h⟩ := bind_some h
  try dsimp only at h
  have g3 := frX9_isInn _ _ _ e2
  rcases ite_some h with ⟨hc, h⟩ | ⟨hc, h⟩
  · cases h
    exact (FRM.tr FRM.rf (FRM.mono g3 (by decide)))
  · obtain ⟨q4, e5, h⟩ := bind_some h
    try dsimp only at h
    have g6 := frX9_isDay _ _ _ e5
    rcases ite_some h with ⟨hc, h⟩ | ⟨hc, h⟩
    · cases h
      exact (FRM.tr (FRM.tr FRM.rf (FRM.mono g3 (by decide))) (FRM.mono g6 (by decide)))
    · obtain ⟨q7, e8, h⟩ := bind_some h
      try dsimp only at h
      have g9 := frX9_isKnown _ _ _ e8
      rcases ite_some h with ⟨hc, h⟩ | ⟨hc, h⟩
      · cases h
        exact (FRM.tr (FRM.tr (FRM.tr FRM.rf (FRM.mono g3 (by decide))) (FRM.mono g6 (by decide))) (FRM.mono g9 (by decide)))
      · rcases ite_some h with ⟨hc, h⟩ | ⟨hc, h⟩
        · cases h
          exact (FRM.tr (FRM.tr (FRM.tr FRM.rf (FRM.mono g3 (by decide))) (FRM.mono g6 (by decide))) (FRM.mono g9 (by decide)))
        · rcases ite_some h with ⟨hc, h⟩ | ⟨hc, h⟩
          · obtain ⟨q10, e11, h⟩ := bind_some h
            try dsimp only at h
            have g12 := frX9_goes _ _ _ e11
            rcases ite_some h with ⟨hc, h⟩ | ⟨hc, h⟩
            · obtain ⟨hi13, h⟩ := gd_some h
              cases h
              exact (FRM.tr (FRM.tr (FRM.tr (FRM.tr FRM.rf (FRM.mono g3 (by decide))) (FRM.mono g6 (by decide))) (FRM.mono g9 (by decide))) (FRM.mono g12 (by decide)))
            · exact FRM.tr (FRM.tr (FRM.tr (FRM.tr (FRM.tr FRM.rf (FRM.mono g3 (by decide))) (FRM.mono g6 (by decide))) (FRM.mono g9 (by decide))) (FRM.mono g12 (by decide))) (frX9_house_73 FU a1 a2 a4 0 0 0 0 q10 _ h)
          · cases h
            exact (FRM.tr (FRM.tr (FRM.tr FRM.rf (FRM.mono g3 (by decide))) (FRM.mono g6 (by decide))) (FRM.mono g9 (by decide)))

def SX9_full : List (Nat × Nat) := [(132, 132), (172, 192)]
theorem frX9_full_107 {r54 : Int32 → Int32 → Int32 → Int32 → Int32 → PS → Option (Int32 × PS)} (hr_54 : ∀ (x1 : Int32) (x2 : Int32) (x3 : Int32) (x5 : Int32) (x6 : Int32) (σ : PS) (r : Int32 × PS), r54 x1 x2 x3 x5 x6 σ = some r → FRM SX9_full σ r.2) (x1 : Int32) (x2 : Int32) (x3 : Int32) (x5 : Int32) (x6 : Int32) (σ : PS) (r : Int32 × PS) (h : fX9_full_107 r54 x1 x2 x3 x5 x6 σ = some r) : FRM SX9_full σ r.2 := by
  unfold fX9_full_107 at h
  exact FRM.tr FRM.rf (hr_54 x1 x2 x3 x5 (x6 + 1) σ _ h)
theorem frX9_full_54 : ∀ (n : Nat) (x1 : Int32) (x2 : Int32) (x3 : Int32) (x5 : Int32) (x6 : Int32) (σ : PS) (r : Int32 × PS), fX9_full_54 n x1 x2 x3 x5 x6 σ = some r → FRM SX9_full σ r.2 := by
  intro n
  induction n with
  | zero =>
    intro x1 x2 x3 x5 x6 σ r h
    rw [fX9_full_54] at h
    cases h
  | succ n ih =>
    intro x1 x2 x3 x5 x6 σ r h
    rw [fX9_full_54] at h
    rcases ite_some h with ⟨hc, h⟩ | ⟨hc, h⟩
    · cases h
      exact FRM.rf
    · obtain ⟨hi14, h⟩ := gd_some h
      rcases ite_some h with ⟨hc, h⟩ | ⟨hc, h⟩
      · obtain ⟨hi15, h⟩ := gd_some h
        rcases ite_some h with ⟨hc, h⟩ | ⟨hc, h⟩
        · obtain ⟨hi16, h⟩ := gd_some h
          exact FRM.tr FRM.rf (frX9_full_107 ih x1 x2 x3 (x5 + (gi σ 163 (x6 : Int32).toNatClampNeg)) x6 σ _ h)
        · exact FRM.tr FRM.rf (frX9_full_107 ih x1 x2 x3 x5 x6 σ _ h)
      · exact FRM.tr FRM.rf (frX9_full_107 ih x1 x2 x3 x5 x6 σ _ h)
theorem frX9_full (a1 : Int32) (a2 : Int32) (a3 : Int32) (a4 : Int32) (σ : PS) (r : Int32 × PS) (h : fX9_full a1 a2 a3 a4 σ = some r) : FRM SX9_full σ r.2 := by
  unfold fX9_full at h
  obtain ⟨q1, e2, h⟩ := bind_some h
  try dsimp only at h
  have g3 := frX9_isInn _ _ _ e2
  rcases ite_some h with ⟨hc, h⟩ | ⟨hc, h⟩
  · cases h
    exact (FRM.tr FRM.rf (FRM.mono g3 (by decide)))
  · rcases ite_some h with ⟨hc, h⟩ | ⟨hc, h⟩
    · cases h
      exact (FRM.tr FRM.rf (FRM.mono g3 (by decide)))
    · obtain ⟨hi4, h⟩ := gd_some h
      rcases ite_some h with ⟨hc, h⟩ | ⟨hc, h⟩
      · cases h
        exact (FRM.tr FRM.rf (FRM.mono g3 (by decide)))
      · obtain ⟨q5, e6, h⟩ := bind_some h
        try dsimp only at h
        have g7 := frX9_isDay _ _ _ e6
        rcases ite_some h with ⟨hc, h⟩ | ⟨hc, h⟩
        · cases h
          exact (FRM.tr (FRM.tr FRM.rf (FRM.mono g3 (by decide))) (FRM.mono g7 (by decide)))
        · obtain ⟨q8, e9, h⟩ := bind_some h
          try dsimp only at h
          have g10 := frX9_isKnown _ _ _ e9
          rcases ite_some h with ⟨hc, h⟩ | ⟨hc, h⟩
          · cases h
            exact (FRM.tr (FRM.tr (FRM.tr FRM.rf (FRM.mono g3 (by decide))) (FRM.mono g7 (by decide))) (FRM.mono g10 (by decide)))
          · obtain ⟨q11, e12, h⟩ := bind_some h
            try dsimp only at h
            have g13 := frX9_goes _ _ _ e12
            exact FRM.tr (FRM.tr (FRM.tr (FRM.tr (FRM.tr FRM.rf (FRM.mono g3 (by decide))) (FRM.mono g7 (by decide))) (FRM.mono g10 (by decide))) (FRM.mono g13 (by decide))) (frX9_full_54 FU a1 a2 a3 0 0 q11 _ h)

def SX9_comes : List (Nat × Nat) := [(132, 132), (172, 192)]
theorem frX9_comes_25 : ∀ (n : Nat) (x1 : Int32) (x3 : Int32) (σ : PS) (r : Int32 × PS), fX9_comes_25 n x1 x3 σ = some r → FRM SX9_comes σ r.2 := by
  intro n
  induction n with
  | zero =>
    intro x1 x3 σ r h
    rw [fX9_comes_25] at h
    cases h
  | succ n ih =>
    intro x1 x3 σ r h
    rw [fX9_comes_25] at h
    rcases ite_some h with ⟨hc, h⟩ | ⟨hc, h⟩
    · cases h
      exact FRM.rf
    · obtain ⟨hi10, h⟩ := gd_some h
      obtain ⟨hi11, h⟩ := gd_some h
      rcases ite_some h with ⟨hc, h⟩ | ⟨hc, h⟩
      · cases h
        exact FRM.rf
      · exact FRM.tr FRM.rf (ih x1 (x3 + 1) σ _ h)
theorem frX9_comes (a1 : Int32) (a2 : Int32) (σ : PS) (r : Int32 × PS) (h : fX9_comes a1 a2 σ = some r) : FRM SX9_comes σ r.2 := by
  unfold fX9_comes at h
  obtain ⟨q1, e2, h⟩ := bind_some h
  try dsimp only at h
  have g3 := frX9_isCaravan _ _ _ e2
  rcases ite_some h with ⟨hc, h⟩ | ⟨hc, h⟩
  · cases h
    exact (FRM.tr FRM.rf (FRM.mono g3 (by decide)))
  · obtain ⟨q4, e5, h⟩ := bind_some h
    try dsimp only at h
    have g6 := frX9_isKnown _ _ _ e5
    rcases ite_some h with ⟨hc, h⟩ | ⟨hc, h⟩
    · cases h
      exact (FRM.tr (FRM.tr FRM.rf (FRM.mono g3 (by decide))) (FRM.mono g6 (by decide)))
    · obtain ⟨q7, e8, h⟩ := bind_some h
      try dsimp only at h
      have g9 := frX9_goes _ _ _ e8
      exact FRM.tr (FRM.tr (FRM.tr (FRM.tr FRM.rf (FRM.mono g3 (by decide))) (FRM.mono g6 (by decide))) (FRM.mono g9 (by decide))) (frX9_comes_25 FU a1 0 q7 _ h)

def SX9_barred : List (Nat × Nat) := [(132, 132), (172, 192)]
theorem frX9_barred (a1 : Int32) (a2 : Int32) (a3 : Int32) (σ : PS) (r : Int32 × PS) (h : fX9_barred a1 a2 a3 σ = some r) : FRM SX9_barred σ r.2 := by
  unfold fX9_barred at h
  obtain ⟨q1, e2, h⟩ := bind_some h
  try dsimp only at h
  have g3 := frX9_isCaravan _ _ _ e2
  rcases ite_some h with ⟨hc, h⟩ | ⟨hc, h⟩
  · cases h
    exact (FRM.tr FRM.rf (FRM.mono g3 (by decide)))
  · obtain ⟨q4, e5, h⟩ := bind_some h
    try dsimp only at h
    have g6 := frX9_isDay _ _ _ e5
    rcases ite_some h with ⟨hc, h⟩ | ⟨hc, h⟩
    · cases h
      exact (FRM.tr (FRM.tr FRM.rf (FRM.mono g3 (by decide))) (FRM.mono g6 (by decide)))
    · obtain ⟨q7, e8, h⟩ := bind_some h
      try dsimp only at h
      have g9 := frX9_isKnown _ _ _ e8
      rcases ite_some h with ⟨hc, h⟩ | ⟨hc, h⟩
      · cases h
        exact (FRM.tr (FRM.tr (FRM.tr FRM.rf (FRM.mono g3 (by decide))) (FRM.mono g6 (by decide))) (FRM.mono g9 (by decide)))
      · obtain ⟨q10, e11, h⟩ := bind_some h
        try dsimp only at h
        have g12 := frX9_goes _ _ _ e11
        obtain ⟨hi13, h⟩ := gd_some h
        cases h
        exact (FRM.tr (FRM.tr (FRM.tr (FRM.tr FRM.rf (FRM.mono g3 (by decide))) (FRM.mono g6 (by decide))) (FRM.mono g9 (by decide))) (FRM.mono g12 (by decide)))

def SX9_could : List (Nat × Nat) := [(132, 132), (172, 192)]
theorem frX9_could_352 {r229 : Int32 → Int32 → Int32 → Int32 → PS → Option (Int32 × PS)} (hr_229 : ∀ (x3 : Int32) (x5 : Int32) (x6 : Int32) (x7 : Int32) (σ : PS) (r : Int32 × PS), r229 x3 x5 x6 x7 σ = some r → FRM SX9_could σ r.2) (x3 : Int32) (x5 : Int32) (x6 : Int32) (x7 : Int32) (σ : PS) (r : Int32 × PS) (h : fX9_could_352 r229 x3 x5 x6 x7 σ = some r) : FRM SX9_could σ r.2 := by
  unfold fX9_could_352 at h
  exact FRM.tr FRM.rf (hr_229 x3 x5 x6 (x7 + 1) σ _ h)
theorem frX9_could_346 {r229 : Int32 → Int32 → Int32 → Int32 → PS → Option (Int32 × PS)} (hr_229 : ∀ (x3 : Int32) (x5 : Int32) (x6 : Int32) (x7 : Int32) (σ : PS) (r : Int32 × PS), r229 x3 x5 x6 x7 σ = some r → FRM SX9_could σ r.2) {r263 : Int32 → Int32 → Int32 → Int32 → Int32 → PS → Option (Int32 × PS)} (hr_263 : ∀ (x3 : Int32) (x5 : Int32) (x6 : Int32) (x7 : Int32) (x8 : Int32) (σ : PS) (r : Int32 × PS), r263 x3 x5 x6 x7 x8 σ = some r → FRM SX9_could σ r.2) (x3 : Int32) (x5 : Int32) (x6 : Int32) (x7 : Int32) (x8 : Int32) (σ : PS) (r : Int32 × PS) (h : fX9_could_346 r229 r263 x3 x5 x6 x7 x8 σ = some r) : FRM SX9_could σ r.2 := by
  unfold fX9_could_346 at h
  exact FRM.tr FRM.rf (hr_263 x3 x5 x6 x7 (x8 + 1) σ _ h)
theorem frX9_could_263 {r229 : Int32 → Int32 → Int32 → Int32 → PS → Option (Int32 × PS)} (hr_229 : ∀ (x3 : Int32) (x5 : Int32) (x6 : Int32) (x7 : Int32) (σ : PS) (r : Int32 × PS), r229 x3 x5 x6 x7 σ = some r → FRM SX9_could σ r.2) : ∀ (n : Nat) (x3 : Int32) (x5 : Int32) (x6 : Int32) (x7 : Int32) (x8 : Int32) (σ : PS) (r : Int32 × PS), fX9_could_263 r229 n x3 x5 x6 x7 x8 σ = some r → FRM SX9_could σ r.2 := by
  intro n
  induction n with
  | zero =>
    intro x3 x5 x6 x7 x8 σ r h
    rw [fX9_could_263] at h
    cases h
  | succ n ih =>
    intro x3 x5 x6 x7 x8 σ r h
    rw [fX9_could_263] at h
    rcases ite_some h with ⟨hc, h⟩ | ⟨hc, h⟩
    · exact FRM.tr FRM.rf (frX9_could_352 hr_229 x3 x5 x6 x7 σ _ h)
    · rcases ite_some h with ⟨hc, h⟩ | ⟨hc, h⟩
      · exact FRM.tr FRM.rf (frX9_could_346 hr_229 ih x3 x5 x6 x7 x8 σ _ h)
      · obtain ⟨hi23, h⟩ := gd_some h
        obtain ⟨hi24, h⟩ := gd_some h
        rcases ite_some h with ⟨hc, h⟩ | ⟨hc, h⟩
        · obtain ⟨hi25, h⟩ := gd_some h
          obtain ⟨hi26, h⟩ := gd_some h
          rcases ite_some h with ⟨hc, h⟩ | ⟨hc, h⟩
          · exact FRM.tr FRM.rf (frX9_could_346 hr_229 ih x3 x5 (x6 ||| (1 <<< (x8 &&& 31))) x7 x8 σ _ h)
          · exact FRM.tr FRM.rf (frX9_could_346 hr_229 ih x3 x5 x6 x7 x8 σ _ h)
        · exact FRM.tr FRM.rf (frX9_could_346 hr_229 ih x3 x5 x6 x7 x8 σ _ h)
theorem frX9_could_229 : ∀ (n : Nat) (x3 : Int32) (x5 : Int32) (x6 : Int32) (x7 : Int32) (σ : PS) (r : Int32 × PS), fX9_could_229 n x3 x5 x6 x7 σ = some r → FRM SX9_could σ r.2 := by
  intro n
  induction n with
  | zero =>
    intro x3 x5 x6 x7 σ r h
    rw [fX9_could_229] at h
    cases h
  | succ n ih =>
    intro x3 x5 x6 x7 σ r h
    rw [fX9_could_229] at h
    obtain ⟨hi21, h⟩ := gd_some h
    rcases ite_some h with ⟨hc, h⟩ | ⟨hc, h⟩
    · cases h
      exact FRM.rf
    · obtain ⟨hi22, h⟩ := gd_some h
      rcases ite_some h with ⟨hc, h⟩ | ⟨hc, h⟩
      · exact FRM.tr FRM.rf (frX9_could_352 ih x3 x5 x6 x7 σ _ h)
      · exact FRM.tr FRM.rf (frX9_could_263 ih FU x3 x5 x6 x7 0 σ _ h)
theorem frX9_could_227 (x3 : Int32) (x5 : Int32) (x6 : Int32) (s0 : Int32) (σ : PS) (r : Int32 × PS) (h : fX9_could_227 x3 x5 x6 s0 σ = some r) : FRM SX9_could σ r.2 := by
  unfold fX9_could_227 at h
  exact FRM.tr FRM.rf (frX9_could_229 FU x3 x5 x6 s0 σ _ h)
theorem frX9_could_185 {r98 : Int32 → Int32 → Int32 → Int32 → Int32 → PS → Option (Int32 × PS)} (hr_98 : ∀ (x1 : Int32) (x2 : Int32) (x3 : Int32) (x4 : Int32) (x5 : Int32) (σ : PS) (r : Int32 × PS), r98 x1 x2 x3 x4 x5 σ = some r → FRM SX9_could σ r.2) (x1 : Int32) (x2 : Int32) (x3 : Int32) (x4 : Int32) (x5 : Int32) (σ : PS) (r : Int32 × PS) (h : fX9_could_185 r98 x1 x2 x3 x4 x5 σ = some r) : FRM SX9_could σ r.2 := by
  unfold fX9_could_185 at h
  exact FRM.tr FRM.rf (hr_98 x1 x2 x3 x4 (x5 + 1) σ _ h)
theorem frX9_could_164 {r98 : Int32 → Int32 → Int32 → Int32 → Int32 → PS → Option (Int32 × PS)} (hr_98 : ∀ (x1 : Int32) (x2 : Int32) (x3 : Int32) (x4 : Int32) (x5 : Int32) (σ : PS) (r : Int32 × PS), r98 x1 x2 x3 x4 x5 σ = some r → FRM SX9_could σ r.2) (x1 : Int32) (x2 : Int32) (x3 : Int32) (x4 : Int32) (x5 : Int32) (σ : PS) (r : Int32 × PS) (h : fX9_could_164 r98 x1 x2 x3 x4 x5 σ = some r) : FRM SX9_could σ r.2 := by
  unfold fX9_could_164 at h
  obtain ⟨hi19, h⟩ := gd_some h
  rcases ite_some h with ⟨hc, h⟩ | ⟨hc, h⟩
  · exact FRM.tr FRM.rf (frX9_could_185 hr_98 x1 x2 x3 x4 x5 σ _ h)
  · obtain ⟨hi20, h⟩ := gd_some h
    exact FRM.tr FRM.rf (frX9_could_185 hr_98 x1 x2 x3 (gi σ 171 (x5 : Int32).toNatClampNeg) x5 σ _ h)
theorem frX9_could_98 : ∀ (n : Nat) (x1 : Int32) (x2 : Int32) (x3 : Int32) (x4 : Int32) (x5 : Int32) (σ : PS) (r : Int32 × PS), fX9_could_98 n x1 x2 x3 x4 x5 σ = some r → FRM SX9_could σ r.2 := by
  intro n
  induction n with
  | zero =>
    intro x1 x2 x3 x4 x5 σ r h
    rw [fX9_could_98] at h
    cases h
  | succ n ih =>
    intro x1 x2 x3 x4 x5 σ r h
    rw [fX9_could_98] at h
    rcases ite_some h with ⟨hc, h⟩ | ⟨hc, h⟩
    · obtain ⟨q8, e9, h⟩ := bind_some h
      try dsimp only at h
      have g10 := frX9_goes _ _ _ e9
      obtain ⟨hi11, h⟩ := gd_some h
      obtain ⟨hi12, h⟩ := gd_some h
      rcases ite_some h with ⟨hc, h⟩ | ⟨hc, h⟩
      · exact FRM.tr (FRM.tr FRM.rf (FRM.mono g10 (by decide))) (frX9_could_227 x3 (gi q8 168 (x1 : Int32).toNatClampNeg) 0 x4 q8 _ h)
      · exact FRM.tr (FRM.tr FRM.rf (FRM.mono g10 (by decide))) (frX9_could_227 x3 (gi q8 168 (x1 : Int32).toNatClampNeg) 0 (x4 + 1) q8 _ h)
    · obtain ⟨hi13, h⟩ := gd_some h
      rcases ite_some h with ⟨hc, h⟩ | ⟨hc, h⟩
      · obtain ⟨hi14, h⟩ := gd_some h
        rcases ite_some h with ⟨hc, h⟩ | ⟨hc, h⟩
        · obtain ⟨hi15, h⟩ := gd_some h
          obtain ⟨hi16, h⟩ := gd_some h
          rcases ite_some h with ⟨hc, h⟩ | ⟨hc, h⟩
          · exact FRM.tr FRM.rf (frX9_could_164 ih x1 x2 x3 x4 x5 σ _ h)
          · obtain ⟨hi17, h⟩ := gd_some h
            obtain ⟨hi18, h⟩ := gd_some h
            rcases ite_some h with ⟨hc, h⟩ | ⟨hc, h⟩
            · rcases ite_some h with ⟨hc, h⟩ | ⟨hc, h⟩
              · exact FRM.tr FRM.rf (frX9_could_185 ih x1 x2 x3 x4 x5 σ _ h)
              · exact FRM.tr FRM.rf (frX9_could_164 ih x1 x2 x3 x4 x5 σ _ h)
            · exact FRM.tr FRM.rf (frX9_could_185 ih x1 x2 x3 x4 x5 σ _ h)
        · exact FRM.tr FRM.rf (frX9_could_185 ih x1 x2 x3 x4 x5 σ _ h)
      · exact FRM.tr FRM.rf (frX9_could_185 ih x1 x2 x3 x4 x5 σ _ h)
theorem frX9_could_79 {r27 : Int32 → Int32 → Int32 → Int32 → PS → Option (Int32 × PS)} (hr_27 : ∀ (x1 : Int32) (x2 : Int32) (x3 : Int32) (x4 : Int32) (σ : PS) (r : Int32 × PS), r27 x1 x2 x3 x4 σ = some r → FRM SX9_could σ r.2) (x1 : Int32) (x2 : Int32) (x3 : Int32) (x4 : Int32) (σ : PS) (r : Int32 × PS) (h : fX9_could_79 r27 x1 x2 x3 x4 σ = some r) : FRM SX9_could σ r.2 := by
  unfold fX9_could_79 at h
  exact FRM.tr FRM.rf (hr_27 x1 x2 x3 (x4 + 1) σ _ h)
theorem frX9_could_76 {r27 : Int32 → Int32 → Int32 → Int32 → PS → Option (Int32 × PS)} (hr_27 : ∀ (x1 : Int32) (x2 : Int32) (x3 : Int32) (x4 : Int32) (σ : PS) (r : Int32 × PS), r27 x1 x2 x3 x4 σ = some r → FRM SX9_could σ r.2) (x1 : Int32) (x2 : Int32) (x4 : Int32) (σ : PS) (r : Int32 × PS) (h : fX9_could_76 r27 x1 x2 x4 σ = some r) : FRM SX9_could σ r.2 := by
  unfold fX9_could_76 at h
  exact FRM.tr FRM.rf (frX9_could_79 hr_27 x1 x2 x4 x4 σ _ h)
theorem frX9_could_27 : ∀ (n : Nat) (x1 : Int32) (x2 : Int32) (x3 : Int32) (x4 : Int32) (σ : PS) (r : Int32 × PS), fX9_could_27 n x1 x2 x3 x4 σ = some r → FRM SX9_could σ r.2 := by
  intro n
  induction n with
  | zero =>
    intro x1 x2 x3 x4 σ r h
    rw [fX9_could_27] at h
    cases h
  | succ n ih =>
    intro x1 x2 x3 x4 σ r h
    rw [fX9_could_27] at h
    rcases ite_some h with ⟨hc, h⟩ | ⟨hc, h⟩
    · rcases ite_some h with ⟨hc, h⟩ | ⟨hc, h⟩
      · cases h
        exact FRM.rf
      · exact FRM.tr FRM.rf (frX9_could_98 FU x1 x2 x3 (-1) 0 σ _ h)
    · obtain ⟨hi4, h⟩ := gd_some h
      rcases ite_some h with ⟨hc, h⟩ | ⟨hc, h⟩
      · obtain ⟨hi5, h⟩ := gd_some h
        rcases ite_some h with ⟨hc, h⟩ | ⟨hc, h⟩
        · rcases ite_some h with ⟨hc, h⟩ | ⟨hc, h⟩
          · exact FRM.tr FRM.rf (frX9_could_76 ih x1 x2 x4 σ _ h)
          · obtain ⟨hi6, h⟩ := gd_some h
            obtain ⟨hi7, h⟩ := gd_some h
            rcases ite_some h with ⟨hc, h⟩ | ⟨hc, h⟩
            · exact FRM.tr FRM.rf (frX9_could_79 ih x1 x2 x3 x4 σ _ h)
            · exact FRM.tr FRM.rf (frX9_could_76 ih x1 x2 x4 σ _ h)
        · exact FRM.tr FRM.rf (frX9_could_79 ih x1 x2 x3 x4 σ _ h)
      · exact FRM.tr FRM.rf (frX9_could_79 ih x1 x2 x3 x4 σ _ h)
theorem frX9_could (a1 : Int32) (a2 : Int32) (σ : PS) (r : Int32 × PS) (h : fX9_could a1 a2 σ = some r) : FRM SX9_could σ r.2 := by
  unfold fX9_could at h
  rcases ite_some h with ⟨hc, h⟩ | ⟨hc, h⟩
  · cases h
    exact FRM.rf
  · rcases ite_some h with ⟨hc, h⟩ | ⟨hc, h⟩
    · cases h
      exact FRM.rf
    · obtain ⟨q1, e2, h⟩ := bind_some h
      try dsimp only at h
      have g3 := frX9_isKnown _ _ _ e2
      rcases ite_some h with ⟨hc, h⟩ | ⟨hc, h⟩
      · cases h
        exact (FRM.tr FRM.rf (FRM.mono g3 (by decide)))
      · exact FRM.tr (FRM.tr FRM.rf (FRM.mono g3 (by decide))) (frX9_could_27 FU a1 a2 (-1) 0 q1.2 _ h)

def SX9_sealed : List (Nat × Nat) := []
theorem frX9_sealed_73 {r32 : Int32 → Int32 → Int32 → Int32 → PS → Option (Int32 × PS)} (hr_32 : ∀ (x1 : Int32) (x2 : Int32) (x3 : Int32) (x4 : Int32) (σ : PS) (r : Int32 × PS), r32 x1 x2 x3 x4 σ = some r → FRM SX9_sealed σ r.2) (x1 : Int32) (x2 : Int32) (x3 : Int32) (x4 : Int32) (σ : PS) (r : Int32 × PS) (h : fX9_sealed_73 r32 x1 x2 x3 x4 σ = some r) : FRM SX9_sealed σ r.2 := by
  unfold fX9_sealed_73 at h
  exact FRM.tr FRM.rf (hr_32 x1 x2 x3 (x4 + 1) σ _ h)
theorem frX9_sealed_32 : ∀ (n : Nat) (x1 : Int32) (x2 : Int32) (x3 : Int32) (x4 : Int32) (σ : PS) (r : Int32 × PS), fX9_sealed_32 n x1 x2 x3 x4 σ = some r → FRM SX9_sealed σ r.2 := by
  intro n
  induction n with
  | zero =>
    intro x1 x2 x3 x4 σ r h
    rw [fX9_sealed_32] at h
    cases h
  | succ n ih =>
    intro x1 x2 x3 x4 σ r h
    rw [fX9_sealed_32] at h
    rcases ite_some h with ⟨hc, h⟩ | ⟨hc, h⟩
    · cases h
      exact FRM.rf
    · obtain ⟨hi7, h⟩ := gd_some h
      rcases ite_some h with ⟨hc, h⟩ | ⟨hc, h⟩
      · obtain ⟨hi8, h⟩ := gd_some h
        rcases ite_some h with ⟨hc, h⟩ | ⟨hc, h⟩
        · obtain ⟨hi9, h⟩ := gd_some h
          rcases ite_some h with ⟨hc, h⟩ | ⟨hc, h⟩
          · exact FRM.tr FRM.rf (frX9_sealed_73 ih x1 x2 x3 x4 σ _ h)
          · cases h
            exact FRM.rf
        · exact FRM.tr FRM.rf (frX9_sealed_73 ih x1 x2 x3 x4 σ _ h)
      · exact FRM.tr FRM.rf (frX9_sealed_73 ih x1 x2 x3 x4 σ _ h)
theorem frX9_sealed (a1 : Int32) (a2 : Int32) (a3 : Int32) (σ : PS) (r : Int32 × PS) (h : fX9_sealed a1 a2 a3 σ = some r) : FRM SX9_sealed σ r.2 := by
  unfold fX9_sealed at h
  rcases ite_some h with ⟨hc, h⟩ | ⟨hc, h⟩
  · cases h
    exact FRM.rf
  · rcases ite_some h with ⟨hc, h⟩ | ⟨hc, h⟩
    · cases h
      exact FRM.rf
    · obtain ⟨q1, e2, h⟩ := bind_some h
      try dsimp only at h
      have g3 := frX9_isDay _ _ _ e2
      rcases ite_some h with ⟨hc, h⟩ | ⟨hc, h⟩
      · cases h
        exact (FRM.tr FRM.rf (FRM.mono g3 (by decide)))
      · obtain ⟨q4, e5, h⟩ := bind_some h
        try dsimp only at h
        have g6 := frX9_isKnown _ _ _ e5
        rcases ite_some h with ⟨hc, h⟩ | ⟨hc, h⟩
        · cases h
          exact (FRM.tr (FRM.tr FRM.rf (FRM.mono g3 (by decide))) (FRM.mono g6 (by decide)))
        · exact FRM.tr (FRM.tr (FRM.tr FRM.rf (FRM.mono g3 (by decide))) (FRM.mono g6 (by decide))) (frX9_sealed_32 FU a1 a2 a3 0 q4.2 _ h)

def SX9_tolls : List (Nat × Nat) := [(132, 132), (172, 192)]
theorem frX9_tolls (a1 : Int32) (a2 : Int32) (a3 : Int32) (σ : PS) (r : Int32 × PS) (h : fX9_tolls a1 a2 a3 σ = some r) : FRM SX9_tolls σ r.2 := by
  unfold fX9_tolls at h
  rcases ite_some h with ⟨hc, h⟩ | ⟨hc, h⟩
  · cases h
    exact FRM.rf
  · rcases ite_some h with ⟨hc, h⟩ | ⟨hc, h⟩
    · cases h
      exact FRM.rf
    · obtain ⟨q1, e2, h⟩ := bind_some h
      try dsimp only at h
      have g3 := frX9_isDay _ _ _ e2
      rcases ite_some h with ⟨hc, h⟩ | ⟨hc, h⟩
      · cases h
        exact (FRM.tr FRM.rf (FRM.mono g3 (by decide)))
      · obtain ⟨q4, e5, h⟩ := bind_some h
        try dsimp only at h
        have g6 := frX9_isKnown _ _ _ e5
        rcases ite_some h with ⟨hc, h⟩ | ⟨hc, h⟩
        · cases h
          exact (FRM.tr (FRM.tr FRM.rf (FRM.mono g3 (by decide))) (FRM.mono g6 (by decide)))
        · obtain ⟨q7, e8, h⟩ := bind_some h
          try dsimp only at h
          have g9 := frX9_goes _ _ _ e8
          obtain ⟨hi10, h⟩ := gd_some h
          cases h
          exact (FRM.tr (FRM.tr (FRM.tr FRM.rf (FRM.mono g3 (by decide))) (FRM.mono g6 (by decide))) (FRM.mono g9 (by decide)))

def SX9_crowded : List (Nat × Nat) := [(132, 132), (172, 192)]
theorem frX9_crowded_83 {r33 : Int32 → Int32 → PS → Option (Int32 × PS)} (hr_33 : ∀ (x1 : Int32) (x4 : Int32) (σ : PS) (r : Int32 × PS), r33 x1 x4 σ = some r → FRM SX9_crowded σ r.2) {r43 : Int32 → Int32 → Int32 → PS → Option (Int32 × PS)} (hr_43 : ∀ (x1 : Int32) (x4 : Int32) (x5 : Int32) (σ : PS) (r : Int32 × PS), r43 x1 x4 x5 σ = some r → FRM SX9_crowded σ r.2) (x1 : Int32) (x4 : Int32) (x5 : Int32) (σ : PS) (r : Int32 × PS) (h : fX9_crowded_83 r33 r43 x1 x4 x5 σ = some r) : FRM SX9_crowded σ r.2 := by
  unfold fX9_crowded_83 at h
  exact FRM.tr FRM.rf (hr_43 x1 x4 (x5 + 1) σ _ h)
theorem frX9_crowded_43 {r33 : Int32 → Int32 → PS → Option (Int32 × PS)} (hr_33 : ∀ (x1 : Int32) (x4 : Int32) (σ : PS) (r : Int32 × PS), r33 x1 x4 σ = some r → FRM SX9_crowded σ r.2) : ∀ (n : Nat) (x1 : Int32) (x4 : Int32) (x5 : Int32) (σ : PS) (r : Int32 × PS), fX9_crowded_43 r33 n x1 x4 x5 σ = some r → FRM SX9_crowded σ r.2 := by
  intro n
  induction n with
  | zero =>
    intro x1 x4 x5 σ r h
    rw [fX9_crowded_43] at h
    cases h
  | succ n ih =>
    intro x1 x4 x5 σ r h
    rw [fX9_crowded_43] at h
    rcases ite_some h with ⟨hc, h⟩ | ⟨hc, h⟩
    · exact FRM.tr FRM.rf (hr_33 x1 (x4 + 1) σ _ h)
    · obtain ⟨hi13, h⟩ := gd_some h
      rcases ite_some h with ⟨hc, h⟩ | ⟨hc, h⟩
      · obtain ⟨q14, e15, h⟩ := bind_some h
        try dsimp only at h
        have g16 := frX9_isOutside _ _ _ _ e15
        rcases ite_some h with ⟨hc, h⟩ | ⟨hc, h⟩
        · exact FRM.tr (FRM.tr FRM.rf (FRM.mono g16 (by decide))) (frX9_crowded_83 hr_33 ih x1 x4 x5 q14.2 _ h)
        · cases h
          exact (FRM.tr FRM.rf (FRM.mono g16 (by decide)))
      · exact FRM.tr FRM.rf (frX9_crowded_83 hr_33 ih x1 x4 x5 σ _ h)
theorem frX9_crowded_33 : ∀ (n : Nat) (x1 : Int32) (x4 : Int32) (σ : PS) (r : Int32 × PS), fX9_crowded_33 n x1 x4 σ = some r → FRM SX9_crowded σ r.2 := by
  intro n
  induction n with
  | zero =>
    intro x1 x4 σ r h
    rw [fX9_crowded_33] at h
    cases h
  | succ n ih =>
    intro x1 x4 σ r h
    rw [fX9_crowded_33] at h
    rcases ite_some h with ⟨hc, h⟩ | ⟨hc, h⟩
    · cases h
      exact FRM.rf
    · exact FRM.tr FRM.rf (frX9_crowded_43 ih FU x1 x4 0 σ _ h)
theorem frX9_crowded (a1 : Int32) (a2 : Int32) (a3 : Int32) (σ : PS) (r : Int32 × PS) (h : fX9_crowded a1 a2 a3 σ = some r) : FRM SX9_crowded σ r.2 := by
  unfold fX9_crowded at h
  obtain ⟨q1, e2, h⟩ := bind_some h
  try dsimp only at h
  have g3 := frX9_isInn _ _ _ e2
  rcases ite_some h with ⟨hc, h⟩ | ⟨hc, h⟩
  · cases h
    exact (FRM.tr FRM.rf (FRM.mono g3 (by decide)))
  · obtain ⟨q4, e5, h⟩ := bind_some h
    try dsimp only at h
    have g6 := frX9_isDay _ _ _ e5
    rcases ite_some h with ⟨hc, h⟩ | ⟨hc, h⟩
    · cases h
      exact (FRM.tr (FRM.tr FRM.rf (FRM.mono g3 (by decide))) (FRM.mono g6 (by decide)))
    · obtain ⟨q7, e8, h⟩ := bind_some h
      try dsimp only at h
      have g9 := frX9_isKnown _ _ _ e8
      rcases ite_some h with ⟨hc, h⟩ | ⟨hc, h⟩
      · cases h
        exact (FRM.tr (FRM.tr (FRM.tr FRM.rf (FRM.mono g3 (by decide))) (FRM.mono g6 (by decide))) (FRM.mono g9 (by decide)))
      · obtain ⟨q10, e11, h⟩ := bind_some h
        try dsimp only at h
        have g12 := frX9_goes _ _ _ e11
        exact FRM.tr (FRM.tr (FRM.tr (FRM.tr (FRM.tr FRM.rf (FRM.mono g3 (by decide))) (FRM.mono g6 (by decide))) (FRM.mono g9 (by decide))) (FRM.mono g12 (by decide))) (frX9_crowded_33 FU a1 a2 q10 _ h)

def SX9_count : List (Nat × Nat) := []
theorem frX9_count (a1 : Int32) (σ : PS) (r : Int32 × PS) (h : fX9_count a1 σ = some r) : FRM SX9_count σ r.2 := by
  unfold fX9_count at h
  rcases ite_some h with ⟨hc, h⟩ | ⟨hc, h⟩
  · cases h
    exact FRM.rf
  rcases ite_some h with ⟨hc, h⟩ | ⟨hc, h⟩
  · cases h
    exact FRM.rf
  rcases ite_some h with ⟨hc, h⟩ | ⟨hc, h⟩
  · cases h
    exact FRM.rf
  rcases ite_some h with ⟨hc, h⟩ | ⟨hc, h⟩
  · cases h
    exact FRM.rf
  rcases ite_some h with ⟨hc, h⟩ | ⟨hc, h⟩
  · obtain ⟨hi1, h⟩ := gd_some h
    cases h
    exact FRM.rf
  rcases ite_some h with ⟨hc, h⟩ | ⟨hc, h⟩
  · cases h
    exact FRM.rf
  cases h
  exact FRM.rf

